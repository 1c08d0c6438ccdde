section ROOT14
theorem isR_8 {V r w s u : Nat} (h : isR V r w) (h' : isR (V * 64) s u) : r = s / 8 ∧ (w = 0 ↔ s % 8 = 0 ∧ u = 0) := by
  obtain ⟨a1, a2⟩ := h'
  have h1 : s / 8 * (s / 8) * 64 ≤ s * s := by
    have : s / 8 * 8 ≤ s := Nat.div_mul_le_self s 8
    have := Nat.mul_le_mul this this
    grind
  have h2 : (s + 1) * (s + 1) ≤ (s / 8 + 1) * (s / 8 + 1) * 64 := by
    have : s + 1 ≤ (s / 8 + 1) * 8 := by omega
    have := Nat.mul_le_mul this this
    grind
  have e2 : (s + 1) * (s + 1) = s * s + 2 * s + 1 := by grind
  have e3 : (s / 8 + 1) * (s / 8 + 1) = s / 8 * (s / 8) + 2 * (s / 8) + 1 := by grind
  have key : isR V (s / 8) (V - s / 8 * (s / 8)) := by
    refine ⟨by omega, by omega⟩
  obtain ⟨b1, b2⟩ := isR_one h key
  refine ⟨b1, fun z => ?_, fun z => ?_⟩
  · have hV : V = s / 8 * (s / 8) := by
      have := h.1
      rw [z, b1] at this
      omega
    have : isR (V * 64) (8 * (s / 8)) 0 := ⟨by rw [hV]; grind, by omega⟩
    obtain ⟨c1, c2⟩ := isR_one ⟨a1, a2⟩ this
    exact ⟨by omega, c2⟩
  · obtain ⟨z1, z2⟩ := z
    have e : s = 8 * (s / 8) := by omega
    have : s * s = 64 * (s / 8 * (s / 8)) := by
      generalize s / 8 = t at e
      subst e
      grind
    rw [b2]
    omega
def rndQ (r w : Nat) : Nat := if r % 2 = 1 ∧ (w ≠ 0 ∨ r / 2 % 2 = 1) then r / 2 + 1 else r / 2
def stkS (s u : Nat) : Nat := if u = 0 then s else s ||| 1
theorem stk_cs (s u : Nat) : stkS s u = if u = 0 then s else if s % 2 = 0 then s + 1 else s := by
  unfold stkS
  rw [or1]
theorem near_Q {V r w s u : Nat} (h : isR V r w) (h' : isR (V * 64) s u) : FP.Core.nearest (stkS s u) 16 = rndQ r w := by
  obtain ⟨e1, e2⟩ := isR_8 h h'
  unfold FP.Core.nearest rndQ
  rw [stk_cs]
  simp only [ne_eq, e2]
  subst e1
  clear e2 h h'
  by_cases c1 : u = 0
  · rw [if_pos c1]
    repeat' split
    all_goals omega
  · rw [if_neg c1]
    by_cases c2 : s % 2 = 0
    · rw [if_pos c2]
      repeat' split
      all_goals omega
    · rw [if_neg c2]
      repeat' split
      all_goals omega
theorem near_b {S : Nat} : 16 * FP.Core.nearest S 16 ≤ S + 8 ∧ S ≤ 16 * FP.Core.nearest S 16 + 8 := by
  unfold FP.Core.nearest
  repeat' split
  all_goals omega
theorem stk_b (s u : Nat) : s ≤ stkS s u ∧ stkS s u ≤ s + 1 := by
  rw [stk_cs]
  repeat' split
  all_goals omega
theorem no_mid {Y a s u : Nat} (h : isR (Y * 2 ^ 89) s u) (h1 : (2 * a + 1) * 2 ^ 32 ≤ s + 9) (h2 : s ≤ (2 * a + 1) * 2 ^ 32 + 8) (ha : a ≤ 2 ^ 24) : False := by
  obtain ⟨e1, e2⟩ := h
  obtain ⟨Z, hZ⟩ : ∃ Z, Z = (2 * a + 1) * 2 ^ 32 := ⟨_, rfl⟩
  rw [← hZ] at h1 h2
  have q : Z * Z = 18446744073709551616 * (2 * (2 * (a * a) + 2 * a) + 1) := by rw [hZ]; grind
  have l1 : Z * Z ≤ (s + 9) * (s + 9) := Nat.mul_le_mul h1 h1
  have l2 : (s + 1) * (s + 1) ≤ (Z + 9) * (Z + 9) := Nat.mul_le_mul (by omega) (by omega)
  have x1 : (s + 9) * (s + 9) = s * s + 18 * s + 81 := by grind
  have x2 : (s + 1) * (s + 1) = s * s + 2 * s + 1 := by grind
  have x3 : (Z + 9) * (Z + 9) = Z * Z + 18 * Z + 81 := by grind
  have hY : Y * 2 ^ 89 = 18446744073709551616 * (2 * (Y * 16777216)) := by grind
  have hZb : Z < 288230376151711744 := by rw [hZ]; omega
  obtain ⟨A, hA⟩ : ∃ A, A = Y * 16777216 := ⟨_, rfl⟩
  obtain ⟨B, hB⟩ : ∃ B, B = 2 * (a * a) + 2 * a := ⟨_, rfl⟩
  obtain ⟨T, hT⟩ : ∃ T, T = s * s := ⟨_, rfl⟩
  rw [hY, ← hA, ← hT] at e1
  rw [x1, q, ← hB, ← hT] at l1
  rw [x2, x3, q, ← hB, ← hT] at l2
  clear hY hA hB hT q x1 x2 x3 hZ
  omega
theorem dbl_r {Y s u : Nat} (h : isR (Y * 2 ^ 89) s u) (hs : s < 2 ^ 57) : FP.Core.nearest (FP.Core.nearest (stkS s u) 16) (2 ^ 29) = FP.Core.nearest (stkS s u) (2 ^ 33) := by
  obtain ⟨b1, b2⟩ := stk_b s u
  obtain ⟨n1, n2⟩ := near_b (S := stkS s u)
  generalize stkS s u = S at *
  generalize FP.Core.nearest S 16 = Q at *
  have hm : ¬ Q % 536870912 = 268435456 := by
    intro z
    refine no_mid (a := Q / 536870912) h ?_ ?_ ?_
    · omega
    · omega
    · omega
  unfold FP.Core.nearest
  show (if 2 * (Q % 536870912) < 536870912 then Q / 536870912 else if 536870912 < 2 * (Q % 536870912) then Q / 536870912 + 1 else Q / 536870912 + Q / 536870912 % 2) = (if 2 * (S % 8589934592) < 8589934592 then S / 8589934592 else if 8589934592 < 2 * (S % 8589934592) then S / 8589934592 + 1 else S / 8589934592 + S / 8589934592 % 2)
  repeat' split
  all_goals omega
theorem pm_near {k : Int32} {fb m l : Nat} {e : Int} (hF : FK k (fm k) fb) (hm : 0 < m) (hl : m.log2 = l) (h1 : fb ≤ l) (h2 : (fm k).qmin ≤ (l : Int) + e - fb) : pm (fm k) m e = min (iN k) (((l : Int) + e - fb - (fm k).qmin).toNat * (fm k).tails + FP.Core.nearest m (2 ^ (l - fb))) := by
  obtain ⟨f1, f2, f3, f4, f5, f6, f7, f8, f9, f10, f11, f12, f13⟩ := hF
  have hq : rq (fm k) m e = (l : Int) + e - fb := by rw [rq_is f5, hl]; omega
  unfold pm rmag rc
  rw [if_neg (by omega), hq, show (e - ((l : Int) + e - fb)).toNat = 0 by omega, show ((l : Int) + e - fb - e).toNat = l - fb by omega, Nat.pow_zero, Nat.mul_one]
  rfl
theorem near_pow {a b : Nat} (h : b ≤ a) : FP.Core.nearest (2 ^ a) (2 ^ b) = 2 ^ (a - b) := by
  have e : 2 ^ a = 2 ^ (a - b) * 2 ^ b := by rw [← Nat.pow_add]; congr 1; omega
  rw [e]
  have := nr_scale (a := 2 ^ (a - b)) (b := 1) (k := 2 ^ b) (Nat.two_pow_pos b)
  rw [Nat.one_mul] at this
  rw [this, nr_one]
/-- the two roundings are one -/
theorem pm_two {k : Int32} {fb S Q : Nat} {E : Int} (hF : FK k (fm k) fb) (hS1 : 2 ^ 56 ≤ S) (hS2 : S < 2 ^ 57) (hQ1 : 2 ^ 52 ≤ Q) (hQ2 : Q ≤ 2 ^ 53) (hn : FP.Core.nearest Q (2 ^ (52 - fb)) = FP.Core.nearest S (2 ^ (56 - fb))) (hE : (fm k).qmin + fb ≤ E) : pm (fm k) Q (E - 52) = pm (fm k) S (E - 56) := by
  have hfb : fb ≤ 52 := hF.2.2.2.2.2.2.1
  have hT : (fm k).tails = 2 ^ fb := hF.2.2.2.1
  rw [pm_near hF (by omega) (log2_of hS1 hS2) (by omega) (by omega)]
  rcases Nat.lt_or_ge Q (2 ^ 53) with z | z
  · rw [pm_near hF (by omega) (log2_of hQ1 z) hfb (by omega), hn]
    congr 4
    omega
  · have e : Q = 2 ^ 53 := by omega
    subst e
    rw [pm_near hF (by omega) (log2_of (L := 53) (Nat.le_refl _) (by decide)) (by omega) (by omega), ← hn, near_pow (by omega), near_pow (by omega), hT]
    have a1 : ((53 : Nat) : Int) + (E - 52) - fb - (fm k).qmin = ((56 : Nat) : Int) + (E - 56) - fb - (fm k).qmin + 1 := by omega
    have a2 : (((56 : Nat) : Int) + (E - 56) - fb - (fm k).qmin + 1).toNat = (((56 : Nat) : Int) + (E - 56) - fb - (fm k).qmin).toNat + 1 := by omega
    have a3 : 53 - (53 - fb) = fb := by omega
    have a4 : 53 - (52 - fb) = fb + 1 := by omega
    rw [a1, a2, a3, a4, Nat.succ_mul, Nat.pow_succ]
    congr 1
    omega
end ROOT14
