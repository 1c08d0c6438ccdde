section ROOT
/-- the whole root by digits: v's root r, what is left over w -/
def isR (v r w : Nat) : Prop := r * r + w = v ∧ w ≤ 2 * r
theorem isR_0 : isR 0 0 0 := ⟨rfl, Nat.le_refl _⟩
theorem isR_hi {v r w b : Nat} (h : isR v r w) (c : b < 4) (q : 4 * r + 1 ≤ 4 * w + b) : isR (4 * v + b) (2 * r + 1) (4 * w + b - (4 * r + 1)) := by
  obtain ⟨h1, h2⟩ := h
  have e : (2 * r + 1) * (2 * r + 1) = 4 * (r * r) + 4 * r + 1 := by grind
  exact ⟨by rw [e]; omega, by omega⟩
theorem isR_lo {v r w b : Nat} (h : isR v r w) (c : b < 4) (q : ¬ 4 * r + 1 ≤ 4 * w + b) : isR (4 * v + b) (2 * r) (4 * w + b) := by
  obtain ⟨h1, h2⟩ := h
  have e : (2 * r) * (2 * r) = 4 * (r * r) := by grind
  exact ⟨by rw [e]; omega, by omega⟩
theorem isR_lt {v r w L : Nat} (h : isR v r w) (hv : v < 2 ^ (2 * L)) : r < 2 ^ L := by
  rcases Nat.lt_or_ge r (2 ^ L) with q | q
  · exact q
  · have := Nat.mul_le_mul q q
    rw [← Nat.pow_add, show L + L = 2 * L by omega] at this
    have := h.1
    omega
theorem isR_ge {v r w L : Nat} (h : isR v r w) (hv : 2 ^ (2 * L) ≤ v) : 2 ^ L ≤ r := by
  rcases Nat.lt_or_ge r (2 ^ L) with q | q
  · exfalso
    have h1 : (r + 1) * (r + 1) ≤ 2 ^ L * 2 ^ L := Nat.mul_le_mul q q
    rw [← Nat.pow_add, show L + L = 2 * L by omega] at h1
    have e : (r + 1) * (r + 1) = r * r + 2 * r + 1 := by grind
    have := h.1
    have := h.2
    omega
  · exact q
theorem isR_one {v r w r' w' : Nat} (h : isR v r w) (h' : isR v r' w') : r = r' ∧ w = w' := by
  obtain ⟨h1, h2⟩ := h
  obtain ⟨h3, h4⟩ := h'
  have key : ∀ a b x y : Nat, a * a + x = b * b + y → x ≤ 2 * a → ¬ a < b := by
    intro a b x y e1 e2 q
    have h5 : (a + 1) * (a + 1) ≤ b * b := Nat.mul_le_mul q q
    have e : (a + 1) * (a + 1) = a * a + 2 * a + 1 := by grind
    omega
  have k1 := key r r' w w' (by omega) h2
  have k2 := key r' r w' w (by omega) h4
  have : r = r' := by omega
  subst this
  exact ⟨rfl, by omega⟩
/-- the root of x 4^30, with a last 1 if it is not whole -/
theorem ro_62 {G : Nat → KT} {K : RT} (hc : cloX3_root G K wT) {k : Int32} (hk : isRk k) {x : Nat} {e6 : Int} (hx : x < 2 ^ 54) (he : -4000 ≤ e6 ∧ e6 ≤ 4000)
    {M : Mem} (hW : Wf M)
    (h : ∀ r w : Nat, isR (x * 4 ^ 30) r w → K (some (.long (bk k false (pm (fm k) (if w = 0 then r else r ||| 1) (e6.tdiv 2 - 30))))) M) :
    ∀ j : Nat, j ≤ 57 → ∀ (r w : Nat) (o1 o2 o5 o12 o13 o14 o15 : Option Value), isR (x * 4 ^ 30 / 4 ^ j) r w → G 62 [some (.int k), o1, o2, some (.long (lN x)), none, o5, some (.int (iI e6)), some (.long (lN r)), none, some (.long (lN w)), none, some (.int (iI ((j : Int) - 31))), o12, o13, o14, o15] [] M := by
  intro j
  induction j with
  | zero =>
    intro _ r w o1 o2 o5 o12 o13 o14 o15 hr
    rw [Nat.pow_zero, Nat.div_one] at hr
    have hb : r < 2 ^ 57 := isR_lt hr (by have : x * 4 ^ 30 < 2 ^ 54 * 4 ^ 30 := Nat.mul_lt_mul_of_pos_right hx (by decide)
                                          exact this)
    have hw := hr.2
    have h := h r w hr
    have hy : (iI e6 / (2 : Int32)) - (30 : Int32) = iI (e6.tdiv 2 - 30) := by
      have e1 : iI e6 / (2 : Int32) = iI (e6.tdiv 2) := by
        apply Int32.toInt_inj.mp
        have b : e6.tdiv 2 = e6.toNat / 2 ∨ e6.tdiv 2 = -(((-e6).toNat / 2 : Nat) : Int) := by
          rcases Int.le_total 0 e6 with q | q
          · left
            obtain ⟨n, rfl⟩ : ∃ n : Nat, e6 = n := ⟨e6.toNat, by omega⟩
            rw [Int.toNat_natCast]
            rfl
          · right
            obtain ⟨n, hn⟩ : ∃ n : Nat, e6 = -n := ⟨(-e6).toNat, by omega⟩
            subst hn
            rw [Int.neg_tdiv, Int.neg_neg, Int.toNat_natCast]
            rfl
        rw [Int32.toInt_div, iI_toInt (by omega) (by omega), show (2 : Int32).toInt = 2 by decide, iI_toInt (by omega) (by omega)]
        exact fb_bmod (by omega) (by omega)
      rw [e1, show (30 : Int32) = iI 30 from rfl, iI_sub]
    have hb2 : -4000 ≤ e6.tdiv 2 - 30 ∧ e6.tdiv 2 - 30 ≤ 4000 := by
      have b : e6.tdiv 2 = e6.toNat / 2 ∨ e6.tdiv 2 = -(((-e6).toNat / 2 : Nat) : Int) := by
        rcases Int.le_total 0 e6 with q | q
        · left
          obtain ⟨n, rfl⟩ : ∃ n : Nat, e6 = n := ⟨e6.toNat, by omega⟩
          rw [Int.toNat_natCast]
          rfl
        · right
          obtain ⟨n, hn⟩ : ∃ n : Nat, e6 = -n := ⟨(-e6).toNat, by omega⟩
          subst hn
          rw [Int.neg_tdiv, Int.neg_neg, Int.toNat_natCast]
          rfl
      omega
    refine eX3_root_62 hc hW ⟨fun _ => ?_, fun z => absurd (by decide) z⟩
    rw [show (0 : Int64) = lN 0 from rfl, l6_eq (by omega) (by decide), hy]
    refine ⟨fun q => ?_, fun q => ?_⟩
    · rw [if_neg q] at h
      rw [show (1 : Int64) = lN 1 from rfl, wb_or (by omega) (by decide)]
      exact c_X3_pack (s := false) hW hk rfl (by rw [or1]; split <;> omega) hb2 (rX3_root_158_5 hc hW h)
    · rw [if_pos q] at h
      exact c_X3_pack (s := false) hW hk rfl (by omega) hb2 (rX3_root_158_5 hc hW h)
  | succ j ih =>
    intro hj r w o1 o2 o5 o12 o13 o14 o15 hr
    have hvb : x * 4 ^ 30 / 4 ^ (j + 1) < 2 ^ (2 * 56) := by
      rw [Nat.div_lt_iff_lt_mul (Nat.pow_pos (by decide))]
      have h1 : x * 4 ^ 30 < 2 ^ 54 * 4 ^ 30 := Nat.mul_lt_mul_of_pos_right hx (by decide)
      have h2 : 4 ^ 1 ≤ 4 ^ (j + 1) := Nat.pow_le_pow_right (by decide) (by omega)
      have h3 : 2 ^ (2 * 56) * 4 ^ 1 ≤ 2 ^ (2 * 56) * 4 ^ (j + 1) := Nat.mul_le_mul_left _ h2
      omega
    have hb := isR_lt hr hvb
    have hw := hr.2
    -- the next two bits
    have hstep : x * 4 ^ 30 / 4 ^ j = 4 * (x * 4 ^ 30 / 4 ^ (j + 1)) + x * 4 ^ 30 / 4 ^ j % 4 := by
      rw [show 4 ^ (j + 1) = 4 ^ j * 4 from Nat.pow_succ 4 j, ← Nat.div_div_eq_div_mul]
      exact (Nat.div_add_mod _ 4).symm
    have hbit : x * 4 ^ 30 / 4 ^ j % 4 < 4 := Nat.mod_lt _ (by decide)
    have fin : ∀ s0 : Int64, s0 = lN (x * 4 ^ 30 / 4 ^ j % 4) → G 88 [some (.int k), o1, o2, some (.long (lN x)), none, o5, some (.int (iI e6)), some (.long (lN r)), none, some (.long (lN w)), none, some (.int (iI ((j + 1 : Nat) - 31))), o12, o13, o14, o15] [.long s0] M := by
      intro s0 hs0
      subst hs0
      refine eX3_root_88 hc hW ?_
      intro y4 hy4 y5 hy5
      rw [show (2 : Int32) = nI 2 from rfl, wb_shl _ (by decide), lN_add] at hy4
      rw [show (2 : Int32) = nI 2 from rfl, wb_shl _ (by decide), show (1 : Int64) = lN 1 from rfl, lN_add] at hy5
      subst hy4 hy5
      rw [l6_lt (by omega) (by omega), show (-1 : Int32) = iI (-1) from rfl, iI_add, show (((j + 1 : Nat) : Int) - 31 + -1) = (j : Int) - 31 by omega, show (1 : Int32) = nI 1 from rfl, wb_shl _ (by decide)]
      rw [hstep] at ih
      refine ⟨fun q => ?_, fun q => ?_⟩
      · have := isR_lo hr hbit (by omega)
        rw [show r * 2 ^ 1 = 2 * r by omega, show w * 2 ^ 2 = 4 * w by omega]
        exact ih (by omega) _ _ _ _ _ _ _ _ _ this
      · intro y6 hy6
        rw [show (1 : Int64) = lN 1 from rfl, lN_add, show r * 2 ^ 1 + 1 = 2 * r + 1 by omega] at hy6
        subst hy6
        have := isR_hi hr hbit (by omega)
        rw [lN_sub (by omega), show w * 2 ^ 2 = 4 * w by omega, show r * 2 ^ 2 = 4 * r by omega]
        exact ih (by omega) _ _ _ _ _ _ _ _ _ this
    refine eX3_root_62 hc hW ⟨fun z => ?_, fun _ => ?_⟩
    · rw [show (-30 : Int32) = iI (-30) from rfl, iI_lt (by omega) (by omega)] at z
      omega
    · rw [show (0 : Int32) = iI 0 from rfl, iI_lt (by omega) (by omega)]
      refine ⟨fun q => fin _ ?_, fun q => fin _ ?_⟩
      · -- below the number's own bits
        have e1 : x * 4 ^ 30 / 4 ^ j % 4 = 0 := by
          rw [show (4 : Nat) ^ 30 = 4 ^ (30 - j) * 4 ^ j by rw [← Nat.pow_add]; congr 1; omega, ← Nat.mul_assoc, Nat.mul_div_cancel _ (Nat.pow_pos (by decide))]
          obtain ⟨i, hi⟩ := Nat.exists_eq_add_of_le (show 1 ≤ 30 - j by omega)
          rw [hi, Nat.pow_add, Nat.pow_one, Nat.mul_comm 4, ← Nat.mul_assoc, Nat.mul_mod_left]
        rw [e1]
        rfl
      · obtain ⟨p, hp⟩ : ∃ p : Nat, j = 30 + p := ⟨j - 30, by omega⟩
        subst hp
        have e2 : ((2 : Int32) * iI (((30 + p + 1 : Nat) : Int) - 31)) = nI (2 * p) := by
          rw [show (((30 + p + 1 : Nat) : Int) - 31) = (p : Int) by omega, iI_nat]
          show nI 2 * nI p = nI (2 * p)
          exact (Int32.ofNat_mul 2 p).symm
        rw [e2, ssh (by omega) (by omega), show (3 : Int64) = lN (2 ^ 2 - 1) from rfl, wb_mask (by have := Nat.div_le_self x (2 ^ (2 * p)); omega) (by decide)]
        congr 1
        rw [show (2 : Nat) ^ (2 * p) = 4 ^ p from Nat.pow_mul 2 2 p, show (4 : Nat) ^ (30 + p) = 4 ^ p * 4 ^ 30 by rw [← Nat.pow_add]; congr 1; omega, Nat.mul_div_mul_right _ _ (Nat.pow_pos (by decide))]
/-- the root's magnitude as the class has it: x 2^(e6) is the number, e6 even -/
def roX (k : Int32) (n : Nat) : Nat := sgN (fm k) n * 2 ^ (52 - (sgN (fm k) n).log2) * 2 ^ ((exN (fm k) n - ((52 - (sgN (fm k) n).log2 : Nat) : Int)) % 2).toNat
def roE (k : Int32) (n : Nat) : Int := exN (fm k) n - ((52 - (sgN (fm k) n).log2 : Nat) : Int) - (exN (fm k) n - ((52 - (sgN (fm k) n).log2 : Nat) : Int)) % 2
theorem iI_and1 {z : Int} (h : -2147483648 ≤ z ∧ z < 2147483648) : iI z &&& 1 = nI (z % 2).toNat := by
  rcases Int.le_total 0 z with q | q
  · obtain ⟨n, rfl⟩ : ∃ n : Nat, z = n := ⟨z.toNat, by omega⟩
    rw [iI_nat, show (1 : Int32) = nI (2 ^ 1 - 1) from rfl, fa_mask]
    congr 1
  · obtain ⟨n, hn⟩ : ∃ n : Nat, z = (n : Int) - 4294967296 := ⟨(z + 4294967296).toNat, by omega⟩
    subst hn
    have e : iI ((n : Int) - 4294967296) = nI n := by
      rw [← iI_nat, show (n : Int) = ((n : Int) - 4294967296) + 4294967296 by omega, ← iI_add]
      rw [show iI 4294967296 = 0 by decide, Int32.add_zero]
      congr 1
      omega
    rw [e, show (1 : Int32) = nI (2 ^ 1 - 1) from rfl, fa_mask]
    congr 1
    omega
theorem c_X3_root {k : Int32} {n : Nat} {s : Bool} {M : Mem} {K : RT} (hW : Wf M) (hk : isRk k) (hn : n < iN k) (hs : s = true → n = 0) (h0 : n = 0 → K (some (.long (bk k s n))) M)
    (h : ∀ r w : Nat, 0 < n → s = false → isR (roX k n * 4 ^ 30) r w → K (some (.long (bk k false (pm (fm k) (if w = 0 then r else r ||| 1) ((roE k n).tdiv 2 - 30))))) M) : sp_X3_root [.int k, .long (bk k s n)] M K := by
  refine ⟨Nat.le_of_ble_eq_true rfl, fun G hc => ?_⟩
  rw [hW.1] at hc
  have g1 := sg_rng hk (n := n)
  have g3 := ex_rng hk (n := n) (by omega)
  have z0 : sgN (fm k) n = 0 ↔ n = 0 := by
    refine ⟨fun q => ?_, fun q => ?_⟩
    · have := pm_id hk hn
      rw [q, pm_0] at this
      exact this.symm
    · subst q
      unfold sgN
      rw [Nat.zero_div, if_pos rfl, Nat.zero_mod]
  refine eX3_root hc hW ?_
  rw [sg_bk hk (by omega), sgN_0 hk, ex_bk hk (by omega), z0]
  refine ⟨fun q => ?_, fun q => h0 q⟩
  have hs0 : s = false := by
    cases s with
    | false => rfl
    | true => exact absurd (hs rfl) q
  subst hs0
  have hpos : 0 < sgN (fm k) n := by
    rcases Nat.eq_zero_or_pos (sgN (fm k) n) with w | w
    · exact absurd (z0.mp w) q
    · exact w
  intro y1 hy1 y2 hy2 y3 hy3
  obtain ⟨u1, u2, u3⟩ := up_53 (c := sgN (fm k) n) hpos g1
  rw [up_l hpos g1] at hy1
  have hodd : (iI (exN (fm k) n) - nI (52 - (sgN (fm k) n).log2)) &&& (1 : Int32) = nI ((exN (fm k) n - ((52 - (sgN (fm k) n).log2 : Nat) : Int)) % 2).toNat := by
    rw [← iI_nat (52 - (sgN (fm k) n).log2), iI_sub]
    exact iI_and1 (by omega)
  have hd2 : ((exN (fm k) n - ((52 - (sgN (fm k) n).log2 : Nat) : Int)) % 2).toNat < 2 := by omega
  rw [hy1, hodd, nI_add, wb_shl _ (by omega), Nat.pow_add, ← Nat.mul_assoc] at hy2
  have hy3' : y3 = iI (roE k n) := by
    rw [hy3, hy1, hodd, ← iI_nat, ← iI_nat, iI_sub, iI_sub]
    unfold roE
    congr 1
    omega
  subst hy2 hy3'
  have hx : roX k n < 2 ^ 54 := by
    unfold roX
    have : 2 ^ ((exN (fm k) n - ((52 - (sgN (fm k) n).log2 : Nat) : Int)) % 2).toNat ≤ 2 ^ 1 := pow2_le (by omega)
    have := Nat.mul_le_mul_left (sgN (fm k) n * 2 ^ (52 - (sgN (fm k) n).log2)) this
    omega
  have he : -4000 ≤ roE k n ∧ roE k n ≤ 4000 := by unfold roE; omega
  have fin := ro_62 hc hk hx he hW (fun r w hr => h r w (by omega) rfl hr) 57 (by omega) 0 0
  rw [show (((57 : Nat) : Int) - 31) = 26 from rfl] at fin
  refine fin _ _ _ _ _ _ _ ?_
  rw [Nat.div_eq_of_lt]
  · exact isR_0
  · have h1 : roX k n * 4 ^ 30 < 2 ^ 54 * 4 ^ 30 := Nat.mul_lt_mul_of_pos_right hx (by decide)
    exact Nat.lt_of_lt_of_le h1 (by decide)
end ROOT
