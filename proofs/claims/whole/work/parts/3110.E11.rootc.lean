section ROOT15
/-- the two bits of the next digit put behind -/
theorem or_2 {a b : Nat} (h : b < 4) : a * 2 ^ 2 ||| b = 4 * a + b := by
  have := Nat.two_pow_add_eq_or_of_lt (i := 2) (b := b) h a
  rw [Nat.mul_comm a, ← this]
theorem root_dig {G : Nat → KT} {K : RT} (hc : cloX13_root G K wT) {M : Mem} (hW : Wf M) {o0 o1 o2 o3 : Option Value} {by_ : UInt64} {X : Nat} (hX : X < 2 ^ 54)
    (h : ∀ r w, isR (X * 4 ^ 27) r w → vf_n64 (FP.ddiv (FP.l2d (lN (rndQ r w))) (4841369599423283200 : UInt64)) ∧ vf_n64 (FP.dmul (FP.ddiv (FP.l2d (lN (rndQ r w))) (4841369599423283200 : UInt64)) by_) ∧ K (some (.double (FP.dmul (FP.ddiv (FP.l2d (lN (rndQ r w))) (4841369599423283200 : UInt64)) by_))) M) :
    ∀ i : Nat, i ≤ 54 → ∀ (r w : Nat) (o13 o14 : Option Value), isR (X * 4 ^ 27 / 4 ^ i) r w → G 71 [o0, o1, o2, o3, some (.double by_), none, some (.long (lN X)), none, some (.long (lN w)), none, some (.long (lN r)), none, some (.int (iI (2 * (i : Int) - 56))), o13, o14] [] M := by
  intro i
  induction i with
  | zero =>
    intro _ r w o13 o14 hr
    rw [Nat.pow_zero, Nat.div_one] at hr
    have hb : r < 2 ^ 54 := isR_lt hr (by have : X * 4 ^ 27 < 2 ^ 54 * 4 ^ 27 := Nat.mul_lt_mul_of_pos_right hX (by decide)
                                          exact this)
    have hw := hr.2
    have h := h r w hr
    refine eX13_root_71 hc hW ⟨fun _ => ?_, fun z => absurd (by decide) z⟩
    rw [show (1 : Int64) = lN (2 ^ 1 - 1) from rfl, wb_mask (by omega) (by decide), show (1 : Int32) = nI 1 from rfl, ssh (by omega) (by decide), wb_mask (by omega) (by decide), show (0 : Int64) = lN 0 from rfl, show lN (2 ^ 1 - 1) = lN 1 from rfl, l6_eq (by omega) (by decide), l6_eq (by omega) (by decide), l6_eq (by omega) (by decide)]
    have fin : ∀ s0 : Int32, (s0 = 0 → rndQ r w = r / 2 ^ 1) → (¬ s0 = 0 → rndQ r w = r / 2 ^ 1 + 1) → ∀ o14, G 184 [o0, o1, o2, o3, some (.double by_), none, some (.long (lN X)), none, some (.long (lN w)), none, some (.long (lN r)), none, some (.long (lN (r / 2 ^ 1))), none, o14] [.int s0] M := by
      intro s0 z0 z1 o14
      refine eX13_root_184 hc hW ⟨fun z => ?_, fun z => ?_⟩
      · rw [← z0 z]; exact h
      · rw [show (1 : Int64) = lN 1 from rfl, lN_add, ← z1 z]; exact h
    unfold rndQ at fin
    refine ⟨fun a => fin 0 (fun _ => ?_) (fun z => absurd rfl z) _, fun a => ⟨fun b => fin 1 (fun z => absurd z (by decide)) (fun _ => ?_) _, fun b => ⟨fun d => fin 0 (fun _ => ?_) (fun z => absurd rfl z) _, fun d => fin 1 (fun z => absurd z (by decide)) (fun _ => ?_) _⟩⟩⟩
    · rw [if_neg (fun z => a (by omega))]
    · rw [if_pos ⟨by omega, Or.inl b⟩]
    · rw [if_neg (fun z => z.2.elim (fun y => y b) (fun y => d (by omega)))]
    · rw [if_pos ⟨by omega, Or.inr (by omega)⟩]
  | succ i ih =>
    intro hi r w o13 o14 hr
    have hvb : X * 4 ^ 27 / 4 ^ (i + 1) < 2 ^ (2 * 53) := by
      rw [Nat.div_lt_iff_lt_mul (Nat.pow_pos (by decide))]
      have h1 : X * 4 ^ 27 < 2 ^ 54 * 4 ^ 27 := Nat.mul_lt_mul_of_pos_right hX (by decide)
      have h2 : 4 ^ 1 ≤ 4 ^ (i + 1) := Nat.pow_le_pow_right (by decide) (by omega)
      have h3 : 2 ^ (2 * 53) * 4 ^ 1 ≤ 2 ^ (2 * 53) * 4 ^ (i + 1) := Nat.mul_le_mul_left _ h2
      omega
    have hb := isR_lt hr hvb
    have hw := hr.2
    have hstep : X * 4 ^ 27 / 4 ^ i = 4 * (X * 4 ^ 27 / 4 ^ (i + 1)) + X * 4 ^ 27 / 4 ^ i % 4 := by
      rw [show 4 ^ (i + 1) = 4 ^ i * 4 from Nat.pow_succ 4 i, ← Nat.div_div_eq_div_mul]
      exact (Nat.div_add_mod _ 4).symm
    have hbit : X * 4 ^ 27 / 4 ^ i % 4 < 4 := Nat.mod_lt _ (by decide)
    have ek : iI (2 * ((i + 1 : Nat) : Int) - 56) + (-2 : Int32) = iI (2 * (i : Int) - 56) := by
      rw [show (-2 : Int32) = iI (-2) from rfl, iI_add]
      congr 1
      omega
    have fin : ∀ s0 : Int64, s0 = lN (X * 4 ^ 27 / 4 ^ i % 4) → ∀ o8 o9, G 100 [o0, o1, o2, o3, some (.double by_), none, some (.long (lN X)), none, o8, o9, some (.long (lN r)), none, some (.int (iI (2 * ((i + 1 : Nat) : Int) - 56))), o13, o14] [.long s0, .long (lN w <<< ((2 : Int32).toInt64 &&& 63))] M := by
      intro s0 hs0 o8 o9
      subst hs0
      refine eX13_root_100 hc hW ?_
      rw [ek, show (2 : Int32) = nI 2 from rfl, wb_shl _ (by decide), show (1 : Int32) = nI 1 from rfl, wb_shl _ (by decide), show (2 : Int64) = lN 2 from rfl, lN_mul, show (1 : Int64) = lN 1 from rfl, lN_add, lN_add, wb_or (by omega) (by omega), or_2 hbit, l6_lt (by omega) (by omega)]
      rw [hstep] at ih
      refine ⟨fun q => ?_, fun q => ?_⟩
      · have := isR_lo hr hbit (by omega)
        rw [show r * 2 ^ 1 = 2 * r by omega]
        exact ih (by omega) _ _ _ _ this
      · intro y6 hy6 y7 hy7
        have := isR_hi hr hbit (by omega)
        rw [hy6, hy7, lN_sub (by omega), show r * 2 ^ 1 + 1 = 2 * r + 1 by omega, show 2 * (r * 2 ^ 1) + 1 = 4 * r + 1 by omega]
        exact ih (by omega) _ _ _ _ this
    refine eX13_root_71 hc hW ⟨fun z => ?_, fun _ => ?_⟩
    · rw [show (-54 : Int32) = iI (-54) from rfl, iI_lt (by omega) (by omega)] at z
      omega
    · rw [show (0 : Int32) = iI 0 from rfl, iI_lt (by omega) (by omega)]
      refine ⟨fun q => fin _ ?_ _ _, fun q => fin _ ?_ _ _⟩
      · have e1 : X * 4 ^ 27 / 4 ^ i % 4 = 0 := by
          rw [show (4 : Nat) ^ 27 = 4 ^ (27 - i) * 4 ^ i by rw [← Nat.pow_add]; congr 1; omega, ← Nat.mul_assoc, Nat.mul_div_cancel _ (Nat.pow_pos (by decide))]
          obtain ⟨p, hp⟩ := Nat.exists_eq_add_of_le (show 1 ≤ 27 - i by omega)
          rw [hp, Nat.pow_add, Nat.pow_one, Nat.mul_comm 4, ← Nat.mul_assoc, Nat.mul_mod_left]
        rw [e1]
        rfl
      · obtain ⟨p, hp⟩ : ∃ p : Nat, i = 27 + p := ⟨i - 27, by omega⟩
        subst hp
        have e2 : iI (2 * ((27 + p + 1 : Nat) : Int) - 56) = nI (2 * p) := by
          rw [show (2 * ((27 + p + 1 : Nat) : Int) - 56) = ((2 * p : Nat) : Int) by omega, iI_nat]
        rw [e2, ssh (by omega) (by omega), show (3 : Int64) = lN (2 ^ 2 - 1) from rfl, wb_mask (by have := Nat.div_le_self X (2 ^ (2 * p)); omega) (by decide)]
        congr 1
        rw [Nat.pow_add, Nat.mul_comm X, Nat.mul_div_mul_left _ _ (show 0 < 4 ^ 27 by decide), Nat.pow_mul]
end ROOT15
