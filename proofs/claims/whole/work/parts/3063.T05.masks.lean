section MASKS
/-- trailing noughts -/
theorem ntz_word {t u W : Nat} (hW : W = 2 ^ t + 2 ^ (t + 1) * u) (h32 : W < 2 ^ 32) : ((nI W ^^^ (-1 : Int32)) &&& (nI W - 1)) = nI (2 ^ t - 1) := by
  have ht : t < 32 := by
    have : 2 ^ t < 2 ^ 32 := by omega
    exact (Nat.pow_lt_pow_iff_right (by decide)).mp this
  have hp := Nat.two_pow_pos t
  have e1 : nI W - 1 = nI (W - 1) := by
    show nI W - nI 1 = _
    exact pk_sub (by omega)
  rw [e1]
  have hb : ∀ N i, i < 32 → bt (nI N) i = N.testBit i := fun N i hi => by
    show (BitVec.ofNat 32 N).getLsbD i = _
    rw [BitVec.getLsbD_ofNat]
    simp [hi]
  have hm1 : ∀ i, i < 32 → bt (-1 : Int32) i = true := by decide +kernel
  refine b_ext (fun i hi => ?_)
  rw [b_and, b_xor, hm1 i hi, hb W i hi, hb (W - 1) i hi, hb (2 ^ t - 1) i hi, Nat.testBit_two_pow_sub_one]
  have w1 : W - 1 = 2 ^ (t + 1) * u + (2 ^ t - 1) := by omega
  have w0 : W = 2 ^ (t + 1) * u + 2 ^ t := by omega
  have hlt : 2 ^ t - 1 < 2 ^ (t + 1) := by rw [Nat.pow_succ]; omega
  have hlt2 : 2 ^ t < 2 ^ (t + 1) := by rw [Nat.pow_succ]; omega
  by_cases c : i < t + 1
  · have a1 : (W - 1).testBit i = (2 ^ t - 1).testBit i := by rw [w1, Nat.testBit_two_pow_mul_add _ hlt, if_pos c]
    have a0 : W.testBit i = (2 ^ t).testBit i := by rw [w0, Nat.testBit_two_pow_mul_add _ hlt2, if_pos c]
    rw [a1, a0, Nat.testBit_two_pow_sub_one, Nat.testBit_two_pow]
    by_cases d : i < t
    · simp [d]; omega
    · have : i = t := by omega
      subst this
      simp
  · have a1 : (W - 1).testBit i = u.testBit (i - (t + 1)) := by rw [w1, Nat.testBit_two_pow_mul_add _ hlt, if_neg c]
    have a0 : W.testBit i = u.testBit (i - (t + 1)) := by rw [w0, Nat.testBit_two_pow_mul_add _ hlt2, if_neg c]
    rw [a1, a0]
    have : decide (i < t) = false := decide_eq_false (by omega)
    rw [this]
    cases u.testBit (i - (t + 1)) <;> rfl
theorem odd_part : ∀ (j W : Nat), 0 < W → W < 2 ^ j → ∃ t u, W = 2 ^ t + 2 ^ (t + 1) * u ∧ t < j := by
  intro j
  induction j with
  | zero => intro W h0 h1; exact absurd h1 (by simp; omega)
  | succ j ih =>
    intro W h0 h1
    by_cases c : W % 2 = 1
    · exact ⟨0, W / 2, by omega, by omega⟩
    · obtain ⟨t, u, e, ht⟩ := ih (W / 2) (by omega) (by rw [Nat.pow_succ] at h1; omega)
      refine ⟨t + 1, u, ?_, by omega⟩
      have e2 : W = 2 * (W / 2) := by omega
      rw [e2, e]
      have a : 2 ^ (t + 1) = 2 ^ t * 2 := Nat.pow_succ 2 t
      have b : 2 ^ (t + 1 + 1) * u = 2 * (2 ^ (t + 1) * u) := by rw [Nat.pow_succ 2 (t + 1), Nat.mul_comm (2 ^ (t + 1)) 2, Nat.mul_assoc]
      rw [b, a]
      omega
theorem ntz_tab : ∀ t ∈ List.range 32, (∀ w : Int32, (w ^^^ (-1 : Int32)) &&& (w - 1) = nI (2 ^ t - 1) → f_J6_numberOfTrailingZeros_0f7a4 w = f_J6_numberOfTrailingZeros_0f7a4 (nI (2 ^ t))) ∧ f_J6_numberOfTrailingZeros_0f7a4 (nI (2 ^ t)) = nI t := by
  intro t ht
  have h2 : ∀ t ∈ List.range 32, f_J6_numberOfTrailingZeros_0f7a4 (nI (2 ^ t)) = nI t := by decide +kernel
  have h3 : ∀ t ∈ List.range 32, (nI (2 ^ t) ^^^ (-1 : Int32)) &&& (nI (2 ^ t) - 1) = nI (2 ^ t - 1) := by decide +kernel
  refine ⟨fun w hw => ?_, h2 t ht⟩
  unfold f_J6_numberOfTrailingZeros_0f7a4
  rw [hw, h3 t ht]
theorem ffU_go {w : Int32} {t : Nat} (ht : bt w t = true) (hl : ∀ i, i < t → bt w i = false) : ∀ j i, i ≤ t → t < i + j → ffU w j i = lN t := by
  intro j
  induction j with
  | zero => intro i h1 h2; omega
  | succ j ih =>
    intro i h1 h2
    show (if bt w i = true then lN i else ffU w j (i + 1)) = _
    by_cases c : i = t
    · subst c; rw [if_pos ht]
    · rw [if_neg (by rw [hl i (by omega)]; decide)]
      exact ih (i + 1) (by omega) (by omega)
theorem ffU_0 : ∀ j i, ffU 0 j i = -1 := by
  intro j
  induction j with
  | zero => intro i; rfl
  | succ j ih =>
    intro i
    show (if bt 0 i = true then lN i else ffU 0 j (i + 1)) = _
    rw [b_0, if_neg (by decide)]
    exact ih _
theorem ntz_w {w : Int32} (h : w ≠ 0) : (f_J6_numberOfTrailingZeros_0f7a4 w).toInt64 = ffU w 32 0 := by
  have hw : w = nI w.toBitVec.toNat := by
    apply Int32.toBitVec_inj.mp
    show w.toBitVec = BitVec.ofNat 32 w.toBitVec.toNat
    rw [BitVec.ofNat_toNat, BitVec.setWidth_eq]
  have hlt : w.toBitVec.toNat < 2 ^ 32 := w.toBitVec.isLt
  have h0 : 0 < w.toBitVec.toNat := by
    rcases Nat.eq_zero_or_pos w.toBitVec.toNat with z | z
    · rw [z] at hw; exact absurd hw h
    · exact z
  generalize hWd : w.toBitVec.toNat = W at *
  obtain ⟨t, u, e, ht⟩ := odd_part 32 W h0 hlt
  have k := ntz_word e hlt
  rw [← hw] at k
  obtain ⟨a, b⟩ := ntz_tab t (List.mem_range.mpr ht)
  rw [a w k, b, nI_toL (by omega)]
  have hb : ∀ i, bt w i = W.testBit i := fun i => by
    unfold bt
    rw [← hWd]
    rfl
  have hlt2 : 2 ^ t < 2 ^ (t + 1) := by rw [Nat.pow_succ]; have := Nat.two_pow_pos t; omega
  have w0 : W = 2 ^ (t + 1) * u + 2 ^ t := by omega
  refine (ffU_go ?_ (fun i hi => ?_) 32 0 (by omega) (by omega)).symm
  · rw [hb, w0, Nat.testBit_two_pow_mul_add _ hlt2, if_pos (by omega), Nat.testBit_two_pow]; simp
  · rw [hb, w0, Nat.testBit_two_pow_mul_add _ hlt2, if_pos (by omega), Nat.testBit_two_pow]
    exact decide_eq_false (by omega)
end MASKS
