section ENC
/-- the exponent at which m 2^e is rounded, and the rounded number -/
def rq (f : FP.Core.Fmt) (m : Nat) (e : Int) : Int := max f.qmin ((m.log2 : Int) + e - ((f.p : Int) - 1))
def rc (f : FP.Core.Fmt) (m : Nat) (e : Int) : Nat := FP.Core.nearest (m * 2 ^ (e - rq f m e).toNat) (2 ^ (rq f m e - e).toNat)
/-- the magnitude's encoding -/
def rmag (f : FP.Core.Fmt) (m : Nat) (e : Int) : Nat := min ((f.exps - 1) * f.tails) ((rq f m e - f.qmin).toNat * f.tails + rc f m e)
theorem nr_le {a b c : Nat} (hb : 0 < b) (h : a ≤ c * b) : FP.Core.nearest a b ≤ c := by
  unfold FP.Core.nearest
  have h1 : a / b ≤ c := Nat.div_le_of_le_mul (by rw [Nat.mul_comm]; exact h)
  split
  · exact h1
  · have hm : a % b ≠ 0 := by omega
    have h2 : a / b < c := by
      rw [Nat.div_lt_iff_lt_mul hb]
      refine Nat.lt_of_le_of_ne h (fun q => hm ?_)
      rw [q, Nat.mul_mod_left]
    split
    · omega
    · omega
theorem nr_ge {a b c : Nat} (hb : 0 < b) (h : c * b ≤ a) : c ≤ FP.Core.nearest a b := by
  unfold FP.Core.nearest
  have h1 : c ≤ a / b := (Nat.le_div_iff_mul_le hb).mpr h
  split
  · exact h1
  · split <;> omega
theorem log_lo {m : Nat} (h : 0 < m) : 2 ^ m.log2 ≤ m := Nat.log2_self_le (by omega)
theorem log_hi (m : Nat) : m < 2 ^ (m.log2 + 1) := Nat.lt_log2_self
theorem lead_1 {m : Nat} (h : 0 < m) : FP.Core.leading m 1 = m.log2 := lead_eq (by decide) (by rw [Nat.mul_one]; exact log_lo h) (by rw [Nat.mul_one]; exact log_hi m)
theorem quant_1 {f : FP.Core.Fmt} {m : Nat} {e : Int} (h : 0 < m) : FP.Core.quantum f m 1 e = rq f m e := by
  unfold FP.Core.quantum rq
  rw [lead_1 h]
theorem rc_le {f : FP.Core.Fmt} {m : Nat} {e : Int} (hp : 1 ≤ f.p) : rc f m e ≤ 2 ^ f.p := by
  unfold rc
  refine nr_le (Nat.two_pow_pos _) ?_
  have hm := log_hi m
  have hq : (m.log2 : Int) + e - ((f.p : Int) - 1) ≤ rq f m e := Int.le_max_right _ _
  generalize rq f m e = q at hq
  rw [← Nat.pow_add]
  refine Nat.le_trans (Nat.mul_le_mul_right _ (Nat.le_of_lt hm)) ?_
  rw [← Nat.pow_add]
  exact Nat.pow_le_pow_right (by decide) (by omega)
theorem rc_ge {f : FP.Core.Fmt} {m : Nat} {e : Int} (hm : 0 < m) (hp : 1 ≤ f.p) (h : f.qmin < rq f m e) : f.tails ≤ rc f m e := by
  unfold rc
  refine nr_ge (Nat.two_pow_pos _) ?_
  have hl := log_lo hm
  have hq : rq f m e = (m.log2 : Int) + e - ((f.p : Int) - 1) := by unfold rq at h ⊢; omega
  rw [hq]
  generalize m.log2 = L at hl
  unfold FP.Core.Fmt.tails
  rw [← Nat.pow_add]
  refine Nat.le_trans ?_ (Nat.mul_le_mul_right _ hl)
  rw [← Nat.pow_add]
  exact Nat.pow_le_pow_right (by decide) (by omega)
theorem enc_round {f : FP.Core.Fmt} (hp : 1 ≤ f.p) (hw : 2 ≤ f.w) {s : Bool} {m : Nat} {e : Int} (hm : 0 < m) : FP.Core.encode f (FP.Core.roundRatio f s m 1 e) = s.toNat * (f.exps * f.tails) + rmag f m e := by
  unfold FP.Core.roundRatio
  rw [if_neg (by omega), quant_1 hm]
  unfold FP.Core.roundAt
  have hu : FP.Core.nearest (FP.Core.unitsNum m e (rq f m e)) (FP.Core.unitsDen 1 e (rq f m e)) = rc f m e := by
    unfold FP.Core.unitsNum FP.Core.unitsDen rc
    rw [Nat.one_mul]
  rw [hu]
  have hc1 := rc_le (f := f) (m := m) (e := e) hp
  have hc2 := fun h => rc_ge (f := f) (m := m) (e := e) hm hp h
  have hq0 : f.qmin ≤ rq f m e := Int.le_max_left _ _
  unfold rmag
  generalize rc f m e = c at *
  generalize rq f m e = q at *
  have ht : 2 ^ f.p = 2 * f.tails := by
    unfold FP.Core.Fmt.tails
    obtain ⟨i, hi⟩ := Nat.exists_eq_add_of_le hp
    rw [hi, Nat.add_comm 1 i, Nat.add_sub_cancel, Nat.pow_succ, Nat.mul_comm]
  have htp : 0 < f.tails := Nat.two_pow_pos _
  have hx : f.exps = 2 * f.emax + 2 := by
    unfold FP.Core.Fmt.exps FP.Core.Fmt.emax
    obtain ⟨i, hi⟩ := Nat.exists_eq_add_of_le (Nat.le_trans (show 1 ≤ 2 by decide) hw)
    rw [hi, Nat.add_comm 1 i, Nat.add_sub_cancel, Nat.pow_succ]
    have := Nat.two_pow_pos i
    omega
  have hem : 1 ≤ f.emax := by
    unfold FP.Core.Fmt.emax
    have : 2 ^ 1 ≤ 2 ^ (f.w - 1) := Nat.pow_le_pow_right (by decide) (by omega)
    omega
  have hqq : f.qmax - f.qmin = 2 * f.emax - 1 := by unfold FP.Core.Fmt.qmax FP.Core.Fmt.qmin; omega
  unfold FP.Core.settle FP.Core.bound
  have hd : ∀ a b c : Nat, (a * f.exps + b) * f.tails + c = a * (f.exps * f.tails) + (b * f.tails + c) := by
    intro a b c
    rw [Nat.add_mul, Nat.mul_assoc, Nat.add_assoc]
  by_cases h1 : c < 2 ^ f.p
  · rw [if_pos h1]
    by_cases h2 : q ≤ f.qmax
    · rw [if_pos h2]
      show (if c < f.tails then FP.Core.assemble f s 0 c else FP.Core.assemble f s ((q - f.qmin).toNat + 1) (c - f.tails)) = _
      by_cases h3 : c < f.tails
      · rw [if_pos h3]
        have hq : q = f.qmin := by
          rcases Int.lt_or_le f.qmin q with h | h
          · have := hc2 h; omega
          · omega
        unfold FP.Core.assemble
        rw [hd, hq, Int.sub_self]
        have : (0 : Int).toNat = 0 := rfl
        rw [this, Nat.zero_mul, Nat.zero_add, Nat.min_eq_right]
        have := Nat.mul_le_mul_right f.tails (show 1 ≤ f.exps - 1 by omega)
        omega
      · rw [if_neg h3]
        unfold FP.Core.assemble
        rw [hd, Nat.add_mul, Nat.one_mul]
        have e1 : (q - f.qmin).toNat * f.tails + f.tails + (c - f.tails) = (q - f.qmin).toNat * f.tails + c := by omega
        rw [e1, Nat.min_eq_right]
        have := Nat.mul_le_mul_right f.tails (show (q - f.qmin).toNat + 2 ≤ f.exps - 1 by omega)
        rw [Nat.add_mul] at this
        omega
    · rw [if_neg h2]
      show FP.Core.assemble f s (f.exps - 1) 0 = _
      unfold FP.Core.assemble
      rw [hd, Nat.add_zero, Nat.min_eq_left]
      have h3 := hc2 (by omega)
      have := Nat.mul_le_mul_right f.tails (show f.exps - 1 ≤ (q - f.qmin).toNat + 1 by omega)
      rw [Nat.add_mul, Nat.one_mul] at this
      omega
  · rw [if_neg h1]
    have hc : c = 2 * f.tails := by omega
    by_cases h2 : q + 1 ≤ f.qmax
    · rw [if_pos h2]
      show (if f.tails < f.tails then FP.Core.assemble f s 0 f.tails else FP.Core.assemble f s ((q + 1 - f.qmin).toNat + 1) (f.tails - f.tails)) = _
      rw [if_neg (Nat.lt_irrefl _), Nat.sub_self]
      unfold FP.Core.assemble
      rw [hd, Nat.add_zero]
      have e0 : (q + 1 - f.qmin).toNat + 1 = (q - f.qmin).toNat + 2 := by omega
      rw [e0, hc, ← Nat.add_mul, Nat.min_eq_right]
      exact Nat.mul_le_mul_right _ (by omega)
    · rw [if_neg h2]
      show FP.Core.assemble f s (f.exps - 1) 0 = _
      unfold FP.Core.assemble
      rw [hd, Nat.add_zero, hc, ← Nat.add_mul, Nat.min_eq_left]
      exact Nat.mul_le_mul_right _ (by omega)
/-- 0 -/
theorem enc_zero {f : FP.Core.Fmt} {s : Bool} {e : Int} : FP.Core.encode f (FP.Core.roundRatio f s 0 1 e) = s.toNat * (f.exps * f.tails) := by
  unfold FP.Core.roundRatio
  rw [if_pos rfl]
  show (if 0 < f.tails then FP.Core.assemble f s 0 0 else _) = _
  rw [if_pos (show 0 < f.tails from Nat.two_pow_pos _)]
  unfold FP.Core.assemble
  rw [Nat.add_zero, Nat.add_zero, Nat.mul_assoc]
end ENC
