section PROD
theorem lead_any {num den c : Nat} (hn : 0 < num) (hd : 0 < den) (hp : 0 < c) : FP.Core.leading (num * c) (den * c) = FP.Core.leading num den := by
  obtain ⟨i, L, h1, h2⟩ := lead_spec hn hd
  have e1 := lead_eq hd h1 h2
  have e2 : FP.Core.leading (num * c * 2 ^ i) (den * c) = L := by
    refine lead_eq (Nat.mul_pos hd hp) ?_ ?_
    · rw [← Nat.mul_assoc, Nat.mul_right_comm num]
      exact Nat.mul_le_mul_right _ h1
    · rw [← Nat.mul_assoc, Nat.mul_right_comm num]
      exact Nat.mul_lt_mul_of_pos_right h2 hp
  rw [lead_num hn hd] at e1
  rw [lead_num (Nat.mul_pos hn hp) (Nat.mul_pos hd hp)] at e2
  omega
theorem rr_any {f : FP.Core.Fmt} {s : Bool} {num den c : Nat} {e : Int} (hd : 0 < den) (hp : 0 < c) : FP.Core.roundRatio f s (num * c) (den * c) e = FP.Core.roundRatio f s num den e := by
  unfold FP.Core.roundRatio
  by_cases h0 : num = 0
  · subst h0
    rw [Nat.zero_mul, if_pos rfl, if_pos rfl]
  · rw [if_neg (Nat.mul_ne_zero h0 (by omega)), if_neg h0]
    unfold FP.Core.quantum
    rw [lead_any (by omega) hd hp]
    unfold FP.Core.roundAt FP.Core.unitsNum FP.Core.unitsDen
    congr 1
    rw [Nat.mul_right_comm, Nat.mul_right_comm den]
    exact nr_scale hp
theorem mv_odd {x d : Nat} (h : ¬ x % 2 ^ d = 0) : mvN x d % 2 = 1 ∧ (mvN x d - 1) * 2 ^ d < x ∧ x < (mvN x d + 1) * 2 ^ d := by
  have hP := Nat.two_pow_pos d
  have hdm := Nat.div_add_mod x (2 ^ d)
  have hml := Nat.mod_lt x hP
  unfold mvN
  rw [if_neg h, or1]
  generalize x / 2 ^ d = Q at *
  generalize x % 2 ^ d = r at *
  generalize 2 ^ d = P at *
  split
  · refine ⟨by omega, ?_, ?_⟩
    · rw [Nat.add_sub_cancel, Nat.mul_comm]; omega
    · rw [Nat.add_mul, Nat.add_mul, Nat.one_mul, Nat.mul_comm Q P]; omega
  · refine ⟨by omega, ?_, ?_⟩
    · rw [Nat.sub_mul, Nat.one_mul, Nat.mul_comm Q P]
      have : P ≤ P * Q := Nat.le_mul_of_pos_right _ (by omega)
      omega
    · rw [Nat.add_mul, Nat.one_mul, Nat.mul_comm Q P]; omega
theorem rr_mv {f : FP.Core.Fmt} {s : Bool} {x d : Nat} {e : Int} (hp : 0 < f.p) (h : 2 ^ (f.p + 1) ≤ x / 2 ^ d) : FP.Core.roundRatio f s (mvN x d) 1 (e + d) = FP.Core.roundRatio f s x 1 e := by
  have r2 := rr_den (f := f) (s := s) (num := x) (den := 1) (j := d) (e := e) (by decide)
  rw [← r2, Nat.one_mul]
  by_cases q : x % 2 ^ d = 0
  · have hm : mvN x d = x / 2 ^ d := by unfold mvN; rw [if_pos q]
    have hx : x / 2 ^ d * 2 ^ d = x := Nat.div_mul_cancel (Nat.dvd_of_mod_eq_zero q)
    have r1 := rr_both (f := f) (s := s) (num := x / 2 ^ d) (den := 1) (j := d) (e := e + d) (by decide)
    rw [hx, Nat.one_mul] at r1
    rw [hm, r1]
  · obtain ⟨h1, h2, h3⟩ := mv_odd q
    refine (rr_sticky (Nat.two_pow_pos d) h1 ?_ hp h2 h3).symm
    unfold mvN
    rw [if_neg q, or1]
    split <;> omega
theorem pm_num {k : Int32} (hk : isRk k) {m j : Nat} {e : Int} : pm (fm k) (m * 2 ^ j) (e - j) = pm (fm k) m e := by
  refine pm_of_rr hk ?_
  rw [rr_num (by decide)]
  congr 1
  omega
/-- the product's magnitude -/
def muM (k : Int32) (n m : Nat) : Nat := pm (fm k) (sgN (fm k) n * sgN (fm k) m) (exN (fm k) n + exN (fm k) m)
theorem mul_eb {k : Int32} (hk : isRk k) {s t : Bool} {n m : Nat} (hn : n < iN k) (hm : m < iN k) : FP.Core.mul (fm k) (eb k s n) (eb k t m) = eb k (s != t) (muM k n m) := by
  unfold FP.Core.mul
  rw [dec_eb hk hn, dec_eb hk hm]
  exact enc_eb hk
/-- 53 bits -/
theorem up_53 {c : Nat} (h0 : 0 < c) (h : c < 2 ^ 53) : c.log2 ≤ 52 ∧ 2 ^ 52 ≤ c * 2 ^ (52 - c.log2) ∧ c * 2 ^ (52 - c.log2) < 2 ^ 53 := by
  have hl : c.log2 ≤ 52 := by
    have := (Nat.pow_lt_pow_iff_right (show 1 < 2 by decide)).mp (Nat.lt_of_le_of_lt (log_lo h0) h)
    omega
  refine ⟨hl, ?_, ?_⟩
  · have := Nat.mul_le_mul_right (2 ^ (52 - c.log2)) (log_lo h0)
    rw [← Nat.pow_add, show c.log2 + (52 - c.log2) = 52 by omega] at this
    exact this
  · have := Nat.mul_lt_mul_of_pos_right (log_hi c) (Nat.two_pow_pos (52 - c.log2))
    rw [← Nat.pow_add, show c.log2 + 1 + (52 - c.log2) = 53 by omega] at this
    exact this
theorem up_l {c : Nat} (h0 : 0 < c) (h : c < 2 ^ 53) : f_J13_numberOfLeadingZeros_95d88 (lN c) - 11 = nI (52 - c.log2) := by
  rw [nlz_l h0 (by omega), show (11 : Int32) = iI 11 from rfl, ← iI_nat, iI_sub, ← iI_nat]
  have := (up_53 h0 h).1
  congr 1
  omega
theorem mul_parts {a b : Nat} (ha : a < 2 ^ 53) (hb : b < 2 ^ 53) :
    (a / 2 ^ 27) * (b / 2 ^ 27) * 2 ^ 10 + ((a / 2 ^ 27) * (b % 2 ^ 27) + (a % 2 ^ 27) * (b / 2 ^ 27) + (a % 2 ^ 27) * (b % 2 ^ 27) / 2 ^ 27) / 2 ^ 17 = a * b / 2 ^ 44
    ∧ (((a % 2 ^ 27) * (b % 2 ^ 27) % 2 ^ 27 = 0 ∧ ((a / 2 ^ 27) * (b % 2 ^ 27) + (a % 2 ^ 27) * (b / 2 ^ 27) + (a % 2 ^ 27) * (b % 2 ^ 27) / 2 ^ 27) % 2 ^ 17 = 0) ↔ a * b % 2 ^ 44 = 0)
    ∧ (a % 2 ^ 27) * (b % 2 ^ 27) < 2 ^ 54 ∧ (a / 2 ^ 27) * (b % 2 ^ 27) < 2 ^ 53 ∧ (a % 2 ^ 27) * (b / 2 ^ 27) < 2 ^ 53 ∧ (a / 2 ^ 27) * (b / 2 ^ 27) < 2 ^ 52 := by
  have e : a * b = (a / 2 ^ 27) * (b / 2 ^ 27) * 2 ^ 54 + ((a / 2 ^ 27) * (b % 2 ^ 27) + (a % 2 ^ 27) * (b / 2 ^ 27)) * 2 ^ 27 + (a % 2 ^ 27) * (b % 2 ^ 27) := by
    have h1 := Nat.div_add_mod a (2 ^ 27)
    have h2 := Nat.div_add_mod b (2 ^ 27)
    generalize a / 2 ^ 27 = a1 at *
    generalize a % 2 ^ 27 = a0 at *
    generalize b / 2 ^ 27 = b1 at *
    generalize b % 2 ^ 27 = b0 at *
    subst h1 h2
    grind
  have ha1 : a / 2 ^ 27 < 2 ^ 26 := by omega
  have hb1 : b / 2 ^ 27 < 2 ^ 26 := by omega
  have ha0 : a % 2 ^ 27 < 2 ^ 27 := by omega
  have hb0 : b % 2 ^ 27 < 2 ^ 27 := by omega
  generalize a / 2 ^ 27 = a1 at *
  generalize a % 2 ^ 27 = a0 at *
  generalize b / 2 ^ 27 = b1 at *
  generalize b % 2 ^ 27 = b0 at *
  have k1 : a0 * b0 < 2 ^ 27 * 2 ^ 27 := Nat.mul_lt_mul'' ha0 hb0
  have k2 : a1 * b0 < 2 ^ 26 * 2 ^ 27 := Nat.mul_lt_mul'' ha1 hb0
  have k3 : a0 * b1 < 2 ^ 27 * 2 ^ 26 := Nat.mul_lt_mul'' ha0 hb1
  have k4 : a1 * b1 < 2 ^ 26 * 2 ^ 26 := Nat.mul_lt_mul'' ha1 hb1
  generalize a0 * b0 = lo at *
  generalize a1 * b0 = m1 at *
  generalize a0 * b1 = m2 at *
  generalize a1 * b1 = hi at *
  rw [e]
  refine ⟨by omega, ⟨fun q => by omega, fun q => by omega⟩, by omega, by omega, by omega, by omega⟩
end PROD
