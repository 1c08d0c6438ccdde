section CONV
theorem P_isReal {k : Int32} (hk : isRk k) : P_X3_isReal k := by
  rcases hk with rfl | rfl <;> (unfold P_X3_isReal; decide)
theorem c_X3_real {k : Int32} {v : Int} {M : Mem} {K : RT} (hW : Wf M) (hk : isRk k) (hv : -9223372036854775808 ≤ v ∧ v < 9223372036854775808) (h : K (some (.long (bk k (decide (v < 0)) (pm (fm k) v.natAbs 0)))) M) : sp_X3_real [.int k, .long (lI v)] M K := by
  refine ⟨Nat.le_of_ble_eq_true rfl, fun G hc => ?_⟩
  rw [hW.1] at hc
  refine eX3_real hc hW ?_
  rw [show (-9223372036854775808 : Int64) = lI (-9223372036854775808) from rfl, lI_eq hv (by omega), show (0 : Int64) = lI 0 from rfl, lI_le (by omega) hv]
  refine ⟨fun q => ⟨fun q2 => ?_, fun q2 => ?_⟩, fun q => ?_⟩
  · rw [abs_l (by omega) hv.2]
    rw [decide_eq_false (by omega)] at h
    exact c_X3_pack (s := false) (e := 0) hW hk rfl (by omega) (by decide) (rX3_real_32_3 hc hW h)
  · rw [abs_l (by omega) hv.2]
    rw [decide_eq_true (by omega)] at h
    exact c_X3_pack (s := true) (e := 0) hW hk rfl (by omega) (by decide) (rX3_real_32_3 hc hW h)
  · subst q
    rw [decide_eq_true (by omega), show (-9223372036854775808 : Int).natAbs = 4611686018427387904 * 2 ^ 1 from rfl] at h
    have := pm_num hk (m := 4611686018427387904) (j := 1) (e := 1)
    rw [show (1 : Int) - ((1 : Nat) : Int) = 0 from rfl] at this
    rw [this] at h
    exact c_X3_pack (s := true) (m := 4611686018427387904) (e := 1) hW hk rfl (by decide) (by decide) (rX3_real_8_4 hc hW h)
theorem from_eb {k : Int32} (hk : isRk k) {v : Int} : FP.Core.fromInt (fm k) v = eb k (decide (v < 0)) (pm (fm k) v.natAbs 0) := enc_eb hk
theorem conv_eb {k k' : Int32} (hk : isRk k) (hk' : isRk k') {s : Bool} {n : Nat} (hn : n < iN k) : FP.Core.convert (fm k) (fm k') (eb k s n) = eb k' s (pm (fm k') (sgN (fm k) n) (exN (fm k) n)) := by
  unfold FP.Core.convert
  rw [dec_eb hk hn]
  exact enc_eb hk'
/-- cut towards 0, held to the longs -/
def whI (k : Int32) (s : Bool) (n : Nat) : Int := FP.Core.toInt (-2 ^ 63) (2 ^ 63 - 1) (.fin s (sgN (fm k) n) (exN (fm k) n))
theorem whI_rng {k : Int32} {s : Bool} {n : Nat} : -9223372036854775808 ≤ whI k s n ∧ whI k s n < 9223372036854775808 := by
  unfold whI FP.Core.toInt
  simp only
  omega
theorem nlz_0 : f_J13_numberOfLeadingZeros_95d88 (lN 0) = 64 := by decide +kernel
theorem whole_bk {k : Int32} (hk : isRk k) {s : Bool} {n : Nat} (hn : n < iN k) : f_X3_whole k (bk k s n) = lI (whI k s n) := by
  have g1 := sg_rng hk (n := n)
  have g3 := ex_rng hk (n := n) (by omega)
  unfold f_X3_whole
  rw [iT_t (P_isReal hk), sg_bk hk (by omega), ex_bk hk (by omega)]
  unfold whI FP.Core.toInt FP.Core.truncate
  have hz : sgN (fm k) n = 0 → exN (fm k) n ≤ 0 := by
    obtain ⟨fb, f1, f2, f3, f4, f5, f6, f7, f8, f9, f10, f11, f12, f13⟩ := FKof hk
    have hT : 0 < (fm k).tails := Nat.two_pow_pos _
    unfold sgN exN
    by_cases w : n / (fm k).tails = 0
    · rw [w]
      intro _
      omega
    · rw [if_neg w]
      omega
  generalize sgN (fm k) n = c at *
  generalize exN (fm k) n = e at *
  have l1 : iI e < 0 ↔ e < 0 := iI_lt (b := 0) (by omega) (by omega)
  have l2 : (-63 : Int32) ≤ iI e ↔ -63 ≤ e := by rw [show (-63 : Int32) = iI (-63) from by decide]; exact iI_le (by omega) (by omega)
  simp only [bk_pos hk (show n ≤ iN k by omega)]
  have hcmp : (iI e ≤ f_J13_numberOfLeadingZeros_95d88 (lN c) - 1) ↔ (c = 0 ∧ e ≤ 63) ∨ (0 < c ∧ e ≤ 62 - c.log2) := by
    rcases Nat.eq_zero_or_pos c with h | h
    · subst h
      rw [nlz_0, show (64 : Int32) - 1 = iI 63 by decide, iI_le (by omega) (by omega)]
      omega
    · have hl := (up_53 h g1).1
      rw [nlz_l h (by omega), ← iI_nat, show (1 : Int32) = iI 1 from rfl, iI_sub, iI_le (by omega) (by omega)]
      omega
  by_cases q : iI e ≤ f_J13_numberOfLeadingZeros_95d88 (lN c) - 1
  · rw [if_pos q]
    rw [hcmp] at q
    by_cases q2 : e < 0
    · rw [if_pos (l1.mpr q2)]
      have e0 : e.toNat = 0 := by omega
      rw [e0, Nat.pow_zero, Nat.mul_one]
      have hd := Nat.div_le_self c (2 ^ (-e).toNat)
      by_cases q3 : -63 ≤ e
      · have e1 : -iI e = nI (-e).toNat := by
          rw [iI_neg, ← iI_nat]
          congr 1
          omega
        rw [if_pos (l2.mpr q3), e1, ssh (by omega) (by omega)]
        generalize c / 2 ^ (-e).toNat = d at *
        cases s with
        | false => rw [if_pos rfl, ← lI_nat]; congr 1; unfold FP.Core.signed; simp; omega
        | true => rw [if_neg (by decide), ← lI_nat, lI_neg]; congr 1; unfold FP.Core.signed; simp; omega
      · have e1 : c / 2 ^ (-e).toNat = 0 := Nat.div_eq_of_lt (Nat.lt_of_lt_of_le g1 (pow2_le (by omega)))
        rw [if_neg (fun z => q3 (l2.mp z)), e1]
        cases s <;> decide
    · have e0 : (-e).toNat = 0 := by omega
      rw [if_neg (fun z => q2 (l1.mp z)), e0, Nat.pow_zero, Nat.div_one]
      obtain ⟨i, hi⟩ : ∃ i : Nat, e = i := ⟨e.toNat, by omega⟩
      subst hi
      rw [Int.toNat_natCast, iI_nat, wb_shl _ (by omega)]
      have hb : c * 2 ^ i < 2 ^ 63 := by
        rcases q with ⟨q, -⟩ | ⟨q4, q5⟩
        · rw [q, Nat.zero_mul]; decide
        · have h1 := Nat.mul_lt_mul_of_pos_right (log_hi c) (Nat.two_pow_pos i)
          rw [← Nat.pow_add] at h1
          exact Nat.lt_of_lt_of_le h1 (pow2_le (by omega))
      generalize c * 2 ^ i = d at *
      cases s with
      | false => rw [if_pos rfl, ← lI_nat]; congr 1; unfold FP.Core.signed; simp; omega
      | true => rw [if_neg (by decide), ← lI_nat, lI_neg]; congr 1; unfold FP.Core.signed; simp; omega
  · rw [if_neg q]
    rw [hcmp] at q
    have hc : 0 < c ∧ 62 - (c.log2 : Int) < e := by omega
    have hl := (up_53 hc.1 g1).1
    have e0 : (-e).toNat = 0 := by omega
    rw [e0, Nat.pow_zero, Nat.div_one]
    have hb : 2 ^ 63 ≤ c * 2 ^ e.toNat := by
      have h1 := Nat.mul_le_mul (log_lo hc.1) (pow2_le (show 63 - c.log2 ≤ e.toNat by omega))
      rw [← Nat.pow_add, show c.log2 + (63 - c.log2) = 63 by omega] at h1
      exact h1
    generalize c * 2 ^ e.toNat = d at *
    cases s with
    | false => rw [if_pos rfl, show (9223372036854775807 : Int64) = lI 9223372036854775807 from by decide]; congr 1; unfold FP.Core.signed; simp; omega
    | true => rw [if_neg (by decide), show (-9223372036854775808 : Int64) = lI (-9223372036854775808) from by decide]; congr 1; unfold FP.Core.signed; simp; omega
/-- held to the least and the greatest of a whole kind -/
noncomputable def hoJ (k : Int32) (v : Int64) : Int64 := f_J9_max_f86c9 (if k = 2 then 0 else (-((9223372036854775807 : Int64) >>> (((64 : Int32) - (f_X3_width k)).toInt64 &&& 63)) - 1)) (f_J9_min_f86c9 (if k = 2 then 65535 else ((9223372036854775807 : Int64) >>> (((64 : Int32) - (f_X3_width k)).toInt64 &&& 63))) v)
theorem c_X3_hold {k : Int32} {v : Int64} {M : Mem} {K : RT} (hW : Wf M) (h : K (some (.long (hoJ k v))) M) : sp_X3_hold [.int k, .long v] M K := by
  refine ⟨Nat.le_of_ble_eq_true rfl, fun G hc => ?_⟩
  rw [hW.1] at hc
  unfold hoJ at h
  refine eX3_hold hc hW ⟨fun q => eX3_hold_22 hc hW ⟨fun _ => ?_, fun z => absurd z q⟩, fun q => eX3_hold_22 hc hW ⟨fun z => absurd q z, fun _ => ?_⟩⟩
  · rw [if_neg q, if_neg q] at h
    exact h
  · rw [if_pos q, if_pos q] at h
    exact h
end CONV
