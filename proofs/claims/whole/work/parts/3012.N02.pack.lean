section PACK
theorem nlz_big {n : Nat} (h0 : 2 ^ 31 ≤ n) (h : n < 2 ^ 32) : f_J6_numberOfLeadingZeros_0f7a4 (nI n) = nI (31 - n.log2) := by
  rw [log2_of (L := 31) h0 h]
  have e : (nI n).toInt = (n : Int) - 2 ^ 32 := by
    have : nI n = iI ((n : Int) - 2 ^ 32) := by
      rw [← iI_nat, show (n : Int) = ((n : Int) - 2 ^ 32) + 2 ^ 32 by omega, ← iI_add]
      rw [show iI (2 ^ 32) = 0 by decide, Int32.add_zero]
      congr 1
      omega
    rw [this, iI_toInt (by omega) (by omega)]
  have h1 : ¬ (0 : Int32) < nI n := by
    rw [fa_lt, e]
    have : (0 : Int32).toInt = 0 := by decide
    omega
  have h2 : ¬ nI n = 0 := by
    rw [fa_eq, e]
    have : (0 : Int32).toInt = 0 := by decide
    omega
  unfold f_J6_numberOfLeadingZeros_0f7a4
  simp only [if_neg h1, if_neg h2]
  decide
theorem nlz_l {n : Nat} (h0 : 0 < n) (h : n < 2 ^ 63) : f_J13_numberOfLeadingZeros_95d88 (lN n) = nI (63 - n.log2) := by
  unfold f_J13_numberOfLeadingZeros_95d88
  have e : ((lN n).toUInt64 >>> ((32 : Int32).toInt64.toUInt64 &&& Int64.toUInt64 63)).toInt64 = lN (n / 2 ^ 32) := wb_shr (k := 32) (by omega) (by decide)
  rw [e, lN_i, lN_i]
  by_cases hh : n / 2 ^ 32 = 0
  · rw [hh, if_pos (show nI 0 = 0 from rfl)]
    have hl : n < 2 ^ 32 := by omega
    have hb : n.log2 ≤ 31 := by
      have := (Nat.pow_lt_pow_iff_right (show 1 < 2 by decide)).mp (Nat.lt_of_le_of_lt (log_lo h0) hl)
      omega
    have hz : f_J6_numberOfLeadingZeros_0f7a4 (nI n) = nI (31 - n.log2) := by
      by_cases q : n < 2 ^ 31
      · exact nlz_i h0 q
      · exact nlz_big (by omega) hl
    rw [hz, show (32 : Int32) = nI 32 from rfl, nI_add]
    congr 1
    omega
  · rw [if_neg (show ¬ nI (n / 2 ^ 32) = 0 from fun q => hh ((nI_eq (b := 0) (by omega) (by decide)).mp q)), nlz_i (by omega) (by omega)]
    have e2 : n.log2 = (n / 2 ^ 32).log2 + 32 := by
      have a1 := log_lo (m := n / 2 ^ 32) (by omega)
      have a2 := log_hi (n / 2 ^ 32)
      apply log2_of
      · rw [Nat.pow_add]
        exact Nat.le_trans (Nat.mul_le_mul_right _ a1) (Nat.div_mul_le_self _ _)
      · rw [Nat.div_lt_iff_lt_mul (by decide), ← Nat.pow_add] at a2
        exact Nat.lt_of_lt_of_le a2 (Nat.pow_le_pow_right (by decide) (by omega))
    rw [e2]
    congr 1
    omega
/-- the format of a kind -/
def fm (k : Int32) : FP.Core.Fmt := if k = 5 then FP.Core.b32 else FP.Core.b64
def isRk (k : Int32) : Prop := k = 5 ∨ k = 6
/-- what the class knows of a kind's format -/
def FK (k : Int32) (F : FP.Core.Fmt) (fb : Nat) : Prop := f_X3_fractionBits k = nI fb ∧ f_X3_leastExponent k = iI F.qmin ∧ f_X3_infinite k = lN ((F.exps - 1) * F.tails) ∧ F.tails = 2 ^ fb ∧ F.p = fb + 1 ∧ 1 ≤ fb ∧ fb ≤ 52 ∧ -1074 ≤ F.qmin ∧ F.qmin ≤ -149 ∧ 2 ≤ F.w ∧ F.exps ≤ 2048 ∧ 2 ≤ F.exps ∧ (F.exps - 1) * F.tails < 2 ^ 63
theorem FK5 : FK 5 FP.Core.b32 23 := by
  refine ⟨by decide +kernel, by decide +kernel, by decide +kernel, rfl, rfl, by decide, by decide, by decide, by decide, by decide, by decide, by decide, by decide⟩
theorem FK6 : FK 6 FP.Core.b64 52 := by
  refine ⟨by decide +kernel, by decide +kernel, by decide +kernel, rfl, rfl, by decide, by decide, by decide, by decide, by decide, by decide, by decide, by decide⟩
theorem FKof {k : Int32} (h : isRk k) : ∃ fb, FK k (fm k) fb := by
  rcases h with rfl | rfl
  · exact ⟨23, FK5⟩
  · exact ⟨52, FK6⟩
/-- the magnitude of m 2^e, rounded -/
def pm (F : FP.Core.Fmt) (m : Nat) (e : Int) : Nat := if m = 0 then 0 else rmag F m e
theorem rq_sh {F : FP.Core.Fmt} {fb m : Nat} {e : Int} (hp : F.p = fb + 1) : rq F m e = e + max ((m.log2 : Int) - fb) (F.qmin - e) := by
  unfold rq
  rw [hp]
  omega
theorem pow2_le {a b : Nat} (h : a ≤ b) : 2 ^ a ≤ 2 ^ b := Nat.pow_le_pow_right (by decide) h
theorem pk_12 {G : Nat → KT} {K : RT} (hc : cloX3_pack G K wT) {k : Int32} {F : FP.Core.Fmt} {fb : Nat} (hF : FK k F fb) {m : Nat} {e : Int} (hm : m < 2 ^ 63) (he : -4000 ≤ e ∧ e ≤ 4000) {s0 : Int64} {o1 o5 o6 o7 o8 o9 o10 o11 o12 o13 o14 o15 : Option Value} {M : Mem} (hW : Wf M) (h : K (some (.long (s0 ||| lN (pm F m e)))) M) :
    G 12 [some (.int k), o1, some (.long (lN m)), none, some (.int (iI e)), o5, o6, o7, o8, o9, o10, o11, o12, o13, o14, o15] [.long s0] M := by
  obtain ⟨f1, f2, f3, f4, f5, f6, f7, f8, f9, f10, f11, f12, f13⟩ := hF
  have hz : pm F m e = 0 → K (some (.long s0)) M := by
    intro q
    rw [q, show lN 0 = 0 from rfl, Int64.or_zero] at h
    exact h
  refine eX3_pack_12 hc hW ⟨fun h0 => ?_, fun h0 => ?_⟩
  · have hm0 : 0 < m := by
      rcases Nat.eq_zero_or_pos m with q | q
      · exact absurd (by rw [q]; rfl) h0
      · exact q
    have hL : m.log2 < 63 := by
      have := (Nat.pow_lt_pow_iff_right (show 1 < 2 by decide)).mp (Nat.lt_of_le_of_lt (log_lo hm0) hm)
      omega
    have hrq := rq_sh (F := F) (m := m) (e := e) f5
    generalize hsh : max ((m.log2 : Int) - fb) (F.qmin - e) = sh at hrq
    have hlo : F.qmin ≤ rq F m e := Int.le_max_left _ _
    have hrc := rc_le (f := F) (m := m) (e := e) (by omega)
    have hrg := fun q => rc_ge (f := F) (m := m) (e := e) hm0 (by omega) q
    have hpm : pm F m e = min ((F.exps - 1) * F.tails) ((rq F m e - F.qmin).toNat * F.tails + rc F m e) := by unfold pm rmag; rw [if_neg (by omega)]
    have hT : F.tails ≤ 2 ^ 52 := by rw [f4]; exact pow2_le f7
    have hp2 : 2 ^ F.p = 2 * F.tails := by rw [f5, f4, Nat.pow_succ, Nat.mul_comm]
    intro y1 hy1
    have hy : y1 = iI sh := by
      rw [hy1, f1, f2, nlz_l hm0 hm]
      simp only [← iI_nat, show (63 : Int32) = iI 63 from rfl, iI_sub]
      rw [iI_max ⟨by omega, by omega⟩ ⟨by omega, by omega⟩]
      congr 1
      rw [← hsh]
      congr 1
      omega
    clear hy1
    subst hy
    have hstep : (iI e + iI sh) - f_X3_leastExponent k = nI (rq F m e - F.qmin).toNat := by
      rw [f2, iI_add, iI_sub, ← iI_nat, hrq]
      congr 1
      omega
    -- what is put together
    have fin : ∀ c : Int64, c = lN (rc F m e) → ((((iI e + iI sh) - f_X3_leastExponent k) ≤ (2045 : Int32) → K (some (.long (s0 ||| (f_J9_min_f86c9 (f_X3_infinite k) (((((iI e + iI sh) - f_X3_leastExponent k).toInt64) <<< ((f_X3_fractionBits k).toInt64 &&& 63)) + c))))) M) ∧ (¬ ((iI e + iI sh) - f_X3_leastExponent k) ≤ (2045 : Int32) → K (some (.long (s0 ||| f_X3_infinite k))) M)) := by
      intro c hcc
      subst hcc
      rw [hstep, f1, f3]
      have hst : (rq F m e - F.qmin).toNat < 2 ^ 31 := by omega
      generalize hsg : (rq F m e - F.qmin).toNat = st at hst hpm ⊢
      refine ⟨fun q => ?_, fun q => ?_⟩
      · have q2 : st ≤ 2045 := (nI_leI hst (by decide)).mp q
        have b1 : st * F.tails ≤ 2045 * 2 ^ 52 := Nat.mul_le_mul q2 hT
        rw [nI_l hst, wb_shl _ (by omega), lN_add, ← f4, l6_min f13 (by omega), ← hpm]
        exact h
      · have q2 : ¬ st ≤ 2045 := fun z => q ((nI_leI hst (by decide)).mpr z)
        have q3 : F.tails ≤ rc F m e := hrg (by omega)
        have b1 : (F.exps - 1) * F.tails ≤ (st + 1) * F.tails := Nat.mul_le_mul_right _ (by omega)
        rw [Nat.add_mul, Nat.one_mul] at b1
        rw [hpm, Nat.min_eq_left (by omega)] at h
        exact h
    have hshb : -2147483648 ≤ sh ∧ sh < 2147483648 := by omega
    refine ⟨fun h1 => ⟨fun h2 => ?_, fun h2 => ?_⟩, fun h1 => ?_⟩
    · have h2 : sh ≤ 0 := by
        rw [show (0 : Int32) = iI 0 from rfl, iI_le hshb (by omega)] at h2
        exact h2
      have e1 : -iI sh = nI (-sh).toNat := by
        rw [iI_neg, ← iI_nat]
        congr 1
        omega
      refine fin _ ?_
      rw [e1, wb_shl _ (by omega)]
      congr 1
      unfold rc
      rw [show (rq F m e - e).toNat = 0 by omega, show (e - rq F m e).toNat = (-sh).toNat by omega, Nat.pow_zero, nr_one]
    · have h1 : sh ≤ 63 := by
        rw [show (63 : Int32) = iI 63 from rfl, iI_le hshb (by omega)] at h1
        exact h1
      have h2 : ¬ sh ≤ 0 := by
        rw [show (0 : Int32) = iI 0 from rfl, iI_le hshb (by omega)] at h2
        exact h2
      obtain ⟨n, hn⟩ : ∃ n : Nat, sh = n := ⟨sh.toNat, by omega⟩
      subst hn
      have hrc2 : rc F m e = FP.Core.nearest m (2 ^ n) := by
        unfold rc
        rw [show (rq F m e - e).toNat = n by omega, show (e - rq F m e).toNat = 0 by omega, Nat.pow_zero, Nat.mul_one]
      have hn2 : 2 ^ n = 2 * 2 ^ (n - 1) := by
        obtain ⟨i, rfl⟩ := Nat.exists_eq_add_of_le (show 1 ≤ n by omega)
        rw [Nat.add_sub_cancel_left, Nat.add_comm, Nat.pow_succ, Nat.mul_comm]
      have hpn : 2 ^ n ≤ 2 ^ 63 := pow2_le (by omega)
      have hmod := Nat.mod_lt m (Nat.two_pow_pos n)
      have hdiv := Nat.div_le_self m (2 ^ n)
      have hml : m % 2 ^ n ≤ m := Nat.mod_le _ _
      intro y2 hy2 y3 hy3 y4 hy4
      rw [iI_nat, show (1 : Int64) = lN 1 from rfl, wb_shl _ (by omega), Nat.one_mul, lN_sub (Nat.two_pow_pos n), wb_mask (by omega) (by omega)] at hy2
      rw [iI_nat, show (1 : Int32) = nI 1 from rfl, ← iI_nat, ← iI_nat, iI_sub, show ((n : Int) - ((1 : Nat) : Int)) = ((n - 1 : Nat) : Int) by omega, iI_nat, show (1 : Int64) = lN 1 from rfl, wb_shl _ (by omega), Nat.one_mul] at hy3
      rw [iI_nat, wb_shr (by omega) (by omega)] at hy4
      subst hy2 hy3 hy4
      have hq1 : (lN (m / 2 ^ n) &&& (1 : Int64)) = lN (m / 2 ^ n % 2) := wb_a1 (by omega)
      rw [hq1, l6_lt (by omega) (by omega), l6_eq (by omega) (by omega), show (0 : Int64) = lN 0 from rfl, l6_eq (by omega) (by decide), show (1 : Int64) = lN 1 from rfl, lN_add]
      refine ⟨fun h3 => fin _ ?_, fun h3 => ⟨fun h4 => fin _ ?_, fun h4 => ⟨fun h5 => fin _ ?_, fun h5 => fin _ ?_⟩⟩⟩
      · rw [hrc2]
        unfold FP.Core.nearest
        rw [if_neg (by omega), if_pos (by omega)]
      · rw [hrc2]
        unfold FP.Core.nearest
        rw [if_pos (by omega)]
      · rw [hrc2]
        unfold FP.Core.nearest
        rw [if_neg (by omega), if_neg (by omega), h5, Nat.add_zero]
      · rw [hrc2]
        unfold FP.Core.nearest
        rw [if_neg (by omega), if_neg (by omega)]
        congr 1
        omega
    · have h1 : ¬ sh ≤ 63 := by
        rw [show (63 : Int32) = iI 63 from rfl, iI_le hshb (by omega)] at h1
        exact h1
      refine hz ?_
      rw [hpm]
      have e1 : rq F m e = F.qmin := by omega
      have e2 : rc F m e = 0 := by
        unfold rc
        obtain ⟨n, hn⟩ : ∃ n : Nat, rq F m e - e = n := ⟨(rq F m e - e).toNat, by omega⟩
        rw [hn, Int.toNat_natCast, show (e - rq F m e).toNat = 0 by omega, Nat.pow_zero, Nat.mul_one]
        have hp : 2 ^ 64 ≤ 2 ^ n := pow2_le (by omega)
        unfold FP.Core.nearest
        rw [Nat.mod_eq_of_lt (by omega), Nat.div_eq_of_lt (by omega), if_pos (by omega)]
      rw [e1, e2, Int.sub_self, show (0 : Int).toNat = 0 from rfl, Nat.zero_mul, Nat.min_eq_right (Nat.zero_le _)]
  · exact hz (by unfold pm; rw [if_pos]; exact (fb_lN_inj hm (by decide)).mp h0)
end PACK
