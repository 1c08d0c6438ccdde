section SUM2
def mvN (x d : Nat) : Nat := if x % 2 ^ d = 0 then x / 2 ^ d else x / 2 ^ d ||| 1
theorem or1 (q : Nat) : q ||| 1 = if q % 2 = 0 then q + 1 else q := by
  apply Nat.eq_of_testBit_eq
  intro i
  rw [Nat.testBit_or]
  cases i with
  | zero =>
    simp only [Nat.testBit_zero]
    split <;> simp <;> omega
  | succ i =>
    simp only [Nat.testBit_succ]
    have : (if q % 2 = 0 then q + 1 else q) / 2 = q / 2 := by split <;> omega
    rw [this]
    simp
theorem mv_lt {x d : Nat} (hx : x < 2 ^ 61) : mvN x d < 2 ^ 62 := by
  have := Nat.div_le_self x (2 ^ d)
  unfold mvN
  rw [or1]
  split
  · omega
  · split <;> omega
theorem moved_l {x d : Nat} (hx : x < 2 ^ 61) (hd : d < 2 ^ 31) : f_X3_moved (lN x) (nI d) = lN (mvN x d) := by
  unfold f_X3_moved mvN
  by_cases h : d ≤ 62
  · have h' : nI d ≤ (62 : Int32) := (nI_leI hd (by decide)).mpr h
    have hp : 2 ^ d ≤ 2 ^ 62 := pow2_le h
    have hml : x % 2 ^ d ≤ x := Nat.mod_le _ _
    have hdl := Nat.div_le_self x (2 ^ d)
    rw [if_pos h', show (1 : Int64) = lN 1 from rfl, wb_shl _ (by omega), Nat.one_mul, lN_sub (Nat.two_pow_pos d), wb_mask (by omega) (by omega), wb_shr (by omega) (by omega), show (0 : Int64) = lN 0 from rfl]
    by_cases q : x % 2 ^ d = 0
    · rw [if_pos q, q, if_pos rfl, show (0 : Int32).toInt64 = lN 0 from by decide, wb_or (by omega) (by decide), Nat.or_zero]
    · rw [if_neg q, if_neg (fun z => q ((l6_eq (by omega) (by decide)).mp z)), show (1 : Int32).toInt64 = lN 1 from by decide, wb_or (by omega) (by decide)]
  · have h' : ¬ nI d ≤ (62 : Int32) := fun z => h ((nI_leI hd (by decide)).mp z)
    have hp : 2 ^ 61 ≤ 2 ^ d := pow2_le (by omega)
    rw [if_neg h', Nat.mod_eq_of_lt (by omega), Nat.div_eq_of_lt (by omega), show (0 : Int64) = lN 0 from rfl]
    by_cases q : x = 0
    · rw [q, if_pos rfl, if_pos rfl]
    · rw [if_neg q, if_neg (fun z => q ((l6_eq (by omega) (by decide)).mp z))]
      rfl
theorem lI_nat (n : Nat) : lI n = lN n := rfl
theorem lI_neg (z : Int) : -lI z = lI (-z) := (Int64.ofInt_neg z).symm
theorem lI_add (a b : Int) : lI a + lI b = lI (a + b) := (Int64.ofInt_add a b).symm
theorem lI_sub (a b : Int) : lI a - lI b = lI (a - b) := (Int64.ofInt_sub a b).symm
theorem lI_toInt {z : Int} (h1 : -9223372036854775808 ≤ z) (h2 : z < 9223372036854775808) : (lI z).toInt = z := by
  unfold lI
  rw [Int64.toInt_ofInt]
  exact fb_bmodL h1 h2
theorem lI_lt {a b : Int} (ha : -9223372036854775808 ≤ a ∧ a < 9223372036854775808) (hb : -9223372036854775808 ≤ b ∧ b < 9223372036854775808) : lI a < lI b ↔ a < b := by
  rw [fa_lt64, lI_toInt ha.1 ha.2, lI_toInt hb.1 hb.2]
theorem lI_le {a b : Int} (ha : -9223372036854775808 ≤ a ∧ a < 9223372036854775808) (hb : -9223372036854775808 ≤ b ∧ b < 9223372036854775808) : lI a ≤ lI b ↔ a ≤ b := by
  rw [fa_le64, lI_toInt ha.1 ha.2, lI_toInt hb.1 hb.2]
theorem lI_eq {a b : Int} (ha : -9223372036854775808 ≤ a ∧ a < 9223372036854775808) (hb : -9223372036854775808 ≤ b ∧ b < 9223372036854775808) : lI a = lI b ↔ a = b := by
  rw [fa_eq64, lI_toInt ha.1 ha.2, lI_toInt hb.1 hb.2]
theorem abs_l {z : Int} (h1 : -9223372036854775808 < z) (h2 : z < 9223372036854775808) : f_J9_abs_067f4 (lI z) = lN z.natAbs := by
  unfold f_J9_abs_067f4
  rw [show (0 : Int64) = lI 0 from rfl]
  by_cases h : 0 ≤ z
  · rw [if_pos ((lI_le (by omega) ⟨by omega, h2⟩).mpr h), ← lI_nat]
    congr 1
    omega
  · rw [if_neg (fun q => h ((lI_le (by omega) ⟨by omega, h2⟩).mp q)), lI_neg, ← lI_nat]
    congr 1
    omega
theorem pm_of_rr {k : Int32} (hk : isRk k) {m m' : Nat} {e e' : Int} (h : FP.Core.roundRatio (fm k) false m 1 e = FP.Core.roundRatio (fm k) false m' 1 e') : pm (fm k) m e = pm (fm k) m' e' := by
  have h1 := enc_eb hk (s := false) (m := m) (e := e)
  rw [h, enc_eb hk] at h1
  unfold eb at h1
  simp at h1
  exact h1.symm
/-- what the class adds up, by the greater one's exponent -/
def suZ (F : FP.Core.Fmt) (s : Bool) (n : Nat) (t : Bool) (m : Nat) : Int := FP.Core.signed s (sgN F n * 256) + FP.Core.signed t (mvN (sgN F m * 256) (exN F n - exN F m).toNat)
theorem su_core {k : Int32} (hk : isRk k) {s t : Bool} {n m : Nat} (h : exN (fm k) m ≤ exN (fm k) n) : (suZ (fm k) s n t m = 0 ↔ suV (fm k) s n t m = 0) ∧ (suZ (fm k) s n t m < 0 ↔ suV (fm k) s n t m < 0) ∧ pm (fm k) (suZ (fm k) s n t m).natAbs (exN (fm k) n - 8) = pm (fm k) (suV (fm k) s n t m).natAbs (exN (fm k) m) := by
  obtain ⟨fb, f1, f2, f3, f4, f5, f6, f7, f8, f9, f10, f11, f12, f13⟩ := FKof hk
  have hA := @sg_norm (fm k) n
  have hB := @sg_lt (fm k) m
  have hqm : (fm k).qmin ≤ exN (fm k) m := by unfold exN; omega
  have hrr := fun {m' m'' : Nat} {e e' : Int} => @pm_of_rr k hk m' m'' e e'
  unfold suZ suV FP.Core.sumUnits FP.Core.inUnits
  have hT : 0 < (fm k).tails := Nat.two_pow_pos _
  have hp2 : 2 ^ ((fm k).p + 1) = 4 * (fm k).tails := by rw [f5, f4, Nat.pow_succ, Nat.pow_succ]; omega
  have hpp : 0 < (fm k).p := by omega
  rw [Int.min_eq_right h, Int.sub_self, show (0 : Int).toNat = 0 from rfl, Nat.pow_zero, Nat.mul_one]
  generalize hea : exN (fm k) n = ea at *
  generalize heb : exN (fm k) m = eb at *
  generalize sgN (fm k) n = A at *
  generalize sgN (fm k) m = B at *
  generalize fm k = F at *
  obtain ⟨ap, hap⟩ : ∃ ap : Nat, ea - eb = ap := ⟨(ea - eb).toNat, by omega⟩
  rw [hap, Int.toNat_natCast]
  have hP := Nat.two_pow_pos ap
  -- the exact sum, scaled
  have key : ∀ mv : Nat, (FP.Core.signed s (A * 2 ^ ap) + FP.Core.signed t B) * 256 = (FP.Core.signed s (A * 256) + FP.Core.signed t mv) * ((2 ^ ap : Nat) : Int) + FP.Core.signed t 1 * ((B * 256 : Nat) - ((mv * 2 ^ ap : Nat) : Int)) := by
    intro mv
    generalize 2 ^ ap = P
    unfold FP.Core.signed
    cases s <;> cases t <;> simp <;> grind
  have sg1 : ∀ P : Nat, 0 < P → ∀ z : Int, (z * (P : Int) < 0 ↔ z < 0) ∧ (z * (P : Int) = 0 ↔ z = 0) := by
    intro P hP z
    refine ⟨⟨fun q => ?_, fun q => Int.mul_neg_of_neg_of_pos q (by omega)⟩, ⟨fun q => ?_, fun q => by rw [q, Int.zero_mul]⟩⟩
    · rcases Int.lt_or_le z 0 with h | h
      · exact h
      · exact absurd q (Int.not_lt.mpr (Int.mul_nonneg h (by omega)))
    · rcases Int.mul_eq_zero.mp q with h | h
      · exact h
      · omega
  generalize hv : FP.Core.signed s (A * 2 ^ ap) + FP.Core.signed t B = v at *
  have hmv : ∀ mv : Nat, mv = mvN (B * 256) ap → (FP.Core.signed s (A * 256) + FP.Core.signed t mv = 0 ↔ v = 0) ∧ (FP.Core.signed s (A * 256) + FP.Core.signed t mv < 0 ↔ v < 0) ∧ FP.Core.roundRatio F false (FP.Core.signed s (A * 256) + FP.Core.signed t mv).natAbs 1 (ea - 8) = FP.Core.roundRatio F false v.natAbs 1 eb := by
    intro mv hm9
    have hk := key mv
    by_cases q : B * 256 % 2 ^ ap = 0
    · have hq : mv = B * 256 / 2 ^ ap := by rw [hm9]; unfold mvN; rw [if_pos q]
      have hx : mv * 2 ^ ap = B * 256 := by rw [hq]; exact Nat.div_mul_cancel (Nat.dvd_of_mod_eq_zero q)
      rw [hx, Int.sub_self, Int.mul_zero, Int.add_zero] at hk
      generalize FP.Core.signed s (A * 256) + FP.Core.signed t mv = z at hk ⊢
      obtain ⟨g1, g2⟩ := sg1 _ hP z
      refine ⟨?_, ?_, ?_⟩
      · rw [← g2, ← hk]; omega
      · rw [← g1, ← hk]; omega
      · have ha : v.natAbs * 2 ^ 8 = z.natAbs * 2 ^ ap := by
          have := congrArg Int.natAbs hk
          rw [Int.natAbs_mul, Int.natAbs_mul, Int.natAbs_natCast] at this
          exact this
        have r1 := rr_num (f := F) (s := false) (num := z.natAbs) (den := 1) (j := ap) (e := ea - 8 - ap) (by decide)
        have r2 := rr_num (f := F) (s := false) (num := v.natAbs) (den := 1) (j := 8) (e := eb - 8) (by decide)
        rw [show ea - 8 - (ap : Int) + (ap : Int) = ea - 8 by omega] at r1
        rw [show eb - 8 + ((8 : Nat) : Int) = eb by omega] at r2
        rw [← r1, ← r2, ha]
        congr 1
        omega
    · have hq : mv = B * 256 / 2 ^ ap ||| 1 := by rw [hm9]; unfold mvN; rw [if_neg q]
      have h9 : 9 ≤ ap := by
        rcases Nat.lt_or_ge ap 9 with h | h
        · exfalso
          apply q
          apply Nat.mod_eq_zero_of_dvd
          exact Nat.dvd_trans (Nat.pow_dvd_pow 2 (show ap ≤ 8 by omega)) (Nat.dvd_mul_left 256 B)
        · exact h
      have hAT : F.tails ≤ A := hA (by omega)
      have h512 : 2 ^ 9 ≤ 2 ^ ap := pow2_le h9
      have hdm := Nat.div_add_mod (B * 256) (2 ^ ap)
      have hml := Nat.mod_lt (B * 256) hP
      have hdl : B * 256 / 2 ^ ap ≤ B / 2 := by
        rw [Nat.div_le_iff_le_mul_add_pred hP]
        have : 2 ^ 9 * (B / 2) ≤ 2 ^ ap * (B / 2) := Nat.mul_le_mul_right _ h512
        omega
      rw [or1] at hq
      generalize hQ : B * 256 / 2 ^ ap = Q at *
      generalize hR : B * 256 % 2 ^ ap = r at *
      generalize hPP : 2 ^ ap = P at *
      -- the difference
      have hdel : ∃ d : Int, v * 256 = (FP.Core.signed s (A * 256) + FP.Core.signed t mv) * (P : Int) + d ∧ -(P : Int) < d ∧ d < P := by
        refine ⟨_, hk, ?_⟩
        have e1 : ((B * 256 : Nat) : Int) = P * Q + r := by rw [← hdm]; simp
        rw [e1]
        have hd : ((P : Int) * Q + r - ((mv * P : Nat) : Int)) = r ∨ ((P : Int) * Q + r - ((mv * P : Nat) : Int)) = r - P := by
          rw [hq]
          split
          · right
            rw [Nat.add_mul, Nat.one_mul, Nat.mul_comm Q P]
            simp
            omega
          · left
            rw [Nat.mul_comm Q P]
            simp
            omega
        have hr : 0 < r := by omega
        unfold FP.Core.signed
        rcases hd with hd | hd <;> rw [hd] <;> cases t <;> simp <;> omega
      obtain ⟨d, hd1, hd2, hd3⟩ := hdel
      have hmo : mv % 2 = 1 := by rw [hq]; split <;> omega
      have hmb : mv ≤ B / 2 + 1 := by rw [hq]; split <;> omega
      generalize hz : FP.Core.signed s (A * 256) + FP.Core.signed t mv = z at *
      have hzo : z.natAbs % 2 = 1 := by rw [← hz]; unfold FP.Core.signed; cases s <;> cases t <;> simp <;> omega
      have hzb : 4 * F.tails ≤ z.natAbs := by rw [← hz]; unfold FP.Core.signed; cases s <;> cases t <;> simp <;> omega
      have hz1 : z ≠ 0 := by omega
      have hzP : z ≤ -1 → z * (P : Int) ≤ -(P : Int) := fun w => by
        have := Int.mul_le_mul_of_nonneg_right w (show (0 : Int) ≤ P by omega)
        omega
      have hzP' : 1 ≤ z → (P : Int) ≤ z * (P : Int) := fun w => by
        have := Int.mul_le_mul_of_nonneg_right w (show (0 : Int) ≤ P by omega)
        omega
      refine ⟨by omega, by omega, ?_⟩
      have nv : (v.natAbs * 256 : Int) = (v * 256).natAbs := by rw [Int.natAbs_mul]; rfl
      have nz : ((z * (P : Int)).natAbs) = z.natAbs * P := by rw [Int.natAbs_mul, Int.natAbs_natCast]
      have b1 : (z.natAbs - 1) * P < v.natAbs * 256 := by
        rw [Nat.sub_mul, Nat.one_mul, ← nz]
        omega
      have b2 : v.natAbs * 256 < (z.natAbs + 1) * P := by
        rw [Nat.add_mul, Nat.one_mul, ← nz]
        omega
      have st := rr_sticky (f := F) (s := false) (num := v.natAbs * 2 ^ 8) (den := P) (N := z.natAbs) (e := ea - 8) hP hzo (by rw [hp2]; exact hzb) hpp b1 b2
      rw [← st]
      have r1 := rr_num (f := F) (s := false) (num := v.natAbs) (den := P) (j := 8) (e := ea - 8) hP
      have r2 := rr_den (f := F) (s := false) (num := v.natAbs) (den := 1) (j := ap) (e := eb) (by decide)
      rw [r1, show ea - 8 + ((8 : Nat) : Int) = eb + ap by omega, ← r2, hPP, Nat.one_mul]
  obtain ⟨g1, g2, g3⟩ := hmv _ rfl
  exact ⟨g1, g2, hrr g3⟩
theorem signed_mul (s : Bool) (a : Nat) : (if s then -lN a else lN a) = lI (FP.Core.signed s a) := by
  cases s with
  | false => rfl
  | true => show -lN a = lI (-(a : Int)); rw [← lI_neg]; rfl
theorem su_120 {G : Nat → KT} {K : RT} (hc : cloX3_sum G K wT) {k : Int32} (hk : isRk k) {s t s' t' : Bool} {n m n' m' : Nat} (hn : n < iN k) (hm : m < iN k) (hn' : n' < iN k) (hm' : m' < iN k) (hle : exN (fm k) m' ≤ exN (fm k) n') (hst : (s' && t') = (s && t))
    {o5 o6 o7 o8 o9 o11 o12 o13 o14 o15 o16 o17 o18 : Option Value} {M : Mem} (hW : Wf M) (h : K (some (.long (bk k (FP.Core.sumSign s t (suV (fm k) s' n' t' m')) (pm (fm k) (suV (fm k) s' n' t' m').natAbs (exN (fm k) m'))))) M) :
    G 120 [some (.int k), some (.long (bk k s n)), none, some (.long (bk k t m)), none, o5, o6, o7, o8, o9, some (.int (iI (exN (fm k) n'))), o11, o12, o13, o14, o15, o16, o17, o18] [.long (lI (FP.Core.signed t' (mvN (sgN (fm k) m' * 256) (exN (fm k) n' - exN (fm k) m').toNat))), .long (lI (FP.Core.signed s' (sgN (fm k) n' * 256)))] M := by
  have g1 := sg_rng hk (n := n')
  have g2 := sg_rng hk (n := m')
  have g3 := ex_rng hk (n := n') (by omega)
  have g4 := mv_lt (x := sgN (fm k) m' * 256) (d := (exN (fm k) n' - exN (fm k) m').toNat) (by omega)
  obtain ⟨c1, c2, c3⟩ := su_core (s := s') (t := t') hk hle
  rw [← c3] at h
  refine eX3_sum_120 hc hW ?_
  rw [lI_add]
  rw [show FP.Core.signed s' (sgN (fm k) n' * 256) + FP.Core.signed t' (mvN (sgN (fm k) m' * 256) (exN (fm k) n' - exN (fm k) m').toNat) = suZ (fm k) s' n' t' m' from rfl]
  have hz : -9223372036854775808 < suZ (fm k) s' n' t' m' ∧ suZ (fm k) s' n' t' m' < 9223372036854775808 := by
    unfold suZ FP.Core.signed
    cases s' <;> cases t' <;> simp <;> omega
  generalize suZ (fm k) s' n' t' m' = z at *
  generalize suV (fm k) s' n' t' m' = v at *
  rw [abs_l hz.1 hz.2, show (8 : Int32) = iI 8 from rfl, iI_sub, show (0 : Int64) = lI 0 from rfl, lI_lt ⟨by omega, hz.2⟩ (by omega), lI_eq ⟨by omega, hz.2⟩ (by omega), show lI 0 = (0 : Int64) from rfl, bk_pos hk (by omega), bk_pos hk (by omega)]
  have fin : ∀ {neg : Int32} (sg : Bool), sg = FP.Core.sumSign s t v → neg = sI sg → ∀ {o15' o17' o18' : Option Value}, sp_X3_pack [.int k, .int neg, .long (lN z.natAbs), .int (iI (exN (fm k) n' - 8))] M (fun v M' => RX3_sum_154_8 G K [some (.int k), some (.long (bk k s n)), none, some (.long (bk k t m)), none, o5, o6, o7, o8, o9, some (.int (iI (exN (fm k) n'))), o11, o12, o13, o14, (lk o15), o15', o17', o18'] (v.toList ++ []) M') := by
    intro neg sg h1 h2 o1 o2 o3
    refine c_X3_pack hW hk h2 (by omega) (by omega) (rX3_sum_154_8 hc hW ?_)
    rw [h1]
    exact h
  unfold FP.Core.sumSign at fin
  refine ⟨fun q => fin true ?_ rfl, fun q => ⟨fun q2 => fin false ?_ rfl, fun q2 => ⟨fun q3 => fin false ?_ rfl, fun q3 => ⟨fun q4 => fin false ?_ rfl, fun q4 => fin true ?_ rfl⟩⟩⟩⟩
  · rw [if_neg (by omega)]
    exact (decide_eq_true (by omega)).symm
  · rw [if_neg (by omega)]
    exact (decide_eq_false (by omega)).symm
  · rw [if_pos (by omega), q3]
    rfl
  · rw [if_pos (by omega), q4, Bool.and_false]
  · rw [if_pos (by omega), ts_nf q3, ts_nf q4]
    rfl
theorem su_42 {G : Nat → KT} {K : RT} (hc : cloX3_sum G K wT) {k : Int32} (hk : isRk k) {s t s' t' : Bool} {n m n' m' : Nat} (hn : n < iN k) (hm : m < iN k) (hn' : n' < iN k) (hm' : m' < iN k) (hle : exN (fm k) m' ≤ exN (fm k) n') (hst : (s' && t') = (s && t))
    {o5 o8 o9 o10 o11 o12 o13 o14 o15 o16 o17 o18 : Option Value} {M : Mem} (hW : Wf M) (h : K (some (.long (bk k (FP.Core.sumSign s t (suV (fm k) s' n' t' m')) (pm (fm k) (suV (fm k) s' n' t' m').natAbs (exN (fm k) m'))))) M) :
    G 42 [some (.int k), some (.long (bk k s n)), none, some (.long (bk k t m)), none, o5, some (.long (bk k s' n')), none, o8, o9, o10, o11, o12, o13, o14, o15, o16, o17, o18] [.long (bk k t' m')] M := by
  have g1 := sg_rng hk (n := n')
  have g2 := sg_rng hk (n := m')
  have g3 := ex_rng hk (n := n') (by omega)
  have g4 := ex_rng hk (n := m') (by omega)
  refine eX3_sum_42 hc hW ?_
  intro y1 hy1 y2 hy2 y3 hy3
  rw [ex_bk hk (by omega), ex_bk hk (by omega), iI_sub, show exN (fm k) n' - exN (fm k) m' = (((exN (fm k) n' - exN (fm k) m').toNat : Nat) : Int) by omega, iI_nat] at hy1
  rw [sg_bk hk (by omega), show (8 : Int32) = nI 8 from rfl, wb_shl _ (by decide)] at hy2
  rw [sg_bk hk (by omega), show (8 : Int32) = nI 8 from rfl, wb_shl _ (by decide), hy1, show 2 ^ 8 = 256 from rfl, moved_l (by omega) (by omega)] at hy3
  have fin := @su_120 G K hc k hk s t s' t' n m n' m' hn hm hn' hm' hle hst
  rw [← signed_mul, ← signed_mul] at fin
  rw [bk_pos hk (by omega), bk_pos hk (by omega), ex_bk hk (by omega)]
  subst hy2 hy3
  refine ⟨fun q => ⟨fun q2 => ?_, fun q2 => ?_⟩, fun q => ⟨fun q2 => ?_, fun q2 => ?_⟩⟩
  · subst q q2
    exact fin hW h
  · subst q
    have := ts_nf q2
    subst this
    exact fin hW h
  · subst q2
    have := ts_nf q
    subst this
    exact fin hW h
  · have := ts_nf q
    subst this
    have := ts_nf q2
    subst this
    exact fin hW h
theorem suV_comm {F : FP.Core.Fmt} {s t : Bool} {n m : Nat} : suV F s n t m = suV F t m s n := by
  unfold suV FP.Core.sumUnits
  rw [Int.add_comm, Int.min_comm]
theorem c_X3_sum {k : Int32} {s t : Bool} {n m : Nat} {M : Mem} {K : RT} (hW : Wf M) (hk : isRk k) (hn : n < iN k) (hm : m < iN k) (h : K (some (.long (bk k (suS k s n t m) (suM k s n t m)))) M) : sp_X3_sum [.int k, .long (bk k s n), .long (bk k t m)] M K := by
  refine ⟨Nat.le_of_ble_eq_true rfl, fun G hc => ?_⟩
  rw [hW.1] at hc
  have g3 := ex_rng hk (n := n) (by omega)
  have g4 := ex_rng hk (n := m) (by omega)
  unfold suS suM at h
  refine eX3_sum hc hW ?_
  rw [ex_bk hk (by omega), ex_bk hk (by omega), iI_lt (by omega) (by omega)]
  refine ⟨fun q => ?_, fun q => ?_⟩
  · refine eX3_sum_18 hc hW ⟨fun _ => ⟨fun _ => ?_, fun z => absurd rfl z⟩, fun z => absurd rfl z⟩
    refine su_42 hc hk hn hm hm hn (by omega) (Bool.and_comm _ _) hW ?_
    rw [← suV_comm (n := n) (m := m)]
    rw [Int.min_eq_left (by omega)] at h
    exact h
  · refine eX3_sum_18 hc hW ⟨fun z => absurd z (by decide), fun _ => ⟨fun z => absurd z (by decide), fun _ => ?_⟩⟩
    refine su_42 hc hk hn hm hn hm (by omega) rfl hW ?_
    rw [Int.min_eq_right (by omega)] at h
    exact h
end SUM2
