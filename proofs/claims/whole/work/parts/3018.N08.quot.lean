section QUOT
theorem l6_div {a b : Nat} (ha : a < 2 ^ 63) (hb : b < 2 ^ 63) : lN a / lN b = lN (a / b) := by
  apply Int64.toInt_inj.mp
  have h := Nat.div_le_self a b
  rw [Int64.toInt_div, l6_int ha, l6_int hb, l6_int (by omega), ← Int.ofNat_tdiv]
  generalize a / b = q at h ⊢
  exact fb_bmodL (by omega) (by omega)
theorem l6_rem {a b : Nat} (ha : a < 2 ^ 63) (hb : b < 2 ^ 63) : lN a - lN a / lN b * lN b = lN (a % b) := by
  have h := Nat.div_add_mod a b
  rw [l6_div ha hb, lN_mul, lN_sub (by rw [Nat.mul_comm]; omega)]
  congr 1
  rw [Nat.mul_comm]
  omega
/-- the quotient's magnitude -/
def diM (k : Int32) (n m : Nat) : Nat := FP.Core.encode (fm k) (FP.Core.roundRatio (fm k) false (sgN (fm k) n) (sgN (fm k) m) (exN (fm k) n - exN (fm k) m))
theorem enc_sign {k : Int32} (hk : isRk k) {s : Bool} {num den N : Nat} {e e' : Int} (h : FP.Core.roundRatio (fm k) s num den e = FP.Core.roundRatio (fm k) s N 1 e') : FP.Core.encode (fm k) (FP.Core.roundRatio (fm k) s num den e) = eb k s (pm (fm k) N e') := by
  rw [h, enc_eb hk]
/-- one step's share of the division -/
theorem qu_step {a b i : Nat} (hb : 0 < b) : a * 2 ^ (10 * (i + 1)) / b = a * 2 ^ (10 * i) / b * 2 ^ 10 + a * 2 ^ (10 * i) % b * 2 ^ 10 / b ∧ a * 2 ^ (10 * (i + 1)) % b = a * 2 ^ (10 * i) % b * 2 ^ 10 % b := by
  have e : a * 2 ^ (10 * (i + 1)) = a * 2 ^ (10 * i) * 2 ^ 10 := by rw [Nat.mul_assoc, ← Nat.pow_add]; rfl
  rw [e]
  have h := Nat.div_add_mod (a * 2 ^ (10 * i)) b
  generalize a * 2 ^ (10 * i) = x at *
  have e2 : x * 2 ^ 10 = x % b * 2 ^ 10 + b * (x / b * 2 ^ 10) := by
    conv => lhs; rw [← h]
    rw [Nat.add_mul, Nat.mul_assoc, Nat.add_comm]
  rw [e2, Nat.add_mul_div_left _ _ hb, Nat.add_mul_mod_self_left]
  exact ⟨Nat.add_comm _ _, rfl⟩
theorem qu_120 {G : Nat → KT} {K : RT} (hc : cloX3_quotient G K wT) {k : Int32} (hk : isRk k) {s t sg : Bool} {n m a b u v : Nat} (hn : n < iN k) (hm : m < iN k) (ha : a < 2 ^ 53) (hb : b < 2 ^ 53) (hb0 : 2 ^ 52 ≤ b) (hu : u ≤ 52) (hv : v ≤ 52)
    {o6 o7 : Option Value} {M : Mem} (hW : Wf M)
    (h : K (some (.long (bk k sg (pm (fm k) (if a * 2 ^ 60 % b = 0 then a * 2 ^ 60 / b else a * 2 ^ 60 / b ||| 1) (exN (fm k) n - exN (fm k) m - u + v - 60))))) M) :
    ∀ j i : Nat, i + j = 6 → G 120 [some (.int k), some (.long (bk k s n)), none, some (.long (bk k t m)), none, some (.int (sI sg)), o6, o7, some (.long (lN b)), none, some (.int (nI u)), some (.int (nI v)), some (.long (lN (a * 2 ^ (10 * i) / b))), none, some (.long (lN (a * 2 ^ (10 * i) % b))), none, some (.int (nI i))] [] M := by
  have g3 := ex_rng hk (n := n) (by omega)
  have g4 := ex_rng hk (n := m) (by omega)
  have hbound : ∀ i, i ≤ 6 → a * 2 ^ (10 * i) / b < 2 ^ (10 * i + 1) ∧ a * 2 ^ (10 * i) % b < b := by
    intro i hi
    refine ⟨?_, Nat.mod_lt _ (by omega)⟩
    rw [Nat.div_lt_iff_lt_mul (by omega), Nat.pow_succ, Nat.mul_assoc, Nat.mul_comm a]
    exact Nat.mul_lt_mul_of_pos_left (by omega) (Nat.two_pow_pos _)
  intro j
  induction j with
  | zero =>
    intro i hi
    have : i = 6 := by omega
    subst this
    obtain ⟨q1, q2⟩ := hbound 6 (by omega)
    refine eX3_quotient_120 hc hW ⟨fun _ => ?_, fun z => absurd (show (6 : Int32) ≤ nI 6 by decide) z⟩
    intro y5 hy5
    have hy : y5 = iI (exN (fm k) n - exN (fm k) m - u + v - 60) := by
      rw [hy5, ex_bk hk (by omega), ex_bk hk (by omega), ← iI_nat, ← iI_nat, show (60 : Int32) = iI 60 from rfl, iI_sub, iI_sub, iI_add, iI_sub]
    subst hy
    rw [show (0 : Int64) = lN 0 from rfl, l6_eq (by omega) (by decide)]
    refine ⟨fun q => ?_, fun q => ?_⟩
    · rw [if_neg q] at h
      rw [show (1 : Int64) = lN 1 from rfl, wb_or (by omega) (by decide)]
      exact c_X3_pack hW hk rfl (by rw [or1]; split <;> omega) (by omega) (rX3_quotient_201_1 hc hW h)
    · rw [if_pos q] at h
      exact c_X3_pack hW hk rfl (by omega) (by omega) (rX3_quotient_201_1 hc hW h)
  | succ j ih =>
    intro i hi
    obtain ⟨q1, q2⟩ := hbound i (by omega)
    obtain ⟨p1, p2⟩ := qu_step (a := a) (b := b) (i := i) (by omega)
    have hq : a * 2 ^ (10 * i) / b < 2 ^ 51 := Nat.lt_of_lt_of_le q1 (pow2_le (by omega))
    have hb8 : ¬ lN b = 0 := fun z => by
      have := (l6_eq (b := 0) (by omega) (by decide)).mp z
      omega
    refine eX3_quotient_120 hc hW ⟨fun z => ?_, fun _ => ⟨hb8, ?_⟩⟩
    · exact absurd ((nI_leI (a := 6) (by decide) (by omega)).mp z) (by omega)
    · intro y6 hy6
      refine ⟨hb8, ?_⟩
      intro y7 hy7
      rw [show (10 : Int32) = nI 10 from rfl, wb_shl _ (by decide), wb_shl _ (by decide), l6_div (by omega) (by omega), lN_add, ← p1] at hy6
      rw [show (10 : Int32) = nI 10 from rfl, wb_shl _ (by decide), l6_rem (by omega) (by omega), ← p2] at hy7
      subst hy6 hy7
      rw [show nI i + (1 : Int32) = nI (i + 1) from nI_1 i]
      exact ih (i + 1) (by omega)
theorem qu_30 {G : Nat → KT} {K : RT} (hc : cloX3_quotient G K wT) {k : Int32} (hk : isRk k) {s t sg : Bool} {n m : Nat} (hn : n < iN k) (hm : m < iN k) (hm0 : 0 < sgN (fm k) m)
    {o5 o6 o7 o8 o9 o10 o11 o12 o13 o14 o15 o16 : Option Value} {M : Mem} (hW : Wf M) (h : K (some (.long (bk k sg (diM k n m)))) M) :
    G 30 [some (.int k), some (.long (bk k s n)), none, some (.long (bk k t m)), none, o5, o6, o7, o8, o9, o10, o11, o12, o13, o14, o15, o16] [.int (sI sg)] M := by
  obtain ⟨fb, f1, f2, f3, f4, f5, f6, f7, f8, f9, f10, f11, f12, f13⟩ := FKof hk
  have g1 := sg_rng hk (n := n)
  have g2 := sg_rng hk (n := m)
  refine eX3_quotient_30 hc hW ?_
  rw [sg_bk hk (by omega), sg_bk hk (by omega), sgN_0 hk, sgN_0 hk]
  refine ⟨fun q => ?_, fun q => ⟨fun q2 => ?_, fun q2 => absurd q2 (by omega)⟩⟩
  · have e : diM k n m = pm (fm k) 0 0 := by
      unfold diM
      have := enc_sign hk (s := false) (num := sgN (fm k) n) (den := sgN (fm k) m) (N := 0) (e := exN (fm k) n - exN (fm k) m) (e' := 0) (by unfold FP.Core.roundRatio; rw [q, if_pos rfl, if_pos rfl])
      rw [this]
      unfold eb
      simp
    rw [e] at h
    exact c_X3_pack (m := 0) (e := 0) hW hk rfl (by decide) (by decide) (rX3_quotient_60_4 hc hW h)
  · intro y1 hy1 y2 hy2 y3 hy3 y4 hy4
    obtain ⟨u1, u2, u3⟩ := up_53 (c := sgN (fm k) n) (by omega) g1
    obtain ⟨v1, v2, v3⟩ := up_53 (c := sgN (fm k) m) (by omega) g2
    rw [up_l (by omega) g1] at hy1
    rw [up_l (by omega) g2] at hy2
    rw [hy1, wb_shl _ (by omega)] at hy3
    rw [hy2, wb_shl _ (by omega)] at hy4
    subst hy1 hy2 hy3 hy4
    have hT : 2 ^ ((fm k).p + 1) ≤ 2 ^ 54 := pow2_le (by omega)
    generalize hu : 52 - (sgN (fm k) n).log2 = u at *
    generalize hv : 52 - (sgN (fm k) m).log2 = v at *
    have r1 := rr_num (f := fm k) (s := false) (num := sgN (fm k) n) (den := sgN (fm k) m) (j := u) (e := exN (fm k) n - exN (fm k) m - u) (by omega)
    have r2 := rr_den (f := fm k) (s := false) (num := sgN (fm k) n * 2 ^ u) (den := sgN (fm k) m) (j := v) (e := exN (fm k) n - exN (fm k) m - u) (by omega)
    have hbp : 0 < sgN (fm k) m * 2 ^ v := by omega
    have r3 := rr_num (f := fm k) (s := false) (num := sgN (fm k) n * 2 ^ u) (den := sgN (fm k) m * 2 ^ v) (j := 60) (e := exN (fm k) n - exN (fm k) m - u + v - 60) hbp
    rw [show exN (fm k) n - exN (fm k) m - (u : Int) + (u : Int) = exN (fm k) n - exN (fm k) m by omega] at r1
    rw [show exN (fm k) n - exN (fm k) m - (u : Int) + (v : Int) - 60 + ((60 : Nat) : Int) = exN (fm k) n - exN (fm k) m - u + v by omega] at r3
    have hd : diM k n m = pm (fm k) (if sgN (fm k) n * 2 ^ u * 2 ^ 60 % (sgN (fm k) m * 2 ^ v) = 0 then sgN (fm k) n * 2 ^ u * 2 ^ 60 / (sgN (fm k) m * 2 ^ v) else sgN (fm k) n * 2 ^ u * 2 ^ 60 / (sgN (fm k) m * 2 ^ v) ||| 1) (exN (fm k) n - exN (fm k) m - u + v - 60) := by
      unfold diM
      have e := enc_sign hk (s := false) (num := sgN (fm k) n) (den := sgN (fm k) m) (N := if sgN (fm k) n * 2 ^ u * 2 ^ 60 % (sgN (fm k) m * 2 ^ v) = 0 then sgN (fm k) n * 2 ^ u * 2 ^ 60 / (sgN (fm k) m * 2 ^ v) else sgN (fm k) n * 2 ^ u * 2 ^ 60 / (sgN (fm k) m * 2 ^ v) ||| 1) (e := exN (fm k) n - exN (fm k) m) (e' := exN (fm k) n - exN (fm k) m - u + v - 60) ?_
      · rw [e]
        unfold eb
        simp
      · rw [← r1, ← r2, ← r3]
        generalize hx : sgN (fm k) n * 2 ^ u = a at *
        generalize hy : sgN (fm k) m * 2 ^ v = b at *
        have hdm := Nat.div_add_mod (a * 2 ^ 60) b
        have hml := Nat.mod_lt (a * 2 ^ 60) hbp
        have hql : 2 ^ 59 ≤ a * 2 ^ 60 / b := by
          rw [Nat.le_div_iff_mul_le hbp]
          omega
        by_cases w : a * 2 ^ 60 % b = 0
        · rw [if_pos w]
          have := rr_any (f := fm k) (s := false) (num := a * 2 ^ 60 / b) (den := 1) (c := b) (e := exN (fm k) n - exN (fm k) m - u + v - 60) (by decide) hbp
          rw [← this, Nat.one_mul, Nat.div_mul_cancel (Nat.dvd_of_mod_eq_zero w)]
        · rw [if_neg w]
          generalize a * 2 ^ 60 / b = Q at *
          generalize a * 2 ^ 60 % b = r at *
          refine rr_sticky hbp ?_ ?_ (by omega) ?_ ?_
          · rw [or1]; split <;> omega
          · rw [or1]; split <;> omega
          · rw [or1]
            split
            · rw [Nat.add_sub_cancel, Nat.mul_comm]; omega
            · rw [Nat.sub_mul, Nat.one_mul, Nat.mul_comm Q b]
              have : b ≤ b * Q := Nat.le_mul_of_pos_right _ (by omega)
              omega
          · rw [or1]
            split
            · rw [Nat.add_mul, Nat.add_mul, Nat.one_mul, Nat.mul_comm Q b]; omega
            · rw [Nat.add_mul, Nat.one_mul, Nat.mul_comm Q b]; omega
    rw [hd] at h
    have hb8 : ¬ lN (sgN (fm k) m * 2 ^ v) = 0 := fun z => by
      have := (l6_eq (b := 0) (by omega) (by decide)).mp z
      omega
    refine ⟨hb8, hb8, ?_⟩
    have fin := qu_120 hc hk (s := s) (t := t) (sg := sg) hn hm u3 v3 v2 (show u ≤ 52 by omega) (show v ≤ 52 by omega) (o6 := some (.long (lN (sgN (fm k) n * 2 ^ u)))) (o7 := none) hW h 6 0 rfl
    rw [l6_rem (by omega) (by omega), l6_div (by omega) (by omega)]
    rw [Nat.mul_zero, Nat.pow_zero, Nat.mul_one] at fin
    exact fin
theorem c_X3_quotient {k : Int32} {s t : Bool} {n m : Nat} {M : Mem} {K : RT} (hW : Wf M) (hk : isRk k) (hn : n < iN k) (hm : m < iN k) (hm0 : 0 < sgN (fm k) m) (h : K (some (.long (bk k (s != t) (diM k n m)))) M) : sp_X3_quotient [.int k, .long (bk k s n), .long (bk k t m)] M K := by
  refine ⟨Nat.le_of_ble_eq_true rfl, fun G hc => ?_⟩
  rw [hW.1] at hc
  refine eX3_quotient hc hW ?_
  rw [bk_pos hk (by omega)]
  refine ⟨fun q => eX3_quotient_11 hc hW ?_, fun q => eX3_quotient_11 hc hW ?_⟩
  · subst q
    rw [bk_pos hk (by omega)]
    refine ⟨fun q => ⟨fun _ => ?_, fun z => absurd rfl z⟩, fun q => ⟨fun z => absurd z (by decide), fun _ => ?_⟩⟩
    · subst q
      exact qu_30 (sg := false) hc hk hn hm hm0 hW h
    · have := ts_nf q
      subst this
      exact qu_30 (sg := true) hc hk hn hm hm0 hW h
  · have := ts_nf q
    subst this
    rw [bk_pos hk (by omega)]
    refine ⟨fun q => ⟨fun z => absurd z (by decide), fun _ => ?_⟩, fun q => ⟨fun _ => ?_, fun z => absurd rfl z⟩⟩
    · subst q
      exact qu_30 (sg := true) hc hk hn hm hm0 hW h
    · have := ts_nf q
      subst this
      exact qu_30 (sg := false) hc hk hn hm hm0 hW h
theorem enc_settle {f : FP.Core.Fmt} {s : Bool} {c : Nat} {q : Int} : FP.Core.encode f (FP.Core.settle f s c q) = s.toNat * (f.exps * f.tails) + FP.Core.encode f (FP.Core.settle f false c q) := by
  have hd : ∀ b c : Nat, (s.toNat * f.exps + b) * f.tails + c = s.toNat * (f.exps * f.tails) + ((false.toNat * f.exps + b) * f.tails + c) := by
    intro b c
    rw [Bool.toNat_false, Nat.zero_mul, Nat.zero_add, Nat.add_mul, Nat.mul_assoc, Nat.add_assoc]
  unfold FP.Core.settle FP.Core.bound
  split
  · split
    · show (if c < f.tails then FP.Core.assemble f s 0 c else FP.Core.assemble f s _ _) = _ + (if c < f.tails then FP.Core.assemble f false 0 c else FP.Core.assemble f false _ _)
      split <;> exact hd _ _
    · exact hd _ _
  · split
    · show (if f.tails < f.tails then FP.Core.assemble f s 0 f.tails else FP.Core.assemble f s _ _) = _ + (if f.tails < f.tails then FP.Core.assemble f false 0 f.tails else FP.Core.assemble f false _ _)
      split <;> exact hd _ _
    · exact hd _ _
theorem enc_sgn {f : FP.Core.Fmt} {s : Bool} {num den : Nat} {e : Int} : FP.Core.encode f (FP.Core.roundRatio f s num den e) = s.toNat * (f.exps * f.tails) + FP.Core.encode f (FP.Core.roundRatio f false num den e) := by
  unfold FP.Core.roundRatio
  split
  · show (if 0 < f.tails then FP.Core.assemble f s 0 0 else FP.Core.assemble f s _ _) = _ + (if 0 < f.tails then FP.Core.assemble f false 0 0 else FP.Core.assemble f false _ _)
    rw [if_pos (show 0 < f.tails from Nat.two_pow_pos _), if_pos (show 0 < f.tails from Nat.two_pow_pos _)]
    unfold FP.Core.assemble
    rw [Bool.toNat_false, Nat.zero_mul, Nat.add_zero, Nat.add_zero, Nat.zero_mul, Nat.add_zero, Nat.mul_assoc]
  · exact enc_settle
theorem div_eb {k : Int32} (hk : isRk k) {s t : Bool} {n m : Nat} (hn : n < iN k) (hm : m < iN k) (hm0 : 0 < sgN (fm k) m) : FP.Core.div (fm k) (eb k s n) (eb k t m) = eb k (s != t) (diM k n m) := by
  unfold FP.Core.div
  rw [dec_eb hk hn, dec_eb hk hm]
  show FP.Core.encode (fm k) (if sgN (fm k) m = 0 then _ else _) = _
  rw [if_neg (by omega), enc_sgn]
  rfl
end QUOT
