section OKJ
theorem okJ_low {k : Int32} (h : ¬ isRk k) (x : Int64) : okJ k (f_X3_lowBits k x) := ⟨fun q => absurd q h, fun _ => low_idem k x⟩
theorem okJ_fin {k : Int32} (h : isRk k) {x : Int64} (hx : finJ k x) : okJ k x := ⟨fun _ => hx, fun q => absurd h q⟩
/-- a number with few bits and no great exponent is finite -/
theorem pm_lt2 {k : Int32} (hk : isRk k) {m : Nat} {e : Int} (hm : m < 2 ^ (fm k).p) (he : (fm k).qmin ≤ e) (h : e - (fm k).qmin + 2 ≤ (fm k).exps - 1) : pm (fm k) m e < iN k := by
  obtain ⟨fb, f1, f2, f3, f4, f5, f6, f7, f8, f9, f10, f11, f12, f13⟩ := FKof hk
  unfold pm
  by_cases h0 : m = 0
  · rw [if_pos h0]
    show 0 < ((fm k).exps - 1) * (fm k).tails
    have : 0 < (fm k).tails := by rw [f4]; exact Nat.two_pow_pos fb
    exact Nat.mul_pos (by omega) this
  · rw [if_neg h0]
    have hp : (fm k).p = fb + 1 := f5
    have hl : m.log2 ≤ fb := by
      have a1 := log_lo (Nat.pos_of_ne_zero h0)
      have := (Nat.pow_lt_pow_iff_right (show 1 < 2 by decide)).mp (Nat.lt_of_le_of_lt a1 hm)
      omega
    have hq : rq (fm k) m e = max (fm k).qmin ((m.log2 : Int) + e - fb) := by unfold rq; rw [hp]; congr 1; omega
    have hqe : rq (fm k) m e ≤ e := by rw [hq]; omega
    have hc : rc (fm k) m e < 2 ^ (fb + 1) := by
      unfold rc
      rw [show (rq (fm k) m e - e).toNat = 0 by omega, Nat.pow_zero, nr_one]
      have hlog := log_hi m
      have hd : (e - rq (fm k) m e).toNat ≤ fb - m.log2 := by rw [hq]; omega
      calc m * 2 ^ (e - rq (fm k) m e).toNat < 2 ^ (m.log2 + 1) * 2 ^ (e - rq (fm k) m e).toNat := Nat.mul_lt_mul_of_pos_right hlog (Nat.two_pow_pos _)
        _ ≤ 2 ^ (m.log2 + 1) * 2 ^ (fb - m.log2) := Nat.mul_le_mul_left _ (pow2_le hd)
        _ = 2 ^ (fb + 1) := by rw [← Nat.pow_add]; congr 1; omega
    unfold rmag
    refine Nat.lt_of_le_of_lt (Nat.min_le_right _ _) ?_
    show _ < ((fm k).exps - 1) * (fm k).tails
    rw [f4]
    rw [Nat.pow_succ] at hc
    have hr : (rq (fm k) m e - (fm k).qmin).toNat + 2 ≤ (fm k).exps - 1 := by have : (fm k).qmin ≤ rq (fm k) m e := by rw [hq]; omega
                                                                              omega
    have := Nat.mul_le_mul_right (2 ^ fb) hr
    rw [Nat.add_mul] at this
    omega
theorem fm_p {k : Int32} (hk : isRk k) : 2 ^ (fm k).p = 2 * (fm k).tails := by
  rcases hk with rfl | rfl
  · rw [fmt5]; rfl
  · rw [fmt6]; rfl
theorem ex_top {k : Int32} (hk : isRk k) {n : Nat} (h : n < iN k) : (fm k).qmin ≤ exN (fm k) n ∧ exN (fm k) n - (fm k).qmin + 2 ≤ (fm k).exps - 1 := by
  obtain ⟨fb, f1, f2, f3, f4, f5, f6, f7, f8, f9, f10, f11, f12, f13⟩ := FKof hk
  unfold exN
  have ht : 0 < (fm k).tails := by rw [f4]; exact Nat.two_pow_pos fb
  have hd : n / (fm k).tails < (fm k).exps - 1 := (Nat.div_lt_iff_lt_mul ht).mpr h
  have he : 3 ≤ (fm k).exps := by
    rcases hk with rfl | rfl
    · rw [fmt5]; decide
    · rw [fmt6]; decide
  generalize n / (fm k).tails = Q at *
  omega
theorem reM_lt {k : Int32} (hk : isRk k) {n m : Nat} (hn : n < iN k) (hm : m < iN k) (hm0 : 0 < sgN (fm k) m) : reM k n m < iN k := by
  have tn := ex_top hk hn
  have tm := ex_top hk hm
  have sn := sg_lt (F := fm k) (n := n)
  have sm := sg_lt (F := fm k) (n := m)
  rw [← fm_p hk] at sn sm
  unfold reM
  by_cases q : exN (fm k) n ≤ exN (fm k) m
  · rw [Int.min_eq_left q]
    refine pm_lt2 hk ?_ tn.1 tn.2
    refine Nat.lt_of_le_of_lt (Nat.mod_le _ _) ?_
    unfold FP.Core.inUnits
    rw [Int.sub_self]
    simpa using sn
  · rw [Int.min_eq_right (by omega)]
    refine pm_lt2 hk ?_ tm.1 tm.2
    have e : FP.Core.inUnits (sgN (fm k) m) (exN (fm k) m) (exN (fm k) m) = sgN (fm k) m := by unfold FP.Core.inUnits; rw [Int.sub_self]; simp
    rw [e]
    exact Nat.lt_trans (Nat.mod_lt _ hm0) sm
/-- a number with few bits before its point -/
theorem pm_lt3 {k : Int32} (hk : isRk k) {m L : Nat} {e : Int} (hm : m < 2 ^ (L + 1)) (h : (L : Int) + e ≤ 120) : pm (fm k) m e < iN k := by
  obtain ⟨fb, f1, f2, f3, f4, f5, f6, f7, f8, f9, f10, f11, f12, f13⟩ := FKof hk
  unfold pm
  by_cases h0 : m = 0
  · rw [if_pos h0]
    show 0 < ((fm k).exps - 1) * (fm k).tails
    have : 0 < (fm k).tails := by rw [f4]; exact Nat.two_pow_pos fb
    exact Nat.mul_pos (by omega) this
  · rw [if_neg h0]
    have hl : m.log2 ≤ L := by
      have a1 := log_lo (Nat.pos_of_ne_zero h0)
      have := (Nat.pow_lt_pow_iff_right (show 1 < 2 by decide)).mp (Nat.lt_of_le_of_lt a1 hm)
      omega
    have hq : rq (fm k) m e = max (fm k).qmin ((m.log2 : Int) + e - fb) := by unfold rq; rw [f5]; congr 1; omega
    have hc := rc_le (f := fm k) (m := m) (e := e) (by omega)
    rw [f5, Nat.pow_succ] at hc
    unfold rmag
    refine Nat.lt_of_le_of_lt (Nat.min_le_right _ _) ?_
    show _ < ((fm k).exps - 1) * (fm k).tails
    rw [f4]
    have hr : (rq (fm k) m e - (fm k).qmin).toNat + 3 ≤ (fm k).exps - 1 := by
      rw [hq]
      rcases hk with rfl | rfl
      · have a1 : (fm 5).qmin = -149 := by rw [fmt5]; rfl
        have a2 : (fm 5).exps = 256 := by rw [fmt5]; rfl
        have a3 : fb = 23 := by have : (fm 5).p = 24 := rfl
                                omega
        omega
      · have a1 : (fm 6).qmin = -1074 := by rw [fmt6]; rfl
        have a2 : (fm 6).exps = 2048 := by rw [fmt6]; rfl
        have a3 : fb = 52 := by have : (fm 6).p = 53 := rfl
                                omega
        omega
    have := Nat.mul_le_mul_right (2 ^ fb) hr
    rw [Nat.add_mul] at this
    have := Nat.two_pow_pos fb
    omega
theorem reaJ_fin {k : Int32} (hk : isRk k) (v : Int64) : finJ k (reaJ k v) := by
  have := fb_rngL v
  exact finJ_bk hk (pm_lt3 hk (L := 63) (by omega) (by omega))
theorem sqD_lt : ∀ j v, (sqD j v).1 < 2 ^ j := by
  intro j
  induction j with
  | zero => intro v; exact Nat.one_pos
  | succ j ih =>
    intro v
    have := ih (v / 4)
    rw [Nat.pow_succ]
    unfold sqD
    split <;> (dsimp only; omega)
theorem tdiv2_le {x a : Int} (h : x ≤ 2 * a) (h0 : 0 ≤ a) : x.tdiv 2 ≤ a := by
  rw [Int.tdiv_eq_ediv]
  have : Int.sign 2 = 1 := rfl
  rw [this]
  split <;> omega
theorem roE_le {k : Int32} (hk : isRk k) {n : Nat} (h : n < iN k) : (roE k n).tdiv 2 ≤ if k = 5 then 60 else 500 := by
  have t := ex_top hk h
  have g : roE k n ≤ exN (fm k) n := by
    unfold roE
    have := Int.emod_nonneg (exN (fm k) n - ((52 - (sgN (fm k) n).log2 : Nat) : Int)) (show (2 : Int) ≠ 0 by decide)
    omega
  rcases hk with rfl | rfl
  · have a1 : (fm 5).qmin = -149 := by rw [fmt5]; rfl
    have a2 : (fm 5).exps = 256 := by rw [fmt5]; rfl
    rw [if_pos rfl]
    exact tdiv2_le (by omega) (by decide)
  · have a1 : (fm 6).qmin = -1074 := by rw [fmt6]; rfl
    have a2 : (fm 6).exps = 2048 := by rw [fmt6]; rfl
    rw [if_neg (by decide)]
    exact tdiv2_le (by omega) (by decide)
theorem pm_lt6 {m L : Nat} {e : Int} (hm : m < 2 ^ (L + 1)) (h : (L : Int) + e ≤ 900) : pm (fm 6) m e < iN 6 := by
  obtain ⟨fb, f1, f2, f3, f4, f5, f6, f7, f8, f9, f10, f11, f12, f13⟩ := FKof (k := 6) (Or.inr rfl)
  unfold pm
  by_cases h0 : m = 0
  · rw [if_pos h0, iN6]; decide
  · rw [if_neg h0]
    have hl : m.log2 ≤ L := by
      have a1 := log_lo (Nat.pos_of_ne_zero h0)
      have := (Nat.pow_lt_pow_iff_right (show 1 < 2 by decide)).mp (Nat.lt_of_le_of_lt a1 hm)
      omega
    have hq : rq (fm 6) m e = max (fm 6).qmin ((m.log2 : Int) + e - fb) := by unfold rq; rw [f5]; congr 1; omega
    have hc := rc_le (f := fm 6) (m := m) (e := e) (by omega)
    rw [f5, Nat.pow_succ] at hc
    unfold rmag
    refine Nat.lt_of_le_of_lt (Nat.min_le_right _ _) ?_
    show _ < ((fm 6).exps - 1) * (fm 6).tails
    rw [f4]
    have hr : (rq (fm 6) m e - (fm 6).qmin).toNat + 3 ≤ (fm 6).exps - 1 := by
      rw [hq]
      have a1 : (fm 6).qmin = -1074 := by rw [fmt6]; rfl
      have a2 : (fm 6).exps = 2048 := by rw [fmt6]; rfl
      have a3 : fb = 52 := by have : (fm 6).p = 53 := rfl
                              omega
      omega
    have := Nat.mul_le_mul_right (2 ^ fb) hr
    rw [Nat.add_mul] at this
    have := Nat.two_pow_pos fb
    omega
theorem rooJ_fin {k : Int32} (hk : isRk k) {x : Int64} (hx : finJ k x) : finJ k (rooJ k x) := by
  unfold rooJ
  by_cases h : nOf k x = 0
  · rw [if_pos h]; exact hx
  · rw [if_neg h]
    have hr := sqD_lt 57 (roX k (nOf k x) * 4 ^ 30)
    have he := roE_le hk hx.1
    have hb : (if (sqD 57 (roX k (nOf k x) * 4 ^ 30)).2 = 0 then (sqD 57 (roX k (nOf k x) * 4 ^ 30)).1 else (sqD 57 (roX k (nOf k x) * 4 ^ 30)).1 ||| 1) < 2 ^ (57 + 1) := by
      split
      · omega
      · rw [or1]; split <;> omega
    refine finJ_bk hk ?_
    rcases hk with rfl | rfl
    · rw [if_pos rfl] at he
      exact pm_lt3 (Or.inl rfl) hb (by omega)
    · rw [if_neg (by decide)] at he
      exact pm_lt6 hb (by omega)
theorem enc_le5 {c : Nat} {q : Int} (hq : -149 ≤ q) : FP.Core.encode FP.Core.b32 (FP.Core.settle FP.Core.b32 false c q) ≤ 2139095040 := by
  have t1 : FP.Core.b32.tails = 8388608 := rfl
  have t2 : FP.Core.b32.exps = 256 := rfl
  have t3 : FP.Core.b32.qmax = 104 := rfl
  have t4 : FP.Core.b32.qmin = -149 := rfl
  have t5 : FP.Core.b32.p = 24 := rfl
  have tb : Bool.toNat false = 0 := rfl
  unfold FP.Core.settle FP.Core.bound
  rw [t5, t1, t3]
  split
  · split
    · show FP.Core.encode _ (.fin false c q) ≤ _
      unfold FP.Core.encode FP.Core.assemble
      dsimp only
      rw [t1, t2, t4, tb]
      split <;> omega
    · show FP.Core.encode _ (.inf false) ≤ _
      unfold FP.Core.encode FP.Core.assemble
      dsimp only
      rw [t1, t2, tb]
      decide
  · split
    · show FP.Core.encode _ (.fin false 8388608 (q + 1)) ≤ _
      unfold FP.Core.encode FP.Core.assemble
      dsimp only
      rw [t1, t2, t4, tb]
      rw [if_neg (Nat.lt_irrefl _)]
      omega
    · show FP.Core.encode _ (.inf false) ≤ _
      unfold FP.Core.encode FP.Core.assemble
      dsimp only
      rw [t1, t2, tb]
      decide
theorem enc_le6 {c : Nat} {q : Int} (hq : -1074 ≤ q) : FP.Core.encode FP.Core.b64 (FP.Core.settle FP.Core.b64 false c q) ≤ 9218868437227405312 := by
  have t1 : FP.Core.b64.tails = 4503599627370496 := rfl
  have t2 : FP.Core.b64.exps = 2048 := rfl
  have t3 : FP.Core.b64.qmax = 971 := rfl
  have t4 : FP.Core.b64.qmin = -1074 := rfl
  have t5 : FP.Core.b64.p = 53 := rfl
  have tb : Bool.toNat false = 0 := rfl
  unfold FP.Core.settle FP.Core.bound
  rw [t5, t1, t3]
  split
  · split
    · show FP.Core.encode _ (.fin false c q) ≤ _
      unfold FP.Core.encode FP.Core.assemble
      dsimp only
      rw [t1, t2, t4, tb]
      split <;> omega
    · show FP.Core.encode _ (.inf false) ≤ _
      unfold FP.Core.encode FP.Core.assemble
      dsimp only
      rw [t1, t2, tb]
      decide
  · split
    · show FP.Core.encode _ (.fin false 4503599627370496 (q + 1)) ≤ _
      unfold FP.Core.encode FP.Core.assemble
      dsimp only
      rw [t1, t2, t4, tb]
      rw [if_neg (Nat.lt_irrefl _)]
      omega
    · show FP.Core.encode _ (.inf false) ≤ _
      unfold FP.Core.encode FP.Core.assemble
      dsimp only
      rw [t1, t2, tb]
      decide
theorem diM_le {k : Int32} (hk : isRk k) (n m : Nat) : diM k n m ≤ iN k := by
  unfold diM FP.Core.roundRatio
  split
  · have : FP.Core.encode (fm k) (.fin false 0 (fm k).qmin) = 0 := by
      rcases hk with rfl | rfl
      · rw [fmt5]; rfl
      · rw [fmt6]; rfl
    rw [this]
    exact Nat.zero_le _
  · unfold FP.Core.roundAt
    have hq : (fm k).qmin ≤ FP.Core.quantum (fm k) (sgN (fm k) n) (sgN (fm k) m) (exN (fm k) n - exN (fm k) m) := Int.le_max_left _ _
    rcases hk with rfl | rfl
    · rw [fmt5] at hq ⊢
      rw [iN5]; exact enc_le5 hq
    · rw [fmt6] at hq ⊢
      rw [iN6]; exact enc_le6 hq
end OKJ
