section REST
/-- a number of the format is its own rounding -/
theorem pm_id {k : Int32} (hk : isRk k) {n : Nat} (h : n < iN k) : pm (fm k) (sgN (fm k) n) (exN (fm k) n) = n := by
  obtain ⟨fb, f1, f2, f3, f4, f5, f6, f7, f8, f9, f10, f11, f12, f13⟩ := FKof hk
  unfold iN at h
  generalize fm k = F at *
  have hT : 0 < F.tails := Nat.two_pow_pos _
  have hdm := Nat.div_add_mod n F.tails
  have hml := Nat.mod_lt n hT
  have hlt := sg_lt (F := F) (n := n)
  unfold pm
  by_cases h0 : sgN F n = 0
  · rw [if_pos h0]
    unfold sgN at h0
    by_cases q : n / F.tails = 0
    · rw [if_pos q] at h0
      rw [q, h0] at hdm
      omega
    · rw [if_neg q] at h0
      omega
  · rw [if_neg h0]
    have hL : (sgN F n).log2 ≤ fb := by
      have : 2 ^ (sgN F n).log2 < 2 ^ (fb + 1) := Nat.lt_of_le_of_lt (log_lo (by omega)) (by rw [Nat.pow_succ, ← f4]; omega)
      have := (Nat.pow_lt_pow_iff_right (show 1 < 2 by decide)).mp this
      omega
    have hq : rq F (sgN F n) (exN F n) = exN F n := by
      rw [rq_sh f5]
      by_cases q : n / F.tails = 0
      · have : exN F n = F.qmin := by unfold exN; rw [q]; simp
        omega
      · have h1 : F.tails ≤ sgN F n := by unfold sgN; rw [if_neg q]; omega
        have h2 : fb ≤ (sgN F n).log2 := by
          have : 2 ^ fb < 2 ^ ((sgN F n).log2 + 1) := Nat.lt_of_le_of_lt (by rw [← f4]; exact h1) (log_hi _)
          have := (Nat.pow_lt_pow_iff_right (show 1 < 2 by decide)).mp this
          omega
        have h3 : F.qmin ≤ exN F n := by unfold exN; omega
        omega
    have hc : rc F (sgN F n) (exN F n) = sgN F n := by
      unfold rc
      rw [hq, Int.sub_self, show (0 : Int).toNat = 0 from rfl, Nat.pow_zero, Nat.mul_one, nr_one]
    unfold rmag
    rw [hc, hq]
    have e : (exN F n - F.qmin).toNat * F.tails + sgN F n = n := by
      unfold exN sgN
      rw [show ∀ a b : Int, a + b - a = b from fun a b => by omega, Int.toNat_natCast]
      by_cases q : n / F.tails = 0
      · rw [if_pos q, q, Nat.zero_sub, Nat.zero_mul, Nat.zero_add]
        rw [q] at hdm
        omega
      · rw [if_neg q, Nat.sub_mul, Nat.one_mul, Nat.mul_comm]
        have : F.tails ≤ F.tails * (n / F.tails) := Nat.le_mul_of_pos_right _ (Nat.pos_of_ne_zero q)
        omega
    rw [e, Nat.min_eq_right (by omega)]
/-- the rest's magnitude -/
def reM (k : Int32) (n m : Nat) : Nat :=
  pm (fm k) (FP.Core.inUnits (sgN (fm k) n) (exN (fm k) n) (min (exN (fm k) n) (exN (fm k) m)) % FP.Core.inUnits (sgN (fm k) m) (exN (fm k) m) (min (exN (fm k) n) (exN (fm k) m))) (min (exN (fm k) n) (exN (fm k) m))
theorem rem_eb {k : Int32} (hk : isRk k) {s t : Bool} {n m : Nat} (hn : n < iN k) (hm : m < iN k) (hm0 : 0 < sgN (fm k) m) : FP.Core.rem (fm k) (eb k s n) (eb k t m) = eb k s (reM k n m) := by
  unfold FP.Core.rem
  rw [dec_eb hk hn, dec_eb hk hm]
  show FP.Core.encode (fm k) (FP.Core.round (fm k) (if sgN (fm k) m = 0 then _ else _)) = _
  rw [if_neg (by omega)]
  exact enc_eb hk
theorem re_85 {G : Nat → KT} {K : RT} (hc : cloX3_rest G K wT) {k : Int32} (hk : isRk k) {s : Bool} {n r : Nat} {e : Int} (hn : n < iN k) (hr : r < 2 ^ 63) (he : -4000 ≤ e ∧ e ≤ 4000)
    {o3 o4 o5 o6 o8 o11 : Option Value} {M : Mem} (hW : Wf M) (h : K (some (.long (bk k s (pm (fm k) r e)))) M) : G 85 [some (.int k), some (.long (bk k s n)), none, o3, o4, o5, o6, some (.int (iI e)), o8, some (.long (lN r)), none, o11] [] M := by
  refine eX3_rest_85 hc hW ?_
  rw [bk_pos hk (by omega)]
  refine ⟨fun q => ?_, fun q => ?_⟩
  · subst q
    exact c_X3_pack hW hk rfl hr he (rX3_rest_97_2 hc hW h)
  · have := ts_nf q
    subst this
    exact c_X3_pack hW hk rfl hr he (rX3_rest_97_2 hc hW h)
theorem re_52 {G : Nat → KT} {K : RT} (hc : cloX3_rest G K wT) {k : Int32} (hk : isRk k) {s : Bool} {n d : Nat} {e : Int} (hn : n < iN k) (hd0 : 0 < d) (hd : d < 2 ^ 53) (he : -4000 ≤ e ∧ e ≤ 4000)
    {o3 o4 : Option Value} {M : Mem} (hW : Wf M) :
    ∀ j : Nat, ∀ (left : Int) (o8 : Option Value) (c : Nat), left ≤ 10 * j → left < 5000 → -20 < left → c < d → (K (some (.long (bk k s (pm (fm k) (c * 2 ^ left.toNat % d) e)))) M) → G 52 [some (.int k), some (.long (bk k s n)), none, o3, o4, some (.long (lN d)), none, some (.int (iI e)), o8, some (.long (lN c)), none, some (.int (iI left))] [] M := by
  have stop : ∀ (left : Int) (o8 : Option Value) (c : Nat), c < d → (left ≤ 0 ∨ c = 0) → (K (some (.long (bk k s (pm (fm k) (c * 2 ^ left.toNat % d) e)))) M) → G 85 [some (.int k), some (.long (bk k s n)), none, o3, o4, some (.long (lN d)), none, some (.int (iI e)), o8, some (.long (lN c)), none, some (.int (iI left))] [] M := by
    intro left o8 c hcd hs h
    have e1 : c * 2 ^ left.toNat % d = c := by
      rcases hs with q | q
      · rw [show left.toNat = 0 by omega, Nat.pow_zero, Nat.mul_one, Nat.mod_eq_of_lt hcd]
      · rw [q, Nat.zero_mul, Nat.zero_mod]
    rw [e1] at h
    exact re_85 hc hk hn (by omega) he hW h
  intro j
  induction j with
  | zero =>
    intro left o8 c h1 h2 h3 hcd h
    refine eX3_rest_52 hc hW ⟨fun _ => stop left o8 c hcd (Or.inl (by omega)) h, fun q => ?_⟩
    rw [show (0 : Int32) = iI 0 from rfl, iI_le (by omega) (by omega)] at q
    omega
  | succ j ih =>
    intro left o8 c h1 h2 h3 hcd h
    have hd8 : ¬ lN d = 0 := fun z => by
      have := (l6_eq (b := 0) (by omega) (by decide)).mp z
      omega
    refine eX3_rest_52 hc hW ?_
    rw [show (0 : Int32) = iI 0 from rfl, iI_le (by omega) (by omega), show (0 : Int64) = lN 0 from rfl, l6_eq (by omega) (by decide)]
    refine ⟨fun q => stop left o8 c hcd (Or.inl q) h, fun q => ⟨fun q2 => stop left o8 c hcd (Or.inr q2) h, fun q2 => ⟨hd8, ?_⟩⟩⟩
    intro y3 hy3
    have hmin : f_J9_min_7cf53 (iI left) (10 : Int32) = nI (min left.toNat 10) := by
      unfold f_J9_min_7cf53
      rw [show (10 : Int32) = iI 10 from rfl]
      by_cases w : 10 < left
      · rw [if_pos ((iI_lt (by omega) (by omega)).mpr w), Nat.min_eq_right (by omega)]
        rfl
      · rw [if_neg (fun z => w ((iI_lt (by omega) (by omega)).mp z)), Nat.min_eq_left (by omega), ← iI_nat]
        congr 1
        omega
    have hp : 2 ^ (min left.toNat 10) ≤ 2 ^ 10 := pow2_le (by omega)
    have hcp : c * 2 ^ (min left.toNat 10) ≤ c * 2 ^ 10 := Nat.mul_le_mul_left _ hp
    rw [hmin, wb_shl _ (by omega), l6_rem (by omega) (by omega)] at hy3
    subst hy3
    rw [show (-10 : Int32) = iI (-10) from rfl, iI_add]
    refine ih (left + -10) _ _ (by omega) (by omega) (by omega) (Nat.mod_lt _ hd0) ?_
    have e1 : c * 2 ^ (min left.toNat 10) % d * 2 ^ (left + -10).toNat % d = c * 2 ^ left.toNat % d := by
      rw [Nat.mod_mul_mod, Nat.mul_assoc, ← Nat.pow_add, show min left.toNat 10 + (left + -10).toNat = left.toNat by omega]
    rw [e1]
    exact h
theorem c_X3_rest {k : Int32} {s t : Bool} {n m : Nat} {M : Mem} {K : RT} (hW : Wf M) (hk : isRk k) (hn : n < iN k) (hm : m < iN k) (hm0 : 0 < sgN (fm k) m) (h : K (some (.long (bk k s (reM k n m)))) M) : sp_X3_rest [.int k, .long (bk k s n), .long (bk k t m)] M K := by
  refine ⟨Nat.le_of_ble_eq_true rfl, fun G hc => ?_⟩
  rw [hW.1] at hc
  obtain ⟨fb, f1, f2, f3, f4, f5, f6, f7, f8, f9, f10, f11, f12, f13⟩ := FKof hk
  have g1 := sg_rng hk (n := n)
  have g2 := sg_rng hk (n := m)
  have g3 := ex_rng hk (n := n) (by omega)
  have g4 := ex_rng hk (n := m) (by omega)
  have hd8 : ¬ lN (sgN (fm k) m) = 0 := fun z => by
    have := (sgN_0 hk).mp z
    omega
  refine eX3_rest hc hW ?_
  intro y1 hy1
  rw [ex_bk hk (by omega), ex_bk hk (by omega), iI_sub] at hy1
  subst hy1
  rw [sg_bk hk (by omega), sg_bk hk (by omega), ex_bk hk (by omega), show (0 : Int32) = iI 0 from rfl, iI_le (by omega) (by omega)]
  refine ⟨fun q => absurd q hd8, fun _ => ⟨fun q => ⟨hd8, ?_⟩, fun q => ?_⟩⟩
  · intro y2 hy2
    rw [l6_rem (by omega) (by omega)] at hy2
    subst hy2
    refine re_52 hc hk hn hm0 g2 (by omega) hW 500 _ _ _ (by omega) (by omega) (by omega) (Nat.mod_lt _ hm0) ?_
    unfold reM FP.Core.inUnits at h
    rw [Int.min_eq_right (by omega), Int.sub_self, show (0 : Int).toNat = 0 from rfl, Nat.pow_zero, Nat.mul_one] at h
    rw [Nat.mod_mul_mod]
    exact h
  · unfold reM FP.Core.inUnits at h
    rw [Int.min_eq_left (by omega), Int.sub_self, show (0 : Int).toNat = 0 from rfl, Nat.pow_zero, Nat.mul_one] at h
    have e1 : sgN (fm k) n < sgN (fm k) m * 2 ^ (exN (fm k) m - exN (fm k) n).toNat := by
      have h1 := sg_lt (F := fm k) (n := n)
      have h2 : (fm k).tails ≤ sgN (fm k) m := sg_norm (by have : (fm k).qmin ≤ exN (fm k) n := by (unfold exN; omega)
                                                           omega)
      have h3 : 2 ^ 1 ≤ 2 ^ (exN (fm k) m - exN (fm k) n).toNat := pow2_le (by omega)
      have h4 := Nat.mul_le_mul h2 h3
      omega
    rw [Nat.mod_eq_of_lt e1, pm_id hk hn] at h
    exact h
end REST
