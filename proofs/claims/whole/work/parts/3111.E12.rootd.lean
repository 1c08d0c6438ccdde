section ROOT16
theorem div_p {c : Nat} {e f : Int} (h : okP c e) (hf : -1074 ≤ f ∧ f ≤ 1023) : FP.ddiv (pX c e) (pX 1 f) = pX c (e - f) := by
  have h' := okP_1 hf
  obtain ⟨a1, a2, j, a3, a4⟩ := h.ex
  obtain ⟨b1, b2, i, b3, b4⟩ := h'.ex
  have hz : 0 < sgN (fm 6) (pm (fm 6) 1 f) := by rw [b3, Nat.one_mul]; exact Nat.two_pow_pos i
  have e1 : FP.ddiv (pX c e) (pX 1 f) = X6 (false != false) (diM 6 (pm (fm 6) c e) (pm (fm 6) 1 f)) := d6 (f := FP.Core.div FP.Core.b64) (tn6 (Nat.le_of_lt a1)) (tn6 (Nat.le_of_lt b1)) (by rw [← fmt6]; exact div_eb rk6 a1 b1 hz)
  have e2 : diM 6 (pm (fm 6) c e) (pm (fm 6) 1 f) = pm (fm 6) c (e - f) := by
    unfold diM
    rw [a3, a4, b3, b4, show e - (j : Int) - (f - (i : Int)) = (e - (j : Int) - f) + i by omega, rr_den (by decide), enc_eb rk6, pm_scale rk6, show e - (j : Int) - f + j = e - f by omega, eb6]
    simp
  rw [e1, e2]
  rfl
theorem l2d_p {Q : Nat} (h : Q < 2 ^ 63) : FP.l2d (lN Q) = X6 false (pm (fm 6) Q 0) := by
  show UInt64.ofNat (FP.Core.fromInt FP.Core.b64 (lN Q).toInt) = _
  rw [← fmt6, from_eb rk6, l6_int h, decide_eq_false (by omega)]
  rfl
theorem repQ {Q : Nat} (h1 : 2 ^ 52 ≤ Q) (h2 : Q ≤ 2 ^ 53) : ∃ (c f : Nat), 0 < c ∧ c < 2 ^ 53 ∧ c.log2 = 52 ∧ f ≤ 1 ∧ Q = c * 2 ^ f := by
  rcases Nat.lt_or_ge Q (2 ^ 53) with z | z
  · exact ⟨Q, 0, by omega, z, log2_of h1 z, by omega, by omega⟩
  · exact ⟨2 ^ 52, 1, by decide, by decide, log2_of (Nat.le_refl _) (by decide), by omega, by omega⟩
theorem fin_val {Q : Nat} {E : Int} (h1 : 2 ^ 52 ≤ Q) (h2 : Q ≤ 2 ^ 53) (hE : -600 ≤ E ∧ E ≤ 600) : FP.dmul (FP.ddiv (FP.l2d (lN Q)) (4841369599423283200 : UInt64)) (pX 1 E) = pX Q (E - 52) ∧ vf_n64 (FP.ddiv (FP.l2d (lN Q)) (4841369599423283200 : UInt64)) ∧ nar (pm (fm 6) Q (E - 52)) = pm (fm 5) Q (E - 52) := by
  obtain ⟨c, f, c1, c2, c3, c4, c5⟩ := repQ h1 h2
  have p0 : okP c f := ⟨c1, c2, by omega, by rw [c3]; omega⟩
  have p1 : okP c (f - 52) := ⟨c1, c2, by omega, by rw [c3]; omega⟩
  have p2 : okP c (f + (E - 52)) := ⟨c1, c2, by omega, by rw [c3]; omega⟩
  have e0 : FP.l2d (lN Q) = pX c f := by
    rw [l2d_p (by omega), c5, pm_scale rk6, Int.zero_add]
    rfl
  rw [e0, k_52, div_p p0 (by decide), mul_p1 p1 ⟨by omega, by omega⟩]
  refine ⟨?_, vf_p, ?_⟩
  · unfold pX
    rw [c5, pm_scale rk6, show (f : Int) - 52 + E = E - 52 + f by omega]
  · obtain ⟨a1, a2, j, a3, a4⟩ := p2.ex
    have e5 : pm (fm 6) Q (E - 52) = pm (fm 6) c (f + (E - 52)) := by rw [c5, pm_scale rk6, Int.add_comm]
    rw [e5]
    unfold nar
    rw [if_pos a1, a3, a4, pm_scale rk5, c5, pm_scale rk5]
    congr 1
    omega
theorem d2l_p {c : Nat} {e : Int} (h : okP c e) (h0 : 0 ≤ e) (hX : c * 2 ^ e.toNat < 2 ^ 63) : FP.d2l (pX c e) = lN (c * 2 ^ e.toNat) := by
  obtain ⟨a1, a2, j, a3, a4⟩ := h.ex
  show Int64.ofInt (FP.Core.toInt (-2 ^ 63) (2 ^ 63 - 1) (FP.Core.decode FP.Core.b64 (X6 false (pm (fm 6) c e)).toNat)) = _
  rw [dcf6 a1, a3, a4, tr_inv]
  have : FP.Core.toInt (-2 ^ 63) (2 ^ 63 - 1) (.fin false c e) = ((c * 2 ^ e.toNat : Nat) : Int) := by
    unfold FP.Core.toInt FP.Core.truncate FP.Core.signed
    dsimp only
    rw [show (-e).toNat = 0 by omega, Nat.pow_zero, Nat.div_one]
    simp only [Bool.false_eq_true, if_false]
    omega
  rw [this]
  rfl
theorem roo_is {k : Int32} (hr : isRk k) {n X : Nat} {E : Int} (h0 : 0 < n) (hn : n < iN k) (hX : roX k n = X) (hE : (roE k n).tdiv 2 = E - 26) (h1 : 2 ^ 52 ≤ X) (h2 : X < 2 ^ 54) (h5 : k = 5 → ∃ Y, X = Y * 2 ^ 29) (hq : (if k = 5 then -126 else -1022) ≤ E) {r w : Nat} (hrw : isR (X * 4 ^ 27) r w) : rooJ k (bk k false n) = bk k false (pm (fm k) (rndQ r w) (E - 52)) ∧ 2 ^ 52 ≤ rndQ r w ∧ rndQ r w ≤ 2 ^ 53 := by
  have hn' := Nat.le_of_lt hn
  unfold rooJ
  rw [nOf_bk hr hn', if_neg (by omega), hX, hE]
  have hv : X * 4 ^ 30 < 4 ^ 57 := by
    have : X * 4 ^ 30 < 2 ^ 54 * 4 ^ 30 := Nat.mul_lt_mul_of_pos_right h2 (by decide)
    exact this
  have hs := sqD_is 57 (X * 4 ^ 30) hv
  have hs1 := isR_lt (L := 57) hs hv
  have hs2 := isR_ge (L := 56) hs (by have : 2 ^ 52 * 4 ^ 30 ≤ X * 4 ^ 30 := Nat.mul_le_mul_right _ h1
                                      exact this)
  have hr1 := isR_lt (L := 54) hrw (by have : X * 4 ^ 27 < 2 ^ 54 * 4 ^ 27 := Nat.mul_lt_mul_of_pos_right h2 (by decide)
                                       exact this)
  have hr2 := isR_ge (L := 53) hrw (by have : 2 ^ 52 * 4 ^ 27 ≤ X * 4 ^ 27 := Nat.mul_le_mul_right _ h1
                                       exact this)
  have e64 : X * 4 ^ 30 = X * 4 ^ 27 * 64 := by rw [Nat.mul_assoc]
  generalize (sqD 57 (X * 4 ^ 30)).1 = s at *
  generalize (sqD 57 (X * 4 ^ 30)).2 = u at *
  have hQ := near_Q hrw (by rw [← e64]; exact hs)
  have hQ1 : 2 ^ 52 ≤ rndQ r w := by unfold rndQ; split <;> omega
  have hQ2 : rndQ r w ≤ 2 ^ 53 := by unfold rndQ; split <;> omega
  have hS := stk_b s u
  have hS2 : stkS s u < 2 ^ 57 := by rw [stk_cs]; (repeat' split) <;> omega
  refine ⟨?_, hQ1, hQ2⟩
  show bk k false (pm (fm k) (stkS s u) (E - 26 - 30)) = _
  rw [show E - 26 - 30 = E - 56 by omega]
  rcases hr with rfl | rfl
  · obtain ⟨Y, hY⟩ := h5 rfl
    have hs' : isR (Y * 2 ^ 89) s u := by
      have : Y * 2 ^ 89 = X * 4 ^ 30 := by rw [hY, Nat.mul_assoc]
      rw [this]; exact hs
    rw [if_pos rfl] at hq
    rw [pm_two FK5 (by omega) hS2 hQ1 hQ2 (by rw [← hQ]; exact dbl_r hs' hs1) (by rw [q5]; omega)]
  · rw [if_neg (by decide)] at hq
    rw [pm_two (k := 6) (by rw [fmt6]; exact FK6) (by omega) hS2 hQ1 hQ2 (by rw [← hQ]; exact nr_one _) (by rw [q6]; omega)]
theorem c_root13 {k : Int32} (hr : isRk k) {n : Nat} (h0 : 0 < n) (hn : n < iN k) {M : Mem} {K : RT} (hW : Wf M) (h : ∀ Q : Nat, ∀ E : Int, rooJ k (bk k false n) = bk k false (pm (fm k) Q (E - 52)) → nar (pm (fm 6) Q (E - 52)) = pm (fm 5) Q (E - 52) → K (some (.double (pX Q (E - 52)))) M) : sp_X13_root [.double (xO k (bk k false n))] M K := by
  have hn' := Nat.le_of_lt hn
  have hz : 0 < sgN (fm k) n := Nat.pos_of_ne_zero (fun z => by have := (sg_z hr hn).mp z; omega)
  have hc53 := sg_rng hr (n := n)
  have hx := ex_top hr hn
  have hqm : (if k = 5 then (-149 : Int) else -1074) ≤ exN (fm k) n ∧ exN (fm k) n ≤ 971 ∧ (k = 5 → (sgN (fm k) n).log2 ≤ 23) := by
    rcases hr with rfl | rfl
    · rw [q5, x5] at hx
      rw [if_pos rfl]
      refine ⟨hx.1, by omega, fun _ => ?_⟩
      have := sg_lt (F := fm 5) (n := n)
      rw [t5] at this
      have := (Nat.log2_lt (by omega)).mpr (show sgN (fm 5) n < 2 ^ 24 by omega)
      omega
    · rw [q6, x6] at hx
      rw [if_neg (by decide)]
      exact ⟨hx.1, by omega, fun z => absurd z (by decide)⟩
  have ex : xO k (bk k false n) = pX (sgN (fm k) n) (exN (fm k) n) := by
    rw [xO_bk hr hn']
    rcases hr with rfl | rfl
    · rw [w65]
      exact congrArg (X6 false) (if_pos hn)
    · rw [w66]
      exact congrArg (X6 false) (pm_self rk6 hn).symm
  have hX : ∀ e : Int, 0 ≤ ((sgN (fm k) n).log2 : Int) + e → ((sgN (fm k) n).log2 : Int) + e < 2 → (∃ E : Int, e + 2 * E = exN (fm k) n) → roX k n = sgN (fm k) n * 2 ^ (52 + e).toNat ∧ roE k n = exN (fm k) n - e - 52 := by
    intro e a1 a2 ⟨E, hE⟩
    have hl := log_52 hz hc53
    have hp : (exN (fm k) n - ((52 - (sgN (fm k) n).log2 : Nat) : Int)) % 2 = ((sgN (fm k) n).log2 : Int) + e := by omega
    unfold roX roE
    rw [hp, Nat.mul_assoc, ← Nat.pow_add]
    refine ⟨?_, by omega⟩
    congr 2
    omega
  rw [ex]
  generalize hc0 : sgN (fm k) n = c at *
  generalize hq0 : exN (fm k) n = q at *
  have hl := log_52 hz hc53
  have l1 := log_lo hz
  have l2 := log_hi c
  have hq1 : -1074 ≤ q := by have := hqm.1; split at this <;> omega
  have hL : -1074 ≤ q ∧ q ≤ 971 := ⟨hq1, hqm.2.1⟩
  have hp0 : okP c q := ⟨hz, hc53, hq1, by omega⟩
  refine wX13_root hW (fun {G} hc => ?_)
  rw [k_1]
  refine root_up hc hW hL (fun e E o1 hp a1 he => ?_) _ q 0 _ (Nat.le_refl _) hp0 (by omega)
  refine root_dn hc hW hL (fun e E o1 hp a1 a2 he => ?_) _ e E o1 (Nat.le_refl _) a1 hp he
  obtain ⟨x1, x2⟩ := hX e a1 a2 ⟨E, he⟩
  obtain ⟨X, hXd⟩ : ∃ X, X = c * 2 ^ (52 + e).toNat := ⟨_, rfl⟩
  have b1 : 2 ^ 52 ≤ X := by
    rw [hXd]
    calc 2 ^ 52 ≤ 2 ^ (c.log2 + (52 + e).toNat) := pow2_le (by omega)
      _ = 2 ^ c.log2 * 2 ^ (52 + e).toNat := Nat.pow_add ..
      _ ≤ _ := Nat.mul_le_mul_right _ l1
  have b2 : X < 2 ^ 54 := by
    rw [hXd]
    calc c * 2 ^ (52 + e).toNat < 2 ^ (c.log2 + 1) * 2 ^ (52 + e).toNat := Nat.mul_lt_mul_of_pos_right l2 (Nat.two_pow_pos _)
      _ = 2 ^ (c.log2 + 1 + (52 + e).toNat) := (Nat.pow_add ..).symm
      _ ≤ 2 ^ 54 := pow2_le (by omega)
  rw [mul_p1 hp (by decide), show e + 52 = 52 + e by omega]
  have hp' : okP c (52 + e) := ⟨hz, hc53, by omega, by omega⟩
  rw [d2l_p hp' (by omega) (by rw [← hXd]; omega), ← hXd]
  refine ⟨vf_p, ?_⟩
  have hE5 : (if k = 5 then (-126 : Int) else -1022) ≤ E := by
    have := hqm.1
    by_cases z : k = 5
    · rw [if_pos z] at this ⊢; omega
    · rw [if_neg z] at this ⊢; omega
  have hY : k = 5 → ∃ Y, X = Y * 2 ^ 29 := fun z => by
    have := hqm.2.2 z
    refine ⟨c * 2 ^ (23 + e).toNat, ?_⟩
    rw [hXd, Nat.mul_assoc, ← Nat.pow_add]
    congr 2
    omega
  have hEE : (roE k n).tdiv 2 = E - 26 := by
    rw [x2, show q - e - 52 = 2 * (E - 26) by omega]
    exact Int.mul_tdiv_cancel_left _ (by decide)
  refine root_dig hc hW b2 (fun r w hrw => ?_) 54 (Nat.le_refl _) 0 0 _ _ (by rw [Nat.div_eq_of_lt (by have : X * 4 ^ 27 < 2 ^ 54 * 4 ^ 27 := Nat.mul_lt_mul_of_pos_right b2 (by decide)
                                                                                                       exact this)]; exact isR_0)
  obtain ⟨g1, g2, g3⟩ := roo_is hr h0 hn (x1.trans hXd.symm) hEE b1 b2 hY hE5 hrw
  obtain ⟨v1, v2, v3⟩ := fin_val g2 g3 (E := E) ⟨by omega, by omega⟩
  rw [v1]
  exact ⟨v2, vf_p, h _ _ g1 v3⟩
theorem c_alone16 {k : Int32} {w b : Int64} {x : UInt64} {M : Mem} {K : RT} (hW : Wf M) (hr : isRk k) (hb : okJ k b) (hv : VR k w x b) (h : mkC M K k (if (0 : Int64) ≤ f_X3_value k b then (0, rooJ k b) else (6, 0))) : sp_X13_alone [.ref 605, .int 16, .int k, .long w, .double x] M K := by
  have hk : isK k := Or.inr (Or.inr (Or.inr (Or.inr (Or.inr hr))))
  obtain ⟨s, n, hn, rfl⟩ := fin_bk (hb.1 hr)
  have hn' := Nat.le_of_lt hn
  have hl63 := lt63 hr hn'
  have hval : (0 : Int64) ≤ f_X3_value k (bk k s n) ↔ (s = true → n = 0) := by
    rw [val_bk hr hn', Int64.le_iff_toInt_le, lI_toInt (by cases s <;> simp <;> omega) (by cases s <;> simp <;> omega)]
    show (0 : Int) ≤ _ ↔ _
    cases s
    · exact ⟨fun _ z => absurd z (by decide), fun _ => by simp⟩
    · simp only [if_true, forall_const]; omega
  rw [hv.r hr]
  refine wX13_alone hW (fun {G} hc => ⟨fun _ => ⟨fun z => absurd rfl z, fun _ => ?_⟩, fun r => absurd ((isReal_P hk).mpr hr) r⟩)
  rw [x_ge0 hr hn]
  refine ⟨fun p => ?_, fun p => ?_⟩
  · rw [if_pos (hval.mpr p)] at h
    have hh := h.ok rfl
    rw [x_z hr hn]
    refine ⟨fun nz => ?_, fun z => ?_⟩
    · have es : s = false := by
        cases s with
        | false => rfl
        | true => exact absurd (p rfl) nz
      subst es
      refine c_root13 hr (by omega) hn hW (fun Q E e1 e2 => rX13_alone_63_2 hc hW ?_)
      rw [e1] at hh
      have hf : finJ k (rooJ k (bk k false n)) := rooJ_fin hr (hb.1 hr)
      rw [e1] at hf
      have hlt : pm (fm k) Q (E - 52) < iN k := by
        have := hf.1
        rw [nOf_bk hr pm_le] at this
        exact this
      have key : f_X13_near k (pX Q (E - 52)) = xO k (bk k false (pm (fm k) Q (E - 52))) ∧ q_X13_near k (pX Q (E - 52)) := by
        rw [xO_bk hr pm_le]
        unfold f_X13_near q_X13_near
        rcases hr with rfl | rfl
        · have e : FP.d2f (pX Q (E - 52)) = X5 false (pm (fm 5) Q (E - 52)) := by
            show FP.d2f (X6 false (pm (fm 6) Q (E - 52))) = _
            rw [d2f_X pm_le, e2]
          rw [if_pos rfl, e, f2d_X pm_le, w65]
          exact ⟨rfl, fun _ => ⟨vf5 pm_le, vf6 (wid_le pm_le).1⟩⟩
        · rw [if_neg (by decide), w66]
          exact ⟨rfl, fun z => absurd z (by decide)⟩
      obtain ⟨e, q⟩ := key
      refine ⟨q, ?_⟩
      rw [e]
      exact gv_R hW hr pm_le (by rw [infJ_nf hr hlt]; exact hh)
    · have er : rooJ k (bk k s n) = bk k s n := by
        unfold rooJ
        rw [nOf_bk hr hn', if_pos z]
      rw [er] at hh
      exact gv_R hW hr hn' (by rw [infJ_nf hr hn]; exact hh)
  · rw [if_neg (fun z => p (hval.mp z))] at h
    exact h _ hW FrC.rf (fun y => absurd y (by decide))
end ROOT16
