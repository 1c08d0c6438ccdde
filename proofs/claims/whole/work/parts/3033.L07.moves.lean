section MOVES
set_option maxRecDepth 100000 in
theorem eX2_isInMask {G : Nat → KT} {K : RT} (hc : cloX2_isInMask G K wT) {x1 : Int32} {M : Mem} (hW : Wf M) (h : (vp_in (gI M 404 6) 4) ∧ (((((gI M 408 (gI M 404 6).toNatClampNeg) >>> (x1 &&& 31)) &&& (1 : Int32)) = 0 → K (some (.int (0 : Int32))) M) ∧ (¬ (((gI M 408 (gI M 404 6).toNatClampNeg) >>> (x1 &&& 31)) &&& (1 : Int32)) = 0 → K (some (.int (1 : Int32))) M))) : G 0 [some (.ref 404), some (.int x1)] [] M :=
  (hc.1 _ _ _ (i_aload rfl (i_getR (okS hW Sk_404) (nv_404_0 hW) (i_getR (okS hW Sk_405) (nv_405_2 hW) (i_aload rfl (i_getI (okS hW Sk_404) (i_iald hW Ss_408 h.1 (i_iload rfl (i_ishr (i_ic (i_iand (i_if_eq (fun q802 => (hc.2.2.1 _ _ _ (i_ic (hc.2.2.2 _ _ _ (i_zret (by decide) hW.1 (h.2.1 q802)))))) (fun q802 => (hc.2.1 _ _ _ (i_ic (hc.2.2.2 _ _ _ (i_zret (by decide) hW.1 (h.2.2 q802))))))))))))))))))
theorem wX2_isInMask {x1 : Int32} {M : Mem} {K : RT} (hW : Wf M) (h : (vp_in (gI M 404 6) 4) ∧ (((((gI M 408 (gI M 404 6).toNatClampNeg) >>> (x1 &&& 31)) &&& (1 : Int32)) = 0 → K (some (.int (0 : Int32))) M) ∧ (¬ (((gI M 408 (gI M 404 6).toNatClampNeg) >>> (x1 &&& 31)) &&& (1 : Int32)) = 0 → K (some (.int (1 : Int32))) M))) : sp_X2_isInMask [.ref 404, .int x1] M K := by
  refine ⟨Nat.le_of_ble_eq_true rfl, fun G hc => ?_⟩
  rw [hW.1] at hc
  exact eX2_isInMask hc hW  h
def P_X2_isInMask (x1 : Int32) (M : Mem) : Prop := (¬ (((gI M 408 (gI M 404 6).toNatClampNeg) >>> (x1 &&& 31)) &&& (1 : Int32)) = 0)
def q_X2_isInMask (x1 : Int32) (M : Mem) : Prop := (vp_in (gI M 404 6) 4)
theorem c_X2_isInMask {x1 : Int32} {M : Mem} {K : RT} (hW : Wf M) (hp : q_X2_isInMask x1 M) (h : K (some (.int (pI (P_X2_isInMask x1 M)))) M) : sp_X2_isInMask [.ref 404, .int x1] M K := by
  refine wX2_isInMask hW  ?_
  unfold P_X2_isInMask at h
  unfold q_X2_isInMask at hp
  refine ⟨hp, ?_⟩
  refine ⟨fun q0 => ?_, fun q0 => ?_⟩
  · skip
    exact pI_goF h (by simp only [eq_true q0, not_true_eq_false, not_false_eq_true, true_and, false_and, and_true, and_false, true_or, or_true, false_or, or_false, iff_self])
  · skip
    exact pI_goT h (by simp only [eq_false q0, not_true_eq_false, not_false_eq_true, true_and, false_and, and_true, and_false, true_or, or_true, false_or, or_false, iff_self])
set_option maxRecDepth 100000 in
theorem eX2_select {G : Nat → KT} {K : RT} (hc : cloX2_select G K wT) {M : Mem} (hW : Wf M) (h : G 2 [some (.ref 404), some (.int (0 : Int32))] [] M) : G 0 [some (.ref 404), none] [] M :=
  (hc.1 _ _ _ (i_ic (i_istore (Nat.le_of_ble_eq_true rfl) h)))
set_option maxRecDepth 100000 in
theorem eX2_select_2 {G : Nat → KT} {K : RT} (hc : cloX2_select G K wT) {x1 : Int32} {M : Mem} (hW : Wf M) (h : ((gI M (rR M 443 0) 1) ≤ x1 → K none (uI M 404 3 (gI M (rR M 443 0) 1))) ∧ (¬ (gI M (rR M 443 0) 1) ≤ x1 → ((q_X2_isInMask x1 M) ∧ ((¬ (P_X2_isInMask x1 M) → ((vp_in x1 32) ∧ ((vp_in x1 64) ∧ G 2 [some (.ref 404), some (.int (x1 + (1 : Int32)))] [] (uL M ((rR M 443 0) + 1) (x1).toNatClampNeg (gL M 445 (x1).toNatClampNeg))))) ∧ ((P_X2_isInMask x1 M) → ((vp_in x1 32) ∧ ((vp_in x1 64) ∧ G 2 [some (.ref 404), some (.int (x1 + (1 : Int32)))] [] (uL M ((rR M 443 0) + 1) (x1).toNatClampNeg (gL M 444 (x1).toNatClampNeg))))))))) : G 2 [some (.ref 404), some (.int x1)] [] M :=
  (hc.2.1 _ _ _ (i_iload rfl (i_aload rfl (i_getR (okS hW Sk_404) (nv_404_4 hW) (i_ic (i_aald hW Ss_443 (vpd rfl) (Wf.mut (M := M) hW (mx_rows (by decide))) (i_getI (okS hW (Wf.mutS (M := M) hW (mx_rows (by decide)))) (i_icmp_ge (fun q805 => (hc.2.2.2.2.2.2 _ _ _ (i_aload rfl (i_aload rfl (i_getR (okS hW Sk_404) (nv_404_4 hW) (i_ic (i_aald hW Ss_443 (vpd rfl) (Wf.mut (M := M) hW (mx_rows (by decide))) (i_getI (okS hW (Wf.mutS (M := M) hW (mx_rows (by decide)))) (i_putI (okS hW Sk_404) (i_vret hW.1 (h.1 q805))))))))))) (fun q805 => (hc.2.2.1 _ _ _ (i_aload rfl (i_getR (okS hW Sk_404) (nv_404_4 hW) (i_ic (i_aald hW Ss_443 (vpd rfl) (Wf.mut (M := M) hW (mx_rows (by decide))) (i_getR (okS hW (Wf.mutS (M := M) hW (mx_rows (by decide)))) (nvRow hW (Wf.mutS (M := M) hW (mx_rows (by decide)))) (i_iload rfl (i_aload rfl (i_iload rfl (i_callV2 (Nat.le_of_ble_eq_true rfl) (okS hW Sk_404) (c_X2_isInMask hW  (h.2 q805).1 (i_rI (i_bI_eq (fun q806 => (hc.2.2.2.2.1 _ _ _ (i_aload rfl (i_getR (okS hW Sk_404) (nv_404_11 hW) (i_iload rfl (i_lald hW Ss_445 ((h.2 q805).2.1 q806).1 (hc.2.2.2.2.2.1 _ _ _ (i_last hW (Srow (Wf.mutS (M := M) hW (mx_rows (by decide)))) ((h.2 q805).2.1 q806).2.1 (i_iinc rfl ((h.2 q805).2.1 q806).2.2))))))))) (fun q806 => (hc.2.2.2.1 _ _ _ (i_aload rfl (i_getR (okS hW Sk_404) (nv_404_10 hW) (i_iload rfl (i_lald hW Ss_444 ((h.2 q805).2.2 q806).1 (hc.2.2.2.2.2.1 _ _ _ (i_last hW (Srow (Wf.mutS (M := M) hW (mx_rows (by decide)))) ((h.2 q805).2.2 q806).2.1 (i_iinc rfl ((h.2 q805).2.2 q806).2.2)))))))))))))))))))))))))))))))
theorem wX2_select {M : Mem} {K : RT} (hW : Wf M) (h : ∀ {G : Nat → KT}, cloX2_select G K wT → G 2 [some (.ref 404), some (.int (0 : Int32))] [] M) : sp_X2_select [.ref 404] M K := by
  refine ⟨Nat.le_of_ble_eq_true rfl, fun G hc => ?_⟩
  rw [hW.1] at hc
  exact eX2_select hc hW  (h hc)
set_option maxRecDepth 100000 in
theorem eX2_pack {G : Nat → KT} {K : RT} (hc : cloX2_pack G K wT) {M : Mem} (hW : Wf M) (h : G 2 [some (.ref 404), some (.int (0 : Int32))] [] M) : G 0 [some (.ref 404), none] [] M :=
  (hc.1 _ _ _ (i_ic (i_istore (Nat.le_of_ble_eq_true rfl) h)))
set_option maxRecDepth 100000 in
theorem eX2_pack_2 {G : Nat → KT} {K : RT} (hc : cloX2_pack G K wT) {x1 : Int32} {M : Mem} (hW : Wf M) (h : ((gI M (rR M 443 0) 1) ≤ x1 → K none M) ∧ (¬ (gI M (rR M 443 0) 1) ≤ x1 → ((q_X2_isInMask x1 M) ∧ ((¬ (P_X2_isInMask x1 M) → G 2 [some (.ref 404), some (.int (x1 + (1 : Int32)))] [] M) ∧ ((P_X2_isInMask x1 M) → ((vp_in x1 32) ∧ ((vp_in (gI M 404 3) 64) ∧ G 2 [some (.ref 404), some (.int (x1 + (1 : Int32)))] [] (uI (uL M ((rR M 443 0) + 1) (gI M 404 3).toNatClampNeg (gL M 444 (x1).toNatClampNeg)) 404 3 ((gI M 404 3) + (1 : Int32)))))))))) : G 2 [some (.ref 404), some (.int x1)] [] M :=
  (hc.2.1 _ _ _ (i_iload rfl (i_aload rfl (i_getR (okS hW Sk_404) (nv_404_4 hW) (i_ic (i_aald hW Ss_443 (vpd rfl) (Wf.mut (M := M) hW (mx_rows (by decide))) (i_getI (okS hW (Wf.mutS (M := M) hW (mx_rows (by decide)))) (i_icmp_ge (fun q815 => (hc.2.2.2.2.2 _ _ _ (i_vret hW.1 (h.1 q815)))) (fun q815 => (hc.2.2.1 _ _ _ (i_aload rfl (i_iload rfl (i_callV2 (Nat.le_of_ble_eq_true rfl) (okS hW Sk_404) (c_X2_isInMask hW  (h.2 q815).1 (i_rI (i_bI_eq (fun q816 => (hc.2.2.2.2.1 _ _ _ (i_iinc rfl ((h.2 q815).2.1 q816)))) (fun q816 => (hc.2.2.2.1 _ _ _ (i_aload rfl (i_getR (okS hW Sk_404) (nv_404_4 hW) (i_ic (i_aald hW Ss_443 (vpd rfl) (Wf.mut (M := M) hW (mx_rows (by decide))) (i_getR (okS hW (Wf.mutS (M := M) hW (mx_rows (by decide)))) (nvRow hW (Wf.mutS (M := M) hW (mx_rows (by decide)))) (i_aload rfl (i_getI (okS hW Sk_404) (i_aload rfl (i_getR (okS hW Sk_404) (nv_404_10 hW) (i_iload rfl (i_lald hW Ss_444 ((h.2 q815).2.2 q816).1 (i_last hW (Srow (Wf.mutS (M := M) hW (mx_rows (by decide)))) ((h.2 q815).2.2 q816).2.1 (i_aload rfl (i_dup rfl (i_getI (okS hW Sk_404) (i_ic (i_iadd (i_putI (okS hW Sk_404) (hc.2.2.2.2.1 _ _ _ (i_iinc rfl ((h.2 q815).2.2 q816).2.2))))))))))))))))))))))))))))))))))))))
theorem wX2_pack {M : Mem} {K : RT} (hW : Wf M) (h : ∀ {G : Nat → KT}, cloX2_pack G K wT → G 2 [some (.ref 404), some (.int (0 : Int32))] [] M) : sp_X2_pack [.ref 404] M K := by
  refine ⟨Nat.le_of_ble_eq_true rfl, fun G hc => ?_⟩
  rw [hW.1] at hc
  exact eX2_pack hc hW  (h hc)
set_option maxRecDepth 100000 in
theorem eX2_spread {G : Nat → KT} {K : RT} (hc : cloX2_spread G K wT) {M : Mem} (hW : Wf M) (h : G 2 [some (.ref 404), some (.int (0 : Int32))] [] M) : G 0 [some (.ref 404), none] [] M :=
  (hc.1 _ _ _ (i_ic (i_istore (Nat.le_of_ble_eq_true rfl) h)))
set_option maxRecDepth 100000 in
theorem eX2_spread_2 {G : Nat → KT} {K : RT} (hc : cloX2_spread G K wT) {x1 : Int32} {M : Mem} (hW : Wf M) (h : ((gI M (rR M 443 0) 1) ≤ x1 → K none M) ∧ (¬ (gI M (rR M 443 0) 1) ≤ x1 → ((q_X2_isInMask x1 M) ∧ ((¬ (P_X2_isInMask x1 M) → G 2 [some (.ref 404), some (.int (x1 + (1 : Int32)))] [] M) ∧ ((P_X2_isInMask x1 M) → ((vp_in (gI M 404 3) 32) ∧ ((vp_in x1 64) ∧ G 2 [some (.ref 404), some (.int (x1 + (1 : Int32)))] [] (uI (uL M ((rR M 443 0) + 1) (x1).toNatClampNeg (gL M 444 (gI M 404 3).toNatClampNeg)) 404 3 ((gI M 404 3) + (1 : Int32)))))))))) : G 2 [some (.ref 404), some (.int x1)] [] M :=
  (hc.2.1 _ _ _ (i_iload rfl (i_aload rfl (i_getR (okS hW Sk_404) (nv_404_4 hW) (i_ic (i_aald hW Ss_443 (vpd rfl) (Wf.mut (M := M) hW (mx_rows (by decide))) (i_getI (okS hW (Wf.mutS (M := M) hW (mx_rows (by decide)))) (i_icmp_ge (fun q819 => (hc.2.2.2.2.2 _ _ _ (i_vret hW.1 (h.1 q819)))) (fun q819 => (hc.2.2.1 _ _ _ (i_aload rfl (i_iload rfl (i_callV2 (Nat.le_of_ble_eq_true rfl) (okS hW Sk_404) (c_X2_isInMask hW  (h.2 q819).1 (i_rI (i_bI_eq (fun q820 => (hc.2.2.2.2.1 _ _ _ (i_iinc rfl ((h.2 q819).2.1 q820)))) (fun q820 => (hc.2.2.2.1 _ _ _ (i_aload rfl (i_getR (okS hW Sk_404) (nv_404_4 hW) (i_ic (i_aald hW Ss_443 (vpd rfl) (Wf.mut (M := M) hW (mx_rows (by decide))) (i_getR (okS hW (Wf.mutS (M := M) hW (mx_rows (by decide)))) (nvRow hW (Wf.mutS (M := M) hW (mx_rows (by decide)))) (i_iload rfl (i_aload rfl (i_getR (okS hW Sk_404) (nv_404_10 hW) (i_aload rfl (i_getI (okS hW Sk_404) (i_lald hW Ss_444 ((h.2 q819).2.2 q820).1 (i_last hW (Srow (Wf.mutS (M := M) hW (mx_rows (by decide)))) ((h.2 q819).2.2 q820).2.1 (i_aload rfl (i_dup rfl (i_getI (okS hW Sk_404) (i_ic (i_iadd (i_putI (okS hW Sk_404) (hc.2.2.2.2.1 _ _ _ (i_iinc rfl ((h.2 q819).2.2 q820).2.2))))))))))))))))))))))))))))))))))))))
theorem wX2_spread {M : Mem} {K : RT} (hW : Wf M) (h : ∀ {G : Nat → KT}, cloX2_spread G K wT → G 2 [some (.ref 404), some (.int (0 : Int32))] [] M) : sp_X2_spread [.ref 404] M K := by
  refine ⟨Nat.le_of_ble_eq_true rfl, fun G hc => ?_⟩
  rw [hW.1] at hc
  exact eX2_spread hc hW  (h hc)
/-- the mask that an instruction names -/
def MkIs (M : Mem) (mw : Int32) : Prop := ∃ q, q < 4 ∧ gI M 404 6 = nI q ∧ gI M 408 q = mw
theorem MkIs.q {M : Mem} {mw x : Int32} (h : MkIs M mw) : q_X2_isInMask x M := by
  obtain ⟨q, q1, q2, q3⟩ := h
  unfold q_X2_isInMask
  rw [q2]; exact vpN q1 (by decide)
theorem MkIs.P {M : Mem} {mw : Int32} {i : Nat} (h : MkIs M mw) : P_X2_isInMask (nI i) M ↔ onW mw i := by
  obtain ⟨q, q1, q2, q3⟩ := h
  unfold P_X2_isInMask onW
  rw [q2, nI_clamp (by omega), q3]
/-- what select, pack and spread look at -/
def LC (M : Mem) (r0 n : Nat) (X Y : Nat → Int64) (mw : Int32) : Prop := gR M 443 0 = some r0 ∧ (Sh r0).1 = 5 ∧ gI M r0 1 = nI n ∧ n ≤ 32 ∧ (∀ j, j < n → gL M 444 j = X j) ∧ (∀ j, j < n → gL M 445 j = Y j) ∧ MkIs M mw
theorem LC.wr {M : Mem} {r0 n i : Nat} {v : Int64} {X Y : Nat → Int64} {mw : Int32} (h0 : ¬ 444 = r0 + 1) (h1 : ¬ 445 = r0 + 1) (h : LC M r0 n X Y mw) : LC (uL M (r0 + 1) i v) r0 n X Y mw := by
  obtain ⟨a1, a2, a3, a4, a5, a6, a7⟩ := h
  refine ⟨a1, a2, a3, a4, fun j hj => ?_, fun j hj => ?_, a7⟩
  · rw [rL_a h0]; exact a5 j hj
  · rw [rL_a h1]; exact a6 j hj
theorem LC.w3 {M : Mem} {r0 n : Nat} {v : Int32} {X Y : Nat → Int64} {mw : Int32} (h0 : ¬ r0 = 404) (h : LC M r0 n X Y mw) : LC (uI M 404 3 v) r0 n X Y mw := by
  obtain ⟨a1, a2, a3, a4, a5, a6, q, q1, q2, q3⟩ := h
  refine ⟨a1, a2, ?_, a4, a5, a6, q, q1, ?_, ?_⟩
  · rw [rI_a h0]; exact a3
  · rw [rI_k (by decide)]; exact q2
  · rw [rI_a (by decide)]; exact q3
theorem rR_of {M : Mem} {a k r : Nat} (h : gR M a k = some r) : rR M a k = r := by unfold rR; rw [h]; rfl
theorem c_select {r0 n : Nat} {X Y : Nat → Int64} {mw : Int32} {M : Mem} {K : RT} (hW : Wf M) (hb : LC M r0 n X Y mw) (n1 : ¬ 444 = r0 + 1) (n2 : ¬ 445 = r0 + 1) (n5 : ¬ r0 = 404)
    (h : ∀ M', Wf M' → M4 (fun b => b = r0 + 1) M M' → gR M' = gR M → (∀ j, j < n → gL M' (r0 + 1) j = iT (onW mw j) (X j) (Y j)) → gI M' 404 2 = gI M 404 2 → gI M' 404 3 = nI n → gI M' 404 9 = gI M 404 9 → K none M') : sp_X2_select [.ref 404] M K := by
  refine ⟨Nat.le_of_ble_eq_true rfl, fun G hc => ?_⟩
  rw [hW.1] at hc
  have loop : ∀ j i M1, i + j = n → Wf M1 → LC M1 r0 n X Y mw → M4 (fun b => b = r0 + 1) M M1 → gR M1 = gR M → gI M1 = gI M → (∀ q, q < i → gL M1 (r0 + 1) q = iT (onW mw q) (X q) (Y q)) → G 2 [some (.ref 404), some (.int (nI i))] [] M1 := by
    intro j
    induction j with
    | zero =>
      intro i M1 hi hW1 hb1 hm1 hR1 hI1 hg
      have : i = n := by omega
      subst this
      refine eX2_select_2 hc hW1 ?_
      rw [rR_of hb1.1, hb1.2.2.1]
      refine ⟨fun _ => h _ (Wf_uI hW1) (hm1.tr (M4_uI (by decide))) hR1 hg ?_ rI_eq ?_, fun q => absurd (nI_le (Nat.le_refl _) (by have := hb.2.2.2.1; omega)) q⟩
      · rw [rI_k (by decide), hI1]
      · rw [rI_k (by decide), hI1]
    | succ j ih =>
      intro i M1 hi hW1 hb1 hm1 hR1 hI1 hg
      have hn := hb1.2.2.2.1
      refine eX2_select_2 hc hW1 ?_
      rw [rR_of hb1.1, hb1.2.2.1, nI_clamp (by omega), nI_1, hb1.2.2.2.2.2.2.P]
      refine ⟨fun q => absurd ((nI_leI (by omega) (by omega)).mp q) (by omega), fun _ => ⟨hb1.2.2.2.2.2.2.q, fun q => ⟨vpN (by omega) (by decide), vpN (by omega) (by decide), ?_⟩, fun q => ⟨vpN (by omega) (by decide), vpN (by omega) (by decide), ?_⟩⟩⟩
      · refine ih (i + 1) _ (by omega) (Wf_uL hW1) (hb1.wr n1 n2) (hm1.tr (M4_uL rfl)) hR1 hI1 (fun p hp => ?_)
        by_cases e : p = i
        · subst e; rw [rL_eq, iT_f q]; exact hb1.2.2.2.2.2.1 _ (by omega)
        · rw [rL_k e]; exact hg p (by omega)
      · refine ih (i + 1) _ (by omega) (Wf_uL hW1) (hb1.wr n1 n2) (hm1.tr (M4_uL rfl)) hR1 hI1 (fun p hp => ?_)
        by_cases e : p = i
        · subst e; rw [rL_eq, iT_t q]; exact hb1.2.2.2.2.1 _ (by omega)
        · rw [rL_k e]; exact hg p (by omega)
  exact eX2_select hc hW (loop n 0 M (by omega) hW hb M4.rf rfl rfl (fun q hq => absurd hq (by omega)))
/-- pack: how many went, the items -/
noncomputable def prun (X : Nat → Int64) (on : Nat → Prop) : Nat → Nat → Nat → (Nat → Int64) → Nat × (Nat → Int64)
  | 0, _, c, f => (c, f)
  | j + 1, i, c, f => iT (on i) (prun X on j (i + 1) (c + 1) (up1 f c (X i))) (prun X on j (i + 1) c f)
noncomputable def srun (X : Nat → Int64) (on : Nat → Prop) : Nat → Nat → Nat → (Nat → Int64) → Nat × (Nat → Int64)
  | 0, _, c, f => (c, f)
  | j + 1, i, c, f => iT (on i) (srun X on j (i + 1) (c + 1) (up1 f i (X c))) (srun X on j (i + 1) c f)
theorem c_pack {r0 n : Nat} {X Y f : Nat → Int64} {mw : Int32} {M : Mem} {K : RT} (hW : Wf M) (hb : LC M r0 n X Y mw) (n1 : ¬ 444 = r0 + 1) (n2 : ¬ 445 = r0 + 1) (n5 : ¬ r0 = 404) (hf : ∀ j, j < n → gL M (r0 + 1) j = f j) (h3 : gI M 404 3 = nI 0)
    (h : ∀ M', Wf M' → M4 (fun b => b = r0 + 1) M M' → gR M' = gR M → (∀ j, j < n → gL M' (r0 + 1) j = (prun X (onW mw) n 0 0 f).2 j) → gI M' 404 2 = gI M 404 2 → gI M' 404 3 = nI (prun X (onW mw) n 0 0 f).1 → gI M' 404 9 = gI M 404 9 → K none M') : sp_X2_pack [.ref 404] M K := by
  refine ⟨Nat.le_of_ble_eq_true rfl, fun G hc => ?_⟩
  rw [hW.1] at hc
  have loop : ∀ j i c g M1, i + j = n → c ≤ i → Wf M1 → LC M1 r0 n X Y mw → M4 (fun b => b = r0 + 1) M M1 → gR M1 = gR M → gI M1 404 2 = gI M 404 2 → gI M1 404 9 = gI M 404 9 → gI M1 404 3 = nI c → (∀ q, q < n → gL M1 (r0 + 1) q = g q) → prun X (onW mw) j i c g = prun X (onW mw) n 0 0 f → G 2 [some (.ref 404), some (.int (nI i))] [] M1 := by
    intro j
    induction j with
    | zero =>
      intro i c g M1 hi hci hW1 hb1 hm1 hR1 h21 h91 h31 hg hl
      have : i = n := by omega
      subst this
      have hl : (c, g) = prun X (onW mw) i 0 0 f := hl
      rw [← hl] at h
      refine eX2_pack_2 hc hW1 ?_
      rw [rR_of hb1.1, hb1.2.2.1]
      exact ⟨fun _ => h _ hW1 hm1 hR1 hg h21 h31 h91, fun q => absurd (nI_le (Nat.le_refl _) (by have := hb.2.2.2.1; omega)) q⟩
    | succ j ih =>
      intro i c g M1 hi hci hW1 hb1 hm1 hR1 h21 h91 h31 hg hl
      have hl : iT (onW mw i) (prun X (onW mw) j (i + 1) (c + 1) (up1 g c (X i))) (prun X (onW mw) j (i + 1) c g) = prun X (onW mw) n 0 0 f := hl
      have hn := hb1.2.2.2.1
      refine eX2_pack_2 hc hW1 ?_
      rw [rR_of hb1.1, hb1.2.2.1, nI_clamp (by omega), nI_1, hb1.2.2.2.2.2.2.P, h31, nI_clamp (by omega), nI_1]
      refine ⟨fun q => absurd ((nI_leI (by omega) (by omega)).mp q) (by omega), fun _ => ⟨hb1.2.2.2.2.2.2.q, fun q => ?_, fun q => ⟨vpN (by omega) (by decide), vpN (by omega) (by decide), ?_⟩⟩⟩
      · rw [iT_f q] at hl
        exact ih (i + 1) c g _ (by omega) (by omega) hW1 hb1 hm1 hR1 h21 h91 h31 hg hl
      · rw [iT_t q] at hl
        refine ih (i + 1) (c + 1) _ _ (by omega) (by omega) (Wf_uI (Wf_uL hW1)) ((hb1.wr n1 n2).w3 n5) ((hm1.tr (M4_uL rfl)).tr (M4_uI (by decide))) hR1 ?_ ?_ rI_eq (fun p hp => ?_) hl
        · rw [rI_k (by decide)]; exact h21
        · rw [rI_k (by decide)]; exact h91
        · show gL (uL M1 (r0 + 1) c _) (r0 + 1) p = _
          unfold up1
          by_cases e : p = c
          · subst e; rw [rL_eq, if_pos rfl]; exact hb1.2.2.2.2.1 _ (by omega)
          · rw [rL_k e, if_neg e]; exact hg p hp
  exact eX2_pack hc hW (loop n 0 0 f M (by omega) (by omega) hW hb M4.rf rfl rfl rfl h3 hf rfl)
theorem c_spread {r0 n : Nat} {X Y f : Nat → Int64} {mw : Int32} {M : Mem} {K : RT} (hW : Wf M) (hb : LC M r0 n X Y mw) (n1 : ¬ 444 = r0 + 1) (n2 : ¬ 445 = r0 + 1) (n5 : ¬ r0 = 404) (hf : ∀ j, j < n → gL M (r0 + 1) j = f j) (h3 : gI M 404 3 = nI 0)
    (h : ∀ M', Wf M' → M4 (fun b => b = r0 + 1) M M' → gR M' = gR M → (∀ j, j < n → gL M' (r0 + 1) j = (srun X (onW mw) n 0 0 f).2 j) → gI M' 404 2 = gI M 404 2 → gI M' 404 3 = nI (srun X (onW mw) n 0 0 f).1 → gI M' 404 9 = gI M 404 9 → K none M') : sp_X2_spread [.ref 404] M K := by
  refine ⟨Nat.le_of_ble_eq_true rfl, fun G hc => ?_⟩
  rw [hW.1] at hc
  have loop : ∀ j i c g M1, i + j = n → c ≤ i → Wf M1 → LC M1 r0 n X Y mw → M4 (fun b => b = r0 + 1) M M1 → gR M1 = gR M → gI M1 404 2 = gI M 404 2 → gI M1 404 9 = gI M 404 9 → gI M1 404 3 = nI c → (∀ q, q < n → gL M1 (r0 + 1) q = g q) → srun X (onW mw) j i c g = srun X (onW mw) n 0 0 f → G 2 [some (.ref 404), some (.int (nI i))] [] M1 := by
    intro j
    induction j with
    | zero =>
      intro i c g M1 hi hci hW1 hb1 hm1 hR1 h21 h91 h31 hg hl
      have : i = n := by omega
      subst this
      have hl : (c, g) = srun X (onW mw) i 0 0 f := hl
      rw [← hl] at h
      refine eX2_spread_2 hc hW1 ?_
      rw [rR_of hb1.1, hb1.2.2.1]
      exact ⟨fun _ => h _ hW1 hm1 hR1 hg h21 h31 h91, fun q => absurd (nI_le (Nat.le_refl _) (by have := hb.2.2.2.1; omega)) q⟩
    | succ j ih =>
      intro i c g M1 hi hci hW1 hb1 hm1 hR1 h21 h91 h31 hg hl
      have hl : iT (onW mw i) (srun X (onW mw) j (i + 1) (c + 1) (up1 g i (X c))) (srun X (onW mw) j (i + 1) c g) = srun X (onW mw) n 0 0 f := hl
      have hn := hb1.2.2.2.1
      refine eX2_spread_2 hc hW1 ?_
      rw [rR_of hb1.1, hb1.2.2.1, nI_clamp (by omega), nI_1, hb1.2.2.2.2.2.2.P, h31, nI_clamp (by omega), nI_1]
      refine ⟨fun q => absurd ((nI_leI (by omega) (by omega)).mp q) (by omega), fun _ => ⟨hb1.2.2.2.2.2.2.q, fun q => ?_, fun q => ⟨vpN (by omega) (by decide), vpN (by omega) (by decide), ?_⟩⟩⟩
      · rw [iT_f q] at hl
        exact ih (i + 1) c g _ (by omega) (by omega) hW1 hb1 hm1 hR1 h21 h91 h31 hg hl
      · rw [iT_t q] at hl
        refine ih (i + 1) (c + 1) _ _ (by omega) (by omega) (Wf_uI (Wf_uL hW1)) ((hb1.wr n1 n2).w3 n5) ((hm1.tr (M4_uL rfl)).tr (M4_uI (by decide))) hR1 ?_ ?_ rI_eq (fun p hp => ?_) hl
        · rw [rI_k (by decide)]; exact h21
        · rw [rI_k (by decide)]; exact h91
        · show gL (uL M1 (r0 + 1) i _) (r0 + 1) p = _
          unfold up1
          by_cases e : p = i
          · subst e; rw [rL_eq, if_pos rfl]; exact hb1.2.2.2.2.1 _ (by omega)
          · rw [rL_k e, if_neg e]; exact hg p hp
  exact eX2_spread hc hW (loop n 0 0 f M (by omega) (by omega) hW hb M4.rf rfl rfl rfl h3 hf rfl)
end MOVES
