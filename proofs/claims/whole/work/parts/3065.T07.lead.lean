section LEAD
set_option maxRecDepth 100000 in
theorem eX5_lead_59 {G : Nat → KT} {K : RT} (hc : cloX5_lead G K wT) {M : Mem} (hW : Wf M) (h : ∀ y1 : Int32, y1 = (((gL M 442 1).toInt32) &&& (7 : Int32)) → K (some (.int (0 : Int32))) (uI M 7 2 ((gL M 442 1).toInt32))) : G 0 [some (.ref 7), some (.ref 100059), none] [] M :=
  (hc.1 _ _ _ (i_aload rfl (i_getR (okS hW Sk_7) (nv_7_12 hW) (i_ic (i_lald hW Ss_442 (vpd rfl) (i_l2i (i_ic (i_iand (i_istore (Nat.le_of_ble_eq_true rfl) (i_gets (i_aload rfl (i_ord (isOp_lit (by decide)) (i_eqI (by decide +kernel : Int32.ofNat (100059 - 100000) = 59) (i_swldC (vpd rfl) (by decide +kernel : Int32.ofNat (swT.getD ((59 : Int32).toNatClampNeg) 0) = 5) (And.intro (fun _ => (hc.2.2.2.2.2.2.2.2.2.2.1 _ _ _ (i_aload rfl (i_aload rfl (i_getR (okS hW Sk_7) (nv_7_12 hW) (i_ic (i_lald hW Ss_442 (vpd rfl) (i_l2i (i_putI (okS hW Sk_7) (hc.2.2.2.2.2.2.2.2.2.2.2.2.2 _ _ _ (i_ic (i_iret hW.1 (h _ rfl))))))))))))) (fun q => absurd rfl q))))))))))))))))
theorem wX5_lead_59 {M : Mem} {K : RT} (hW : Wf M) (h : ∀ y1 : Int32, y1 = (((gL M 442 1).toInt32) &&& (7 : Int32)) → K (some (.int (0 : Int32))) (uI M 7 2 ((gL M 442 1).toInt32))) : sp_X5_lead [.ref 7, .ref 100059] M K := by
  refine ⟨Nat.le_of_ble_eq_true rfl, fun G hc => ?_⟩
  rw [hW.1] at hc
  exact eX5_lead_59 hc hW  h
set_option maxRecDepth 100000 in
theorem eX5_lead_60 {G : Nat → KT} {K : RT} (hc : cloX5_lead G K wT) {M : Mem} (hW : Wf M) (h : ∀ y1 : Int32, y1 = (((gL M 442 1).toInt32) &&& (7 : Int32)) → (vp_in y1 8) ∧ ((vp_in (((gL M 442 2).toInt32) &&& (7 : Int32)) 8) ∧ ((¬ (P_X5_isSo 100060 (gL M 409 (y1).toNatClampNeg) (gL M 409 (((gL M 442 2).toInt32) &&& (7 : Int32)).toNatClampNeg)) → K (some (.int (0 : Int32))) M) ∧ ((P_X5_isSo 100060 (gL M 409 (y1).toNatClampNeg) (gL M 409 (((gL M 442 2).toInt32) &&& (7 : Int32)).toNatClampNeg)) → K (some (.int (0 : Int32))) (uI M 7 2 ((gL M 442 3).toInt32)))))) : G 0 [some (.ref 7), some (.ref 100060), none] [] M :=
  (hc.1 _ _ _ (i_aload rfl (i_getR (okS hW Sk_7) (nv_7_12 hW) (i_ic (i_lald hW Ss_442 (vpd rfl) (i_l2i (i_ic (i_iand (i_istore (Nat.le_of_ble_eq_true rfl) (i_gets (i_aload rfl (i_ord (isOp_lit (by decide)) (i_eqI (by decide +kernel : Int32.ofNat (100060 - 100000) = 60) (i_swldC (vpd rfl) (by decide +kernel : Int32.ofNat (swT.getD ((60 : Int32).toNatClampNeg) 0) = 7) (And.intro (fun q => absurd q (by decide)) (fun _ => (And.intro (fun q => absurd q (by decide)) (fun _ => (And.intro (fun _ => (hc.2.2.2.2.2.2.2.2.2.2.2.1 _ _ _ (i_aload rfl (i_aload rfl (i_getR (okS hW Sk_7) (nv_7_14 hW) (i_iload rfl (i_lald hW Ss_409 (h _ rfl).1 (i_aload rfl (i_getR (okS hW Sk_7) (nv_7_14 hW) (i_aload rfl (i_getR (okS hW Sk_7) (nv_7_12 hW) (i_ic (i_lald hW Ss_442 (vpd rfl) (i_l2i (i_ic (i_iand (i_lald hW Ss_409 (h _ rfl).2.1 (i_callS3 (Nat.le_of_ble_eq_true rfl) (c_X5_isSo hW (isOp_lit (by decide)) (i_rI (i_bI_eq (fun q2566 => (hc.2.2.2.2.2.2.2.2.2.2.2.2.2 _ _ _ (i_ic (i_iret hW.1 ((h _ rfl).2.2.1 q2566))))) (fun q2566 => (hc.2.2.2.2.2.2.2.2.2.2.2.2.1 _ _ _ (i_aload rfl (i_aload rfl (i_getR (okS hW Sk_7) (nv_7_12 hW) (i_ic (i_lald hW Ss_442 (vpd rfl) (i_l2i (i_putI (okS hW Sk_7) (hc.2.2.2.2.2.2.2.2.2.2.2.2.2 _ _ _ (i_ic (i_iret hW.1 ((h _ rfl).2.2.2 q2566)))))))))))))))))))))))))))))))))) (fun q => absurd rfl q))))))))))))))))))))
theorem wX5_lead_60 {M : Mem} {K : RT} (hW : Wf M) (h : ∀ y1 : Int32, y1 = (((gL M 442 1).toInt32) &&& (7 : Int32)) → (vp_in y1 8) ∧ ((vp_in (((gL M 442 2).toInt32) &&& (7 : Int32)) 8) ∧ ((¬ (P_X5_isSo 100060 (gL M 409 (y1).toNatClampNeg) (gL M 409 (((gL M 442 2).toInt32) &&& (7 : Int32)).toNatClampNeg)) → K (some (.int (0 : Int32))) M) ∧ ((P_X5_isSo 100060 (gL M 409 (y1).toNatClampNeg) (gL M 409 (((gL M 442 2).toInt32) &&& (7 : Int32)).toNatClampNeg)) → K (some (.int (0 : Int32))) (uI M 7 2 ((gL M 442 3).toInt32)))))) : sp_X5_lead [.ref 7, .ref 100060] M K := by
  refine ⟨Nat.le_of_ble_eq_true rfl, fun G hc => ?_⟩
  rw [hW.1] at hc
  exact eX5_lead_60 hc hW  h
set_option maxRecDepth 100000 in
theorem eX5_lead_61 {G : Nat → KT} {K : RT} (hc : cloX5_lead G K wT) {M : Mem} (hW : Wf M) (h : ∀ y1 : Int32, y1 = (((gL M 442 1).toInt32) &&& (7 : Int32)) → (vp_in y1 8) ∧ ((vp_in (((gL M 442 2).toInt32) &&& (7 : Int32)) 8) ∧ ((¬ (P_X5_isSo 100061 (gL M 409 (y1).toNatClampNeg) (gL M 409 (((gL M 442 2).toInt32) &&& (7 : Int32)).toNatClampNeg)) → K (some (.int (0 : Int32))) M) ∧ ((P_X5_isSo 100061 (gL M 409 (y1).toNatClampNeg) (gL M 409 (((gL M 442 2).toInt32) &&& (7 : Int32)).toNatClampNeg)) → K (some (.int (0 : Int32))) (uI M 7 2 ((gL M 442 3).toInt32)))))) : G 0 [some (.ref 7), some (.ref 100061), none] [] M :=
  (hc.1 _ _ _ (i_aload rfl (i_getR (okS hW Sk_7) (nv_7_12 hW) (i_ic (i_lald hW Ss_442 (vpd rfl) (i_l2i (i_ic (i_iand (i_istore (Nat.le_of_ble_eq_true rfl) (i_gets (i_aload rfl (i_ord (isOp_lit (by decide)) (i_eqI (by decide +kernel : Int32.ofNat (100061 - 100000) = 61) (i_swldC (vpd rfl) (by decide +kernel : Int32.ofNat (swT.getD ((61 : Int32).toNatClampNeg) 0) = 8) (And.intro (fun q => absurd q (by decide)) (fun _ => (And.intro (fun q => absurd q (by decide)) (fun _ => (And.intro (fun q => absurd q (by decide)) (fun _ => (And.intro (fun _ => (hc.2.2.2.2.2.2.2.2.2.2.2.1 _ _ _ (i_aload rfl (i_aload rfl (i_getR (okS hW Sk_7) (nv_7_14 hW) (i_iload rfl (i_lald hW Ss_409 (h _ rfl).1 (i_aload rfl (i_getR (okS hW Sk_7) (nv_7_14 hW) (i_aload rfl (i_getR (okS hW Sk_7) (nv_7_12 hW) (i_ic (i_lald hW Ss_442 (vpd rfl) (i_l2i (i_ic (i_iand (i_lald hW Ss_409 (h _ rfl).2.1 (i_callS3 (Nat.le_of_ble_eq_true rfl) (c_X5_isSo hW (isOp_lit (by decide)) (i_rI (i_bI_eq (fun q2568 => (hc.2.2.2.2.2.2.2.2.2.2.2.2.2 _ _ _ (i_ic (i_iret hW.1 ((h _ rfl).2.2.1 q2568))))) (fun q2568 => (hc.2.2.2.2.2.2.2.2.2.2.2.2.1 _ _ _ (i_aload rfl (i_aload rfl (i_getR (okS hW Sk_7) (nv_7_12 hW) (i_ic (i_lald hW Ss_442 (vpd rfl) (i_l2i (i_putI (okS hW Sk_7) (hc.2.2.2.2.2.2.2.2.2.2.2.2.2 _ _ _ (i_ic (i_iret hW.1 ((h _ rfl).2.2.2 q2568)))))))))))))))))))))))))))))))))) (fun q => absurd rfl q))))))))))))))))))))))
theorem wX5_lead_61 {M : Mem} {K : RT} (hW : Wf M) (h : ∀ y1 : Int32, y1 = (((gL M 442 1).toInt32) &&& (7 : Int32)) → (vp_in y1 8) ∧ ((vp_in (((gL M 442 2).toInt32) &&& (7 : Int32)) 8) ∧ ((¬ (P_X5_isSo 100061 (gL M 409 (y1).toNatClampNeg) (gL M 409 (((gL M 442 2).toInt32) &&& (7 : Int32)).toNatClampNeg)) → K (some (.int (0 : Int32))) M) ∧ ((P_X5_isSo 100061 (gL M 409 (y1).toNatClampNeg) (gL M 409 (((gL M 442 2).toInt32) &&& (7 : Int32)).toNatClampNeg)) → K (some (.int (0 : Int32))) (uI M 7 2 ((gL M 442 3).toInt32)))))) : sp_X5_lead [.ref 7, .ref 100061] M K := by
  refine ⟨Nat.le_of_ble_eq_true rfl, fun G hc => ?_⟩
  rw [hW.1] at hc
  exact eX5_lead_61 hc hW  h
set_option maxRecDepth 100000 in
theorem eX5_lead_62 {G : Nat → KT} {K : RT} (hc : cloX5_lead G K wT) {M : Mem} (hW : Wf M) (h : ∀ y1 : Int32, y1 = (((gL M 442 1).toInt32) &&& (7 : Int32)) → (vp_in y1 8) ∧ ((vp_in (((gL M 442 2).toInt32) &&& (7 : Int32)) 8) ∧ ((¬ (P_X5_isSo 100062 (gL M 409 (y1).toNatClampNeg) (gL M 409 (((gL M 442 2).toInt32) &&& (7 : Int32)).toNatClampNeg)) → K (some (.int (0 : Int32))) M) ∧ ((P_X5_isSo 100062 (gL M 409 (y1).toNatClampNeg) (gL M 409 (((gL M 442 2).toInt32) &&& (7 : Int32)).toNatClampNeg)) → K (some (.int (0 : Int32))) (uI M 7 2 ((gL M 442 3).toInt32)))))) : G 0 [some (.ref 7), some (.ref 100062), none] [] M :=
  (hc.1 _ _ _ (i_aload rfl (i_getR (okS hW Sk_7) (nv_7_12 hW) (i_ic (i_lald hW Ss_442 (vpd rfl) (i_l2i (i_ic (i_iand (i_istore (Nat.le_of_ble_eq_true rfl) (i_gets (i_aload rfl (i_ord (isOp_lit (by decide)) (i_eqI (by decide +kernel : Int32.ofNat (100062 - 100000) = 62) (i_swldC (vpd rfl) (by decide +kernel : Int32.ofNat (swT.getD ((62 : Int32).toNatClampNeg) 0) = 9) (And.intro (fun q => absurd q (by decide)) (fun _ => (And.intro (fun q => absurd q (by decide)) (fun _ => (And.intro (fun q => absurd q (by decide)) (fun _ => (And.intro (fun q => absurd q (by decide)) (fun _ => (And.intro (fun _ => (hc.2.2.2.2.2.2.2.2.2.2.2.1 _ _ _ (i_aload rfl (i_aload rfl (i_getR (okS hW Sk_7) (nv_7_14 hW) (i_iload rfl (i_lald hW Ss_409 (h _ rfl).1 (i_aload rfl (i_getR (okS hW Sk_7) (nv_7_14 hW) (i_aload rfl (i_getR (okS hW Sk_7) (nv_7_12 hW) (i_ic (i_lald hW Ss_442 (vpd rfl) (i_l2i (i_ic (i_iand (i_lald hW Ss_409 (h _ rfl).2.1 (i_callS3 (Nat.le_of_ble_eq_true rfl) (c_X5_isSo hW (isOp_lit (by decide)) (i_rI (i_bI_eq (fun q2570 => (hc.2.2.2.2.2.2.2.2.2.2.2.2.2 _ _ _ (i_ic (i_iret hW.1 ((h _ rfl).2.2.1 q2570))))) (fun q2570 => (hc.2.2.2.2.2.2.2.2.2.2.2.2.1 _ _ _ (i_aload rfl (i_aload rfl (i_getR (okS hW Sk_7) (nv_7_12 hW) (i_ic (i_lald hW Ss_442 (vpd rfl) (i_l2i (i_putI (okS hW Sk_7) (hc.2.2.2.2.2.2.2.2.2.2.2.2.2 _ _ _ (i_ic (i_iret hW.1 ((h _ rfl).2.2.2 q2570)))))))))))))))))))))))))))))))))) (fun q => absurd rfl q))))))))))))))))))))))))
theorem wX5_lead_62 {M : Mem} {K : RT} (hW : Wf M) (h : ∀ y1 : Int32, y1 = (((gL M 442 1).toInt32) &&& (7 : Int32)) → (vp_in y1 8) ∧ ((vp_in (((gL M 442 2).toInt32) &&& (7 : Int32)) 8) ∧ ((¬ (P_X5_isSo 100062 (gL M 409 (y1).toNatClampNeg) (gL M 409 (((gL M 442 2).toInt32) &&& (7 : Int32)).toNatClampNeg)) → K (some (.int (0 : Int32))) M) ∧ ((P_X5_isSo 100062 (gL M 409 (y1).toNatClampNeg) (gL M 409 (((gL M 442 2).toInt32) &&& (7 : Int32)).toNatClampNeg)) → K (some (.int (0 : Int32))) (uI M 7 2 ((gL M 442 3).toInt32)))))) : sp_X5_lead [.ref 7, .ref 100062] M K := by
  refine ⟨Nat.le_of_ble_eq_true rfl, fun G hc => ?_⟩
  rw [hW.1] at hc
  exact eX5_lead_62 hc hW  h
set_option maxRecDepth 100000 in
theorem eX5_lead_63 {G : Nat → KT} {K : RT} (hc : cloX5_lead G K wT) {M : Mem} (hW : Wf M) (h : ∀ y1 : Int32, y1 = (((gL M 442 1).toInt32) &&& (7 : Int32)) → (vp_in y1 8) ∧ ((vp_in (((gL M 442 2).toInt32) &&& (7 : Int32)) 8) ∧ ((¬ (P_X5_isSo 100063 (gL M 409 (y1).toNatClampNeg) (gL M 409 (((gL M 442 2).toInt32) &&& (7 : Int32)).toNatClampNeg)) → K (some (.int (0 : Int32))) M) ∧ ((P_X5_isSo 100063 (gL M 409 (y1).toNatClampNeg) (gL M 409 (((gL M 442 2).toInt32) &&& (7 : Int32)).toNatClampNeg)) → K (some (.int (0 : Int32))) (uI M 7 2 ((gL M 442 3).toInt32)))))) : G 0 [some (.ref 7), some (.ref 100063), none] [] M :=
  (hc.1 _ _ _ (i_aload rfl (i_getR (okS hW Sk_7) (nv_7_12 hW) (i_ic (i_lald hW Ss_442 (vpd rfl) (i_l2i (i_ic (i_iand (i_istore (Nat.le_of_ble_eq_true rfl) (i_gets (i_aload rfl (i_ord (isOp_lit (by decide)) (i_eqI (by decide +kernel : Int32.ofNat (100063 - 100000) = 63) (i_swldC (vpd rfl) (by decide +kernel : Int32.ofNat (swT.getD ((63 : Int32).toNatClampNeg) 0) = 10) (And.intro (fun q => absurd q (by decide)) (fun _ => (And.intro (fun q => absurd q (by decide)) (fun _ => (And.intro (fun q => absurd q (by decide)) (fun _ => (And.intro (fun q => absurd q (by decide)) (fun _ => (And.intro (fun q => absurd q (by decide)) (fun _ => (And.intro (fun _ => (hc.2.2.2.2.2.2.2.2.2.2.2.1 _ _ _ (i_aload rfl (i_aload rfl (i_getR (okS hW Sk_7) (nv_7_14 hW) (i_iload rfl (i_lald hW Ss_409 (h _ rfl).1 (i_aload rfl (i_getR (okS hW Sk_7) (nv_7_14 hW) (i_aload rfl (i_getR (okS hW Sk_7) (nv_7_12 hW) (i_ic (i_lald hW Ss_442 (vpd rfl) (i_l2i (i_ic (i_iand (i_lald hW Ss_409 (h _ rfl).2.1 (i_callS3 (Nat.le_of_ble_eq_true rfl) (c_X5_isSo hW (isOp_lit (by decide)) (i_rI (i_bI_eq (fun q2572 => (hc.2.2.2.2.2.2.2.2.2.2.2.2.2 _ _ _ (i_ic (i_iret hW.1 ((h _ rfl).2.2.1 q2572))))) (fun q2572 => (hc.2.2.2.2.2.2.2.2.2.2.2.2.1 _ _ _ (i_aload rfl (i_aload rfl (i_getR (okS hW Sk_7) (nv_7_12 hW) (i_ic (i_lald hW Ss_442 (vpd rfl) (i_l2i (i_putI (okS hW Sk_7) (hc.2.2.2.2.2.2.2.2.2.2.2.2.2 _ _ _ (i_ic (i_iret hW.1 ((h _ rfl).2.2.2 q2572)))))))))))))))))))))))))))))))))) (fun q => absurd rfl q))))))))))))))))))))))))))
theorem wX5_lead_63 {M : Mem} {K : RT} (hW : Wf M) (h : ∀ y1 : Int32, y1 = (((gL M 442 1).toInt32) &&& (7 : Int32)) → (vp_in y1 8) ∧ ((vp_in (((gL M 442 2).toInt32) &&& (7 : Int32)) 8) ∧ ((¬ (P_X5_isSo 100063 (gL M 409 (y1).toNatClampNeg) (gL M 409 (((gL M 442 2).toInt32) &&& (7 : Int32)).toNatClampNeg)) → K (some (.int (0 : Int32))) M) ∧ ((P_X5_isSo 100063 (gL M 409 (y1).toNatClampNeg) (gL M 409 (((gL M 442 2).toInt32) &&& (7 : Int32)).toNatClampNeg)) → K (some (.int (0 : Int32))) (uI M 7 2 ((gL M 442 3).toInt32)))))) : sp_X5_lead [.ref 7, .ref 100063] M K := by
  refine ⟨Nat.le_of_ble_eq_true rfl, fun G hc => ?_⟩
  rw [hW.1] at hc
  exact eX5_lead_63 hc hW  h
set_option maxRecDepth 100000 in
theorem eX5_lead_64 {G : Nat → KT} {K : RT} (hc : cloX5_lead G K wT) {M : Mem} (hW : Wf M) (h : ∀ y1 : Int32, y1 = (((gL M 442 1).toInt32) &&& (7 : Int32)) → (vp_in y1 8) ∧ ((vp_in y1 8) ∧ ((vp_in y1 8) ∧ ((((gL M 409 (y1).toNatClampNeg) - (1 : Int64)) = (0 : Int64) → K (some (.int (0 : Int32))) (uL M 409 (y1).toNatClampNeg ((gL M 409 (y1).toNatClampNeg) - (1 : Int64)))) ∧ (¬ ((gL M 409 (y1).toNatClampNeg) - (1 : Int64)) = (0 : Int64) → K (some (.int (0 : Int32))) (uI (uL M 409 (y1).toNatClampNeg ((gL M 409 (y1).toNatClampNeg) - (1 : Int64))) 7 2 ((gL M 442 2).toInt32))))))) : G 0 [some (.ref 7), some (.ref 100064), none] [] M :=
  (hc.1 _ _ _ (i_aload rfl (i_getR (okS hW Sk_7) (nv_7_12 hW) (i_ic (i_lald hW Ss_442 (vpd rfl) (i_l2i (i_ic (i_iand (i_istore (Nat.le_of_ble_eq_true rfl) (i_gets (i_aload rfl (i_ord (isOp_lit (by decide)) (i_eqI (by decide +kernel : Int32.ofNat (100064 - 100000) = 64) (i_swldC (vpd rfl) (by decide +kernel : Int32.ofNat (swT.getD ((64 : Int32).toNatClampNeg) 0) = 11) (And.intro (fun q => absurd q (by decide)) (fun _ => (And.intro (fun q => absurd q (by decide)) (fun _ => (And.intro (fun q => absurd q (by decide)) (fun _ => (And.intro (fun q => absurd q (by decide)) (fun _ => (And.intro (fun q => absurd q (by decide)) (fun _ => (And.intro (fun q => absurd q (by decide)) (fun _ => (And.intro (fun _ => (hc.2.2.2.2.2.2.2.2.1 _ _ _ (i_aload rfl (i_getR (okS hW Sk_7) (nv_7_14 hW) (i_iload rfl (i_dup2 rfl rfl (i_lald hW Ss_409 (h _ rfl).1 (i_lc (i_lsub (i_last hW Ss_409 (h _ rfl).2.1 (i_aload rfl (i_getR (okS hW Sk_7) (nv_7_14 hW) (i_iload rfl (i_laldE hW Ss_409 rL_eq (h _ rfl).2.2.1 (i_lc (i_lcmp (i_lcmp_eq (fun q2574 => (hc.2.2.2.2.2.2.2.2.2.2.2.2.2 _ _ _ (i_ic (i_iret hW.1 ((h _ rfl).2.2.2.1 q2574))))) (fun q2574 => (hc.2.2.2.2.2.2.2.2.2.1 _ _ _ (i_aload rfl (i_aload rfl (i_getR (okS hW Sk_7) (nv_7_12 hW) (i_ic (i_laldE hW Ss_442 (rL_a (by decide)) (vpd rfl) (i_l2i (i_putI (okS hW Sk_7) (hc.2.2.2.2.2.2.2.2.2.2.2.2.2 _ _ _ (i_ic (i_iret hW.1 ((h _ rfl).2.2.2.2 q2574)))))))))))))))))))))))))))))) (fun q => absurd rfl q))))))))))))))))))))))))))))
theorem wX5_lead_64 {M : Mem} {K : RT} (hW : Wf M) (h : ∀ y1 : Int32, y1 = (((gL M 442 1).toInt32) &&& (7 : Int32)) → (vp_in y1 8) ∧ ((vp_in y1 8) ∧ ((vp_in y1 8) ∧ ((((gL M 409 (y1).toNatClampNeg) - (1 : Int64)) = (0 : Int64) → K (some (.int (0 : Int32))) (uL M 409 (y1).toNatClampNeg ((gL M 409 (y1).toNatClampNeg) - (1 : Int64)))) ∧ (¬ ((gL M 409 (y1).toNatClampNeg) - (1 : Int64)) = (0 : Int64) → K (some (.int (0 : Int32))) (uI (uL M 409 (y1).toNatClampNeg ((gL M 409 (y1).toNatClampNeg) - (1 : Int64))) 7 2 ((gL M 442 2).toInt32))))))) : sp_X5_lead [.ref 7, .ref 100064] M K := by
  refine ⟨Nat.le_of_ble_eq_true rfl, fun G hc => ?_⟩
  rw [hW.1] at hc
  exact eX5_lead_64 hc hW  h
set_option maxRecDepth 100000 in
theorem eX5_lead_65 {G : Nat → KT} {K : RT} (hc : cloX5_lead G K wT) {M : Mem} (hW : Wf M) (h : ∀ y1 : Int32, y1 = (((gL M 442 1).toInt32) &&& (7 : Int32)) → ((gI M 7 3) < (16 : Int32) → ((vp_in (gI M 7 3) 16) ∧ K (some (.int (0 : Int32))) (uI (uI (uI M 446 (gI M 7 3).toNatClampNeg (gI M 7 2)) 7 3 ((gI M 7 3) + (1 : Int32))) 7 2 ((gL M 442 1).toInt32)))) ∧ (¬ (gI M 7 3) < (16 : Int32) → K (some (.int (7 : Int32))) M)) : G 0 [some (.ref 7), some (.ref 100065), none] [] M :=
  (hc.1 _ _ _ (i_aload rfl (i_getR (okS hW Sk_7) (nv_7_12 hW) (i_ic (i_lald hW Ss_442 (vpd rfl) (i_l2i (i_ic (i_iand (i_istore (Nat.le_of_ble_eq_true rfl) (i_gets (i_aload rfl (i_ord (isOp_lit (by decide)) (i_eqI (by decide +kernel : Int32.ofNat (100065 - 100000) = 65) (i_swldC (vpd rfl) (by decide +kernel : Int32.ofNat (swT.getD ((65 : Int32).toNatClampNeg) 0) = 6) (And.intro (fun q => absurd q (by decide)) (fun _ => (And.intro (fun _ => (hc.2.1 _ _ _ (i_aload rfl (i_getI (okS hW Sk_7) (i_ic (i_icmp_lt (fun q2576 => (hc.2.2.2.1 _ _ _ (i_aload rfl (i_getR (okS hW Sk_7) (nv_7_15 hW) (i_aload rfl (i_getI (okS hW Sk_7) (i_aload rfl (i_getI (okS hW Sk_7) (i_iast hW Ss_446 ((h _ rfl).1 q2576).1 (i_aload rfl (i_dup rfl (i_getIE (okS hW Sk_7) (rI_a (by decide)) (i_ic (i_iadd (i_putI (okS hW Sk_7) (i_aload rfl (i_aload rfl (i_getR (okS hW Sk_7) (nv_7_12 hW) (i_ic (i_laldE hW Ss_442 (Eq.trans rL_uI rL_uI) (vpd rfl) (i_l2i (i_putI (okS hW Sk_7) (hc.2.2.2.2.2.2.2.2.2.2.2.2.2 _ _ _ (i_ic (i_iret hW.1 ((h _ rfl).1 q2576).2))))))))))))))))))))))))) (fun q2576 => (hc.2.2.1 _ _ _ (i_ic (i_iret hW.1 ((h _ rfl).2 q2576))))))))))) (fun q => absurd rfl q))))))))))))))))))
theorem wX5_lead_65 {M : Mem} {K : RT} (hW : Wf M) (h : ∀ y1 : Int32, y1 = (((gL M 442 1).toInt32) &&& (7 : Int32)) → ((gI M 7 3) < (16 : Int32) → ((vp_in (gI M 7 3) 16) ∧ K (some (.int (0 : Int32))) (uI (uI (uI M 446 (gI M 7 3).toNatClampNeg (gI M 7 2)) 7 3 ((gI M 7 3) + (1 : Int32))) 7 2 ((gL M 442 1).toInt32)))) ∧ (¬ (gI M 7 3) < (16 : Int32) → K (some (.int (7 : Int32))) M)) : sp_X5_lead [.ref 7, .ref 100065] M K := by
  refine ⟨Nat.le_of_ble_eq_true rfl, fun G hc => ?_⟩
  rw [hW.1] at hc
  exact eX5_lead_65 hc hW  h
set_option maxRecDepth 100000 in
theorem eX5_lead_66 {G : Nat → KT} {K : RT} (hc : cloX5_lead G K wT) {M : Mem} (hW : Wf M) (h : ∀ y1 : Int32, y1 = (((gL M 442 1).toInt32) &&& (7 : Int32)) → ((gI M 7 3) ≤ 0 → K (some (.int (0 : Int32))) (uI M 7 6 (1 : Int32))) ∧ (¬ (gI M 7 3) ≤ 0 → ((vp_in ((gI M 7 3) - (1 : Int32)) 16) ∧ K (some (.int (0 : Int32))) (uI (uI M 7 3 ((gI M 7 3) - (1 : Int32))) 7 2 (gI M 446 ((gI M 7 3) - (1 : Int32)).toNatClampNeg))))) : G 0 [some (.ref 7), some (.ref 100066), none] [] M :=
  (hc.1 _ _ _ (i_aload rfl (i_getR (okS hW Sk_7) (nv_7_12 hW) (i_ic (i_lald hW Ss_442 (vpd rfl) (i_l2i (i_ic (i_iand (i_istore (Nat.le_of_ble_eq_true rfl) (i_gets (i_aload rfl (i_ord (isOp_lit (by decide)) (i_eqI (by decide +kernel : Int32.ofNat (100066 - 100000) = 66) (i_swldC (vpd rfl) (by decide +kernel : Int32.ofNat (swT.getD ((66 : Int32).toNatClampNeg) 0) = 12) (And.intro (fun q => absurd q (by decide)) (fun _ => (And.intro (fun q => absurd q (by decide)) (fun _ => (And.intro (fun q => absurd q (by decide)) (fun _ => (And.intro (fun q => absurd q (by decide)) (fun _ => (And.intro (fun q => absurd q (by decide)) (fun _ => (And.intro (fun q => absurd q (by decide)) (fun _ => (And.intro (fun q => absurd q (by decide)) (fun _ => (And.intro (fun _ => (hc.2.2.2.2.1 _ _ _ (i_aload rfl (i_getI (okS hW Sk_7) (i_if_le (fun q2578 => (hc.2.2.2.2.2.2.1 _ _ _ (i_aload rfl (i_ic (i_putZ (okS hW Sk_7) (by decide) (hc.2.2.2.2.2.2.2.2.2.2.2.2.2 _ _ _ (i_ic (i_iret hW.1 ((h _ rfl).1 q2578))))))))) (fun q2578 => (hc.2.2.2.2.2.1 _ _ _ (i_aload rfl (i_dup rfl (i_getI (okS hW Sk_7) (i_ic (i_isub (i_putI (okS hW Sk_7) (i_aload rfl (i_aload rfl (i_getR (okS hW Sk_7) (nv_7_15 hW) (i_aload rfl (i_getIE (okS hW Sk_7) rI_eq (i_ialdE hW Ss_446 (rI_a (by decide)) ((h _ rfl).2 q2578).1 (i_putI (okS hW Sk_7) (hc.2.2.2.2.2.2.2.2.2.2.2.2.2 _ _ _ (i_ic (i_iret hW.1 ((h _ rfl).2 q2578).2))))))))))))))))))))))) (fun q => absurd rfl q))))))))))))))))))))))))))))))
theorem wX5_lead_66 {M : Mem} {K : RT} (hW : Wf M) (h : ∀ y1 : Int32, y1 = (((gL M 442 1).toInt32) &&& (7 : Int32)) → ((gI M 7 3) ≤ 0 → K (some (.int (0 : Int32))) (uI M 7 6 (1 : Int32))) ∧ (¬ (gI M 7 3) ≤ 0 → ((vp_in ((gI M 7 3) - (1 : Int32)) 16) ∧ K (some (.int (0 : Int32))) (uI (uI M 7 3 ((gI M 7 3) - (1 : Int32))) 7 2 (gI M 446 ((gI M 7 3) - (1 : Int32)).toNatClampNeg))))) : sp_X5_lead [.ref 7, .ref 100066] M K := by
  refine ⟨Nat.le_of_ble_eq_true rfl, fun G hc => ?_⟩
  rw [hW.1] at hc
  exact eX5_lead_66 hc hW  h
set_option maxRecDepth 100000 in
theorem eX5_lead_67 {G : Nat → KT} {K : RT} (hc : cloX5_lead G K wT) {M : Mem} (hW : Wf M) (h : ∀ y1 : Int32, y1 = (((gL M 442 1).toInt32) &&& (7 : Int32)) → K (some (.int (0 : Int32))) (uI M 7 6 (1 : Int32))) : G 0 [some (.ref 7), some (.ref 100067), none] [] M :=
  (hc.1 _ _ _ (i_aload rfl (i_getR (okS hW Sk_7) (nv_7_12 hW) (i_ic (i_lald hW Ss_442 (vpd rfl) (i_l2i (i_ic (i_iand (i_istore (Nat.le_of_ble_eq_true rfl) (i_gets (i_aload rfl (i_ord (isOp_lit (by decide)) (i_eqI (by decide +kernel : Int32.ofNat (100067 - 100000) = 67) (i_swldC (vpd rfl) (by decide +kernel : Int32.ofNat (swT.getD ((67 : Int32).toNatClampNeg) 0) = 13) (And.intro (fun q => absurd q (by decide)) (fun _ => (And.intro (fun q => absurd q (by decide)) (fun _ => (And.intro (fun q => absurd q (by decide)) (fun _ => (And.intro (fun q => absurd q (by decide)) (fun _ => (And.intro (fun q => absurd q (by decide)) (fun _ => (And.intro (fun q => absurd q (by decide)) (fun _ => (And.intro (fun q => absurd q (by decide)) (fun _ => (And.intro (fun q => absurd q (by decide)) (fun _ => (And.intro (fun _ => (hc.2.2.2.2.2.2.2.1 _ _ _ (i_aload rfl (i_ic (i_putZ (okS hW Sk_7) (by decide) (hc.2.2.2.2.2.2.2.2.2.2.2.2.2 _ _ _ (i_ic (i_iret hW.1 (h _ rfl))))))))) (fun q => absurd rfl q))))))))))))))))))))))))))))))))
theorem wX5_lead_67 {M : Mem} {K : RT} (hW : Wf M) (h : ∀ y1 : Int32, y1 = (((gL M 442 1).toInt32) &&& (7 : Int32)) → K (some (.int (0 : Int32))) (uI M 7 6 (1 : Int32))) : sp_X5_lead [.ref 7, .ref 100067] M K := by
  refine ⟨Nat.le_of_ble_eq_true rfl, fun G hc => ?_⟩
  rw [hW.1] at hc
  exact eX5_lead_67 hc hW  h
section
variable {n : Nat} {c : Nat → Int64} {x : ES} {M : Mem} {K : RT}
/-- behind what leads elsewhere -/
def LdR (o : Nat) (c : Nat → Int64) (x : ES) (M M' : Mem) : Prop := Wf M' ∧ Mo (fun b => b = 7 ∨ b = 446 ∨ b = 409) M M' ∧ (∀ j, j ≠ 2 → j ≠ 3 → j ≠ 6 → gI M' 7 j = gI M 7 j)
  ∧ ((leX o c x).1 = 0 → RD M' 405 (leX o c x).2.2.2.2.2 ∧ gI M' 7 2 = nI (leX o c x).2.1 ∧ gI M' 7 3 = nI (leX o c x).2.2.1 ∧ (∀ j, j < (leX o c x).2.2.1 → gI M' 446 j = nI ((leX o c x).2.2.2.1 j)) ∧ gI M' 7 6 = (if (leX o c x).2.2.2.2.1 = true then 1 else gI M 7 6)) ∧ ((leX o c x).1 ≠ 0 → M' = M)
theorem isSo_60 {a b : Int64} : (P_X5_isSo 100060 a b ↔ jS 60 a b) ∧ (P_X5_isSo 100061 a b ↔ jS 61 a b) ∧ (P_X5_isSo 100062 a b ↔ jS 62 a b) ∧ (P_X5_isSo 100063 a b ↔ jS 63 a b) := by
  have e0 : Int32.ofNat (swT.getD (100060 - 100000) 0) = 7 := by decide +kernel
  have e1 : Int32.ofNat (swT.getD (100061 - 100000) 0) = 8 := by decide +kernel
  have e2 : Int32.ofNat (swT.getD (100062 - 100000) 0) = 9 := by decide +kernel
  have e3 : Int32.ofNat (swT.getD (100063 - 100000) 0) = 10 := by decide +kernel
  unfold P_X5_isSo jS
  rw [e0, e1, e2, e3]
  have n1 : ¬ (8 : Int32) = 7 := by decide
  have n2 : ¬ (9 : Int32) = 7 := by decide
  have n3 : ¬ (9 : Int32) = 8 := by decide
  have n4 : ¬ (10 : Int32) = 7 := by decide
  have n5 : ¬ (10 : Int32) = 8 := by decide
  have n6 : ¬ (10 : Int32) = 9 := by decide
  refine ⟨⟨fun h => ?_, fun h => ?_⟩, ⟨fun h => ?_, fun h => ?_⟩, ⟨fun h => ?_, fun h => ?_⟩, ⟨fun h => ?_, fun h => ?_⟩⟩
  · rcases h with h | h
    · exact Or.inl ⟨rfl, h.2⟩
    · exact absurd rfl h.1
  · rcases h with h | h | h | h
    · exact Or.inl ⟨rfl, h.2⟩
    · exact absurd h.1 (by decide)
    · exact absurd h.1 (by decide)
    · exact absurd h.1 (by decide)
  · rcases h with h | ⟨-, h | h⟩
    · exact absurd h.1 n1
    · exact Or.inr (Or.inl ⟨rfl, h.2⟩)
    · exact absurd rfl h.1
  · rcases h with h | h | h | h
    · exact absurd h.1 (by decide)
    · exact Or.inr ⟨n1, Or.inl ⟨rfl, h.2⟩⟩
    · exact absurd h.1 (by decide)
    · exact absurd h.1 (by decide)
  · rcases h with h | ⟨-, h | ⟨-, h | h⟩⟩
    · exact absurd h.1 n2
    · exact absurd h.1 n3
    · exact Or.inr (Or.inr (Or.inl ⟨rfl, Int64.not_le.mp h.2⟩))
    · exact absurd rfl h.1
  · rcases h with h | h | h | h
    · exact absurd h.1 (by decide)
    · exact absurd h.1 (by decide)
    · exact Or.inr ⟨n2, Or.inr ⟨n3, Or.inl ⟨rfl, Int64.not_le.mpr h.2⟩⟩⟩
    · exact absurd h.1 (by decide)
  · rcases h with h | ⟨-, h | ⟨-, h | h⟩⟩
    · exact absurd h.1 n4
    · exact absurd h.1 n5
    · exact absurd h.1 n6
    · exact Or.inr (Or.inr (Or.inr ⟨rfl, Int64.not_lt.mp h.2⟩))
  · rcases h with h | h | h | h
    · exact absurd h.1 (by decide)
    · exact absurd h.1 (by decide)
    · exact absurd h.1 (by decide)
    · exact Or.inr ⟨n4, Or.inr ⟨n5, Or.inr ⟨n6, Int64.not_lt.mpr h.2⟩⟩⟩
theorem RD.out {M M' : Mem} {d : DS} (h : Mo (fun b => b = 7 ∨ b = 446) M M') (hr : RD M 405 d) : RD M' 405 d := hr.mo h (fun b hb => by rcases hb with z | z <;> omega)
theorem leX_cj {o : Nat} (h : 60 ≤ o ∧ o ≤ 63) : leX o c x = (0, iT (jS o (dsc (eD x) (cn c 1)) (dsc (eD x) (cn c 2))) (cn c 3) (ePc x + 1), eK x, eCf x, false, eD x) := by
  unfold leX
  rw [if_neg (by omega), if_pos h.2]
theorem c_jc {o : Nat} (h : 60 ≤ o ∧ o ≤ 63) (hn : n ≤ 100) (hW : Wf M) (ho : cn c 0 = o) (hv : VI n c) (hc6 : ∀ k, k < 6 → gL M 442 k = c k) (hr : RD M 405 (eD x)) (h2 : gI M 7 2 = nI (ePc x + 1)) (h3 : gI M 7 3 = nI (eK x)) (hcf : ∀ j, j < eK x → gI M 446 j = nI (eCf x j))
    (hk : ∀ M', LdR o c x M M' → K (some (.int (leX o c x).1)) M') (P : Int64 → Int64 → Prop) (hP : ∀ a b, P a b ↔ jS o a b)
    (sp : (∀ y1 : Int32, y1 = (((gL M 442 1).toInt32) &&& (7 : Int32)) → (vp_in y1 8) ∧ ((vp_in (((gL M 442 2).toInt32) &&& (7 : Int32)) 8) ∧ ((¬ (P (gL M 409 (y1).toNatClampNeg) (gL M 409 (((gL M 442 2).toInt32) &&& (7 : Int32)).toNatClampNeg)) → K (some (.int (0 : Int32))) M) ∧ ((P (gL M 409 (y1).toNatClampNeg) (gL M 409 (((gL M 442 2).toInt32) &&& (7 : Int32)).toNatClampNeg)) → K (some (.int (0 : Int32))) (uI M 7 2 ((gL M 442 3).toInt32)))))) → sp_X5_lead [.ref 7, .ref (100000 + o)] M K) : sp_X5_lead [.ref 7, .ref (100000 + o)] M K := by
  obtain ⟨a, b, e, g⟩ := (op_let2 o (List.mem_range.mpr (by omega))).2.2 h.1 h.2
  have s1 : cn c 1 < 8 ∧ c 1 = lN (cn c 1) := hv.s ho (k := 0) (by omega) a
  have s2 : cn c 2 < 8 ∧ c 2 = lN (cn c 2) := hv.s ho (k := 1) (by omega) b
  have s3 : cn c 3 ≤ n ∧ c 3 = lN (cn c 3) := hv.l hn ho (k := 2) (by omega) e
  have el := leX_cj (c := c) (x := x) h
  refine sp (fun y1 ey => ?_)
  have e1 : y1 = nI (cn c 1) := by rw [ey, sI8 hc6 (by decide) s1]
  rw [e1, sI8 hc6 (by decide) s2, nI_clamp (by omega), nI_clamp (by omega), hr.2.2 _ s1.1, hr.2.2 _ s2.1, hP]
  refine ⟨vpN s1.1 (by decide), vpN s2.1 (by decide), fun z => ?_, fun z => ?_⟩
  · have hh := hk M ⟨hW, Mo.rf, fun _ _ _ _ => rfl, fun _ => ?_, fun _ => rfl⟩
    · rw [el] at hh; exact hh
    · rw [el, iT_f z]
      exact ⟨hr, h2, h3, hcf, rfl⟩
  · have hh := hk (uI M 7 2 ((gL M 442 3).toInt32)) ⟨Wf_uI hW, Mo_uI (Or.inl rfl), fun j w _ _ => rI_k w, fun _ => ?_, fun w => absurd (by rw [el]) w⟩
    · rw [el] at hh; exact hh
    · rw [el, iT_t z]
      refine ⟨hr.out (Mo_uI (Or.inl rfl)), ?_, ?_, fun j hj => ?_, ?_⟩
      · rw [rI_eq, hc6 3 (by decide), s3.2, lN_toI]
      · rw [rI_k (by decide)]; exact h3
      · rw [rI_a (by decide)]; exact hcf j hj
      · rw [rI_k (by decide)]; rfl
theorem c_leadX {o : Nat} (h : 59 ≤ o ∧ o < 68) (hn : n ≤ 100) (hx : EOk n x) (hW : Wf M) (ho : cn c 0 = o) (hv : VI n c) (hc6 : ∀ k, k < 6 → gL M 442 k = c k) (hr : RD M 405 (eD x)) (h2 : gI M 7 2 = nI (ePc x + 1)) (h3 : gI M 7 3 = nI (eK x)) (hcf : ∀ j, j < eK x → gI M 446 j = nI (eCf x j))
    (hk : ∀ M', LdR o c x M M' → K (some (.int (leX o c x).1)) M') : sp_X5_lead [.ref 7, .ref (100000 + o)] M K := by
  have l2 := op_let2 o (List.mem_range.mpr (by omega))
  have l3 := op_let3 o (List.mem_range.mpr (by omega))
  have k16 := hx.2.1
  have hc : o = 59 ∨ o = 60 ∨ o = 61 ∨ o = 62 ∨ o = 63 ∨ o = 64 ∨ o = 65 ∨ o = 66 ∨ o = 67 := by omega
  rcases hc with rfl | rfl | rfl | rfl | rfl | rfl | rfl | rfl | rfl
  · obtain ⟨a, g⟩ := l2.2.1 (Or.inl rfl)
    have s1 : cn c 1 ≤ n ∧ c 1 = lN (cn c 1) := hv.l hn ho (k := 0) (by omega) a
    have el : leX 59 c x = (0, cn c 1, eK x, eCf x, false, eD x) := rfl
    refine wX5_lead_59 hW (fun _ _ => ?_)
    have hh := hk (uI M 7 2 ((gL M 442 1).toInt32)) ⟨Wf_uI hW, Mo_uI (Or.inl rfl), fun j w _ _ => rI_k w, fun _ => ?_, fun w => absurd (by rw [el]) w⟩
    · exact hh
    · rw [el]
      refine ⟨hr.out (Mo_uI (Or.inl rfl)), ?_, ?_, fun j hj => ?_, ?_⟩
      · rw [rI_eq, hc6 1 (by decide), s1.2, lN_toI]
      · rw [rI_k (by decide)]; exact h3
      · rw [rI_a (by decide)]; exact hcf j hj
      · rw [rI_k (by decide)]; rfl
  · exact c_jc (o := 60) (by decide) hn hW ho hv hc6 hr h2 h3 hcf hk (P_X5_isSo 100060) (fun a b => isSo_60.1) (fun q => wX5_lead_60 hW q)
  · exact c_jc (o := 61) (by decide) hn hW ho hv hc6 hr h2 h3 hcf hk (P_X5_isSo 100061) (fun a b => isSo_60.2.1) (fun q => wX5_lead_61 hW q)
  · exact c_jc (o := 62) (by decide) hn hW ho hv hc6 hr h2 h3 hcf hk (P_X5_isSo 100062) (fun a b => isSo_60.2.2.1) (fun q => wX5_lead_62 hW q)
  · exact c_jc (o := 63) (by decide) hn hW ho hv hc6 hr h2 h3 hcf hk (P_X5_isSo 100063) (fun a b => isSo_60.2.2.2) (fun q => wX5_lead_63 hW q)
  · obtain ⟨a, b, g⟩ := l3.1 rfl
    have s1 : cn c 1 < 8 ∧ c 1 = lN (cn c 1) := hv.s ho (k := 0) (by omega) a
    have s2 : cn c 2 ≤ n ∧ c 2 = lN (cn c 2) := hv.l hn ho (k := 1) (by omega) b
    have el : leX 64 c x = (0, if dsc (eD x) (cn c 1) - 1 = 0 then ePc x + 1 else cn c 2, eK x, eCf x, false, setS (eD x) (cn c 1) (dsc (eD x) (cn c 1) - 1)) := rfl
    refine wX5_lead_64 hW (fun y1 ey => ?_)
    have e1 : y1 = nI (cn c 1) := by rw [ey, sI8 hc6 (by decide) s1]
    rw [e1, nI_clamp (by omega), hr.2.2 _ s1.1]
    have hrs := RD.ws (x := dsc (eD x) (cn c 1) - 1) s1.1 hr
    refine ⟨vpN s1.1 (by decide), vpN s1.1 (by decide), vpN s1.1 (by decide), fun z => ?_, fun z => ?_⟩
    · have hh := hk (uL M 409 (cn c 1) (dsc (eD x) (cn c 1) - 1)) ⟨Wf_uL hW, Mo_uL (Or.inr (Or.inr rfl)), fun _ _ _ _ => rfl, fun _ => ?_, fun w => absurd (by rw [el]) w⟩
      · exact hh
      · rw [el, if_pos z]
        exact ⟨hrs, h2, h3, hcf, rfl⟩
    · have hh := hk (uI (uL M 409 (cn c 1) (dsc (eD x) (cn c 1) - 1)) 7 2 ((gL M 442 2).toInt32)) ⟨Wf_uI (Wf_uL hW), (Mo_uL (Or.inr (Or.inr rfl))).tr (Mo_uI (Or.inl rfl)), fun j w _ _ => rI_k w, fun _ => ?_, fun w => absurd (by rw [el]) w⟩
      · exact hh
      · rw [el, if_neg z]
        refine ⟨hrs.mo (Mo_uI (S := fun b => b = 7) rfl) (fun b hb => by have hb : b = 7 := hb; omega), ?_, ?_, fun j hj => ?_, ?_⟩
        · rw [rI_eq, hc6 2 (by decide), s2.2, lN_toI]
        · rw [rI_k (by decide)]; exact h3
        · rw [rI_a (by decide)]; exact hcf j hj
        · rw [rI_k (by decide)]; rfl
  · obtain ⟨a, g⟩ := l2.2.1 (Or.inr rfl)
    have s1 : cn c 1 ≤ n ∧ c 1 = lN (cn c 1) := hv.l hn ho (k := 0) (by omega) a
    have el : leX 65 c x = (if eK x < 16 then (0, cn c 1, eK x + 1, up1 (eCf x) (eK x) (ePc x + 1), false, eD x) else (7, ePc x, eK x, eCf x, false, eD x)) := rfl
    refine wX5_lead_65 hW (fun _ _ => ?_)
    rw [h3, h2, show (16 : Int32) = nI 16 from rfl, nI_ltI (by omega) (by omega), nI_clamp (by omega), nI_1]
    refine ⟨fun z => ⟨vpN z (by decide), ?_⟩, fun z => ?_⟩
    · rw [if_pos z] at el
      have hh := hk (uI (uI (uI M 446 (eK x) (nI (ePc x + 1))) 7 3 (nI (eK x + 1))) 7 2 ((gL M 442 1).toInt32)) ⟨Wf_uI (Wf_uI (Wf_uI hW)), ((Mo_uI (Or.inr (Or.inl rfl))).tr (Mo_uI (Or.inl rfl))).tr (Mo_uI (Or.inl rfl)), fun j w w3 _ => ?_, fun _ => ?_, fun w => absurd (by rw [el]) w⟩
      · rw [el] at hh; exact hh
      · rw [rI_k w, rI_k w3, rI_a (by decide)]
      · rw [el]
        refine ⟨hr.out (((Mo_uI (Or.inr rfl)).tr (Mo_uI (Or.inl rfl))).tr (Mo_uI (Or.inl rfl))), ?_, ?_, fun j hj => ?_, ?_⟩
        · rw [rI_eq, hc6 1 (by decide), s1.2, lN_toI]
        · rw [rI_k (by decide), rI_eq]
        · rw [rI_a (by decide), rI_a (by decide)]
          have hj : j < eK x + 1 := hj
          show _ = nI (up1 (eCf x) (eK x) (ePc x + 1) j)
          by_cases w : j = eK x
          · subst w; rw [rI_eq, up1_eq]
          · rw [rI_k w, up1_ne w]; exact hcf j (by omega)
        · rw [rI_k (by decide), rI_k (by decide), rI_a (by decide)]; rfl
    · rw [if_neg z] at el
      have hh := hk M ⟨hW, Mo.rf, fun _ _ _ _ => rfl, fun w => absurd (show (7 : Int32) = 0 by rw [el] at w; exact w) (by decide), fun _ => rfl⟩
      rw [el] at hh; exact hh
  · have el : leX 66 c x = (if eK x = 0 then (0, ePc x + 1, 0, eCf x, true, eD x) else (0, eCf x (eK x - 1), eK x - 1, eCf x, false, eD x)) := rfl
    refine wX5_lead_66 hW (fun _ _ => ?_)
    rw [h3]
    refine ⟨fun z => ?_, fun z => ?_⟩
    · have z : eK x = 0 := by have := (nI_leI (b := 0) (by omega) (by decide)).mp z; omega
      rw [if_pos z] at el
      have hh := hk (uI M 7 6 1) ⟨Wf_uI hW, Mo_uI (Or.inl rfl), fun j _ _ w => rI_k w, fun _ => ?_, fun w => absurd (by rw [el]) w⟩
      · rw [el] at hh; exact hh
      · rw [el]
        refine ⟨hr.out (Mo_uI (Or.inl rfl)), ?_, ?_, fun j hj => absurd hj (by show ¬ j < 0; omega), ?_⟩
        · rw [rI_k (by decide)]; exact h2
        · rw [rI_k (by decide), h3, z]
        · rw [rI_eq]; rfl
    · have z : 0 < eK x := by
        rcases Nat.eq_zero_or_pos (eK x) with w | w
        · rw [w] at z; exact absurd (by decide) z
        · exact w
      rw [if_neg (by omega)] at el
      have e1 : nI (eK x) - (1 : Int32) = nI (eK x - 1) := by
        rw [show (1 : Int32) = nI 1 from rfl]
        exact pk_sub (by omega)
      rw [e1, nI_clamp (by omega)]
      refine ⟨vpN (by omega) (by decide), ?_⟩
      have hh := hk (uI (uI M 7 3 (nI (eK x - 1))) 7 2 (gI M 446 (eK x - 1))) ⟨Wf_uI (Wf_uI hW), (Mo_uI (Or.inl rfl)).tr (Mo_uI (Or.inl rfl)), fun j w w3 _ => ?_, fun _ => ?_, fun w => absurd (by rw [el]) w⟩
      · rw [el] at hh; exact hh
      · rw [rI_k w, rI_k w3]
      · rw [el]
        refine ⟨hr.out ((Mo_uI (Or.inl rfl)).tr (Mo_uI (Or.inl rfl))), ?_, ?_, fun j hj => ?_, ?_⟩
        · rw [rI_eq]; exact hcf _ (by omega)
        · rw [rI_k (by decide), rI_eq]
        · rw [rI_a (by decide), rI_a (by decide)]; exact hcf j (by have hj : j < eK x - 1 := hj; omega)
        · rw [rI_k (by decide), rI_k (by decide)]; rfl
  · have el : leX 67 c x = (0, ePc x + 1, eK x, eCf x, true, eD x) := rfl
    refine wX5_lead_67 hW (fun _ _ => ?_)
    have hh := hk (uI M 7 6 1) ⟨Wf_uI hW, Mo_uI (Or.inl rfl), fun j _ _ w => rI_k w, fun _ => ?_, fun w => absurd (by rw [el]) w⟩
    · exact hh
    · rw [el]
      refine ⟨hr.out (Mo_uI (Or.inl rfl)), ?_, ?_, fun j hj => ?_, ?_⟩
      · rw [rI_k (by decide)]; exact h2
      · rw [rI_k (by decide)]; exact h3
      · rw [rI_a (by decide)]; exact hcf j hj
      · rw [rI_eq]; rfl
end
end LEAD
