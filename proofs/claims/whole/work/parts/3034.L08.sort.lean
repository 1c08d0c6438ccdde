section SORT
set_option maxRecDepth 100000 in
theorem eX2_sort {G : Nat → KT} {K : RT} (hc : cloX2_sort G K wT) {M : Mem} (hW : Wf M) (h : G 22 [some (.ref 404), some (.int (gI M (rR M 443 0) 0)), some (.ref ((rR M 443 0) + 1)), some (.int (0 : Int32)), none, none, none] [] M) : G 0 [some (.ref 404), none, none, none, none, none, none] [] M :=
  (hc.1 _ _ _ (i_aload rfl (i_getR (okS hW Sk_404) (nv_404_4 hW) (i_ic (i_aald hW Ss_443 (vpd rfl) (Wf.mut (M := M) hW (mx_rows (by decide))) (i_getI (okS hW (Wf.mutS (M := M) hW (mx_rows (by decide)))) (i_istore (Nat.le_of_ble_eq_true rfl) (i_aload rfl (i_getR (okS hW Sk_404) (nv_404_4 hW) (i_ic (i_aald hW Ss_443 (vpd rfl) (Wf.mut (M := M) hW (mx_rows (by decide))) (i_getR (okS hW (Wf.mutS (M := M) hW (mx_rows (by decide)))) (nvRow hW (Wf.mutS (M := M) hW (mx_rows (by decide)))) (i_astore (Nat.le_of_ble_eq_true rfl) (i_ic (i_istore (Nat.le_of_ble_eq_true rfl) h)))))))))))))))
set_option maxRecDepth 100000 in
theorem eX2_sort_22 {G : Nat → KT} {K : RT} (hc : cloX2_sort G K wT) {x1 : Int32} {x2 : Nat} {nx2 : Nat} {x3 : Int32} {o4 : Option Value} {o5 : Option Value} {o6 : Option Value} {M : Mem} (hW : Wf M) (hx2 : Sh x2 = (14, nx2)) (h : ((gI M (rR M 443 0) 1) ≤ x3 → K none (uI M 404 3 (gI M (rR M 443 0) 1))) ∧ (¬ (gI M (rR M 443 0) 1) ≤ x3 → ((vp_in x3 32) ∧ G 46 [some (.ref 404), some (.int x1), some (.ref x2), some (.int x3), some (.long (gL M 444 (x3).toNatClampNeg)), none, some (.int x3)] [] M))) : G 22 [some (.ref 404), some (.int x1), some (.ref x2), some (.int x3), o4, o5, o6] [] M :=
  (hc.2.1 _ _ _ (i_iload rfl (i_aload rfl (i_getR (okS hW Sk_404) (nv_404_4 hW) (i_ic (i_aald hW Ss_443 (vpd rfl) (Wf.mut (M := M) hW (mx_rows (by decide))) (i_getI (okS hW (Wf.mutS (M := M) hW (mx_rows (by decide)))) (i_icmp_ge (fun q824 => (hc.2.2.2.2.2.2.2 _ _ _ (i_aload rfl (i_aload rfl (i_getR (okS hW Sk_404) (nv_404_4 hW) (i_ic (i_aald hW Ss_443 (vpd rfl) (Wf.mut (M := M) hW (mx_rows (by decide))) (i_getI (okS hW (Wf.mutS (M := M) hW (mx_rows (by decide)))) (i_putI (okS hW Sk_404) (i_vret hW.1 (h.1 q824))))))))))) (fun q824 => (hc.2.2.1 _ _ _ (i_aload rfl (i_getR (okS hW Sk_404) (nv_404_10 hW) (i_iload rfl (i_lald hW Ss_444 (h.2 q824).1 (i_lstore (Nat.le_of_ble_eq_true rfl) (i_iload rfl (i_istore (Nat.le_of_ble_eq_true rfl) (h.2 q824).2)))))))))))))))))
set_option maxRecDepth 100000 in
theorem eX2_sort_46 {G : Nat → KT} {K : RT} (hc : cloX2_sort G K wT) {x1 : Int32} {x2 : Nat} {nx2 : Nat} {x3 : Int32} {x4 : Int64} {x6 : Int32} {M : Mem} (hW : Wf M) (hx2 : Sh x2 = (14, nx2)) (h : (x6 ≤ 0 → ((vp_in x6 nx2) ∧ G 22 [some (.ref 404), some (.int x1), some (.ref x2), some (.int (x3 + (1 : Int32))), some (.long x4), none, some (.int x6)] [] (uL M x2 (x6).toNatClampNeg x4))) ∧ (¬ x6 ≤ 0 → ((vp_in (x6 - (1 : Int32)) nx2) ∧ (((f_X3_order x1 (gL M x2 (x6 - (1 : Int32)).toNatClampNeg)) ≤ (f_X3_order x1 x4) → ((vp_in x6 nx2) ∧ G 22 [some (.ref 404), some (.int x1), some (.ref x2), some (.int (x3 + (1 : Int32))), some (.long x4), none, some (.int x6)] [] (uL M x2 (x6).toNatClampNeg x4))) ∧ (¬ (f_X3_order x1 (gL M x2 (x6 - (1 : Int32)).toNatClampNeg)) ≤ (f_X3_order x1 x4) → ((vp_in (x6 - (1 : Int32)) nx2) ∧ ((vp_in x6 nx2) ∧ G 46 [some (.ref 404), some (.int x1), some (.ref x2), some (.int x3), some (.long x4), none, some (.int (x6 + (-1 : Int32)))] [] (uL M x2 (x6).toNatClampNeg (gL M x2 (x6 - (1 : Int32)).toNatClampNeg))))))))) : G 46 [some (.ref 404), some (.int x1), some (.ref x2), some (.int x3), some (.long x4), none, some (.int x6)] [] M :=
  (hc.2.2.2.1 _ _ _ (i_iload rfl (i_if_le (fun q825 => (hc.2.2.2.2.2.2.1 _ _ _ (i_aload rfl (i_iload rfl (i_lload rfl (i_last hW hx2 (h.1 q825).1 (i_iinc rfl (h.1 q825).2))))))) (fun q825 => (hc.2.2.2.2.1 _ _ _ (i_iload rfl (i_aload rfl (i_iload rfl (i_ic (i_isub (i_lald hW hx2 (h.2 q825).1 (i_callS2 (Nat.le_of_ble_eq_true rfl) (c_X3_order hW  (i_rJ (i_iload rfl (i_lload rfl (i_callS2 (Nat.le_of_ble_eq_true rfl) (c_X3_order hW  (i_rJ (i_lcmp (i_lcmp_le (fun q826 => (hc.2.2.2.2.2.2.1 _ _ _ (i_aload rfl (i_iload rfl (i_lload rfl (i_last hW hx2 ((h.2 q825).2.1 q826).1 (i_iinc rfl ((h.2 q825).2.1 q826).2))))))) (fun q826 => (hc.2.2.2.2.2.1 _ _ _ (i_aload rfl (i_iload rfl (i_aload rfl (i_iload rfl (i_ic (i_isub (i_lald hW hx2 ((h.2 q825).2.2 q826).1 (i_last hW hx2 ((h.2 q825).2.2 q826).2.1 (i_iinc rfl ((h.2 q825).2.2 q826).2.2))))))))))))))))))))))))))))))))
theorem wX2_sort {M : Mem} {K : RT} (hW : Wf M) (h : ∀ {G : Nat → KT}, cloX2_sort G K wT → G 22 [some (.ref 404), some (.int (gI M (rR M 443 0) 0)), some (.ref ((rR M 443 0) + 1)), some (.int (0 : Int32)), none, none, none] [] M) : sp_X2_sort [.ref 404] M K := by
  refine ⟨Nat.le_of_ble_eq_true rfl, fun G hc => ?_⟩
  rw [hW.1] at hc
  exact eX2_sort hc hW  (h hc)
set_option maxRecDepth 100000 in
theorem eX2_halve {G : Nat → KT} {K : RT} (hc : cloX2_halve G K wT) {M : Mem} (hW : Wf M) (h : G 20 [some (.ref 404), some (.int (gI M (rR M 443 0) 0)), some (.int (gI M (rR M 443 0) 1)), none, none] [] M) : G 0 [some (.ref 404), none, none, none, none] [] M :=
  (hc.1 _ _ _ (i_aload rfl (i_getR (okS hW Sk_404) (nv_404_4 hW) (i_ic (i_aald hW Ss_443 (vpd rfl) (Wf.mut (M := M) hW (mx_rows (by decide))) (i_getI (okS hW (Wf.mutS (M := M) hW (mx_rows (by decide)))) (i_istore (Nat.le_of_ble_eq_true rfl) (i_aload rfl (i_getR (okS hW Sk_404) (nv_404_4 hW) (i_ic (i_aald hW Ss_443 (vpd rfl) (Wf.mut (M := M) hW (mx_rows (by decide))) (i_getI (okS hW (Wf.mutS (M := M) hW (mx_rows (by decide)))) (i_istore (Nat.le_of_ble_eq_true rfl) h)))))))))))))
set_option maxRecDepth 100000 in
theorem eX2_halve_20 {G : Nat → KT} {K : RT} (hc : cloX2_halve G K wT) {x1 : Int32} {x2 : Int32} {o3 : Option Value} {o4 : Option Value} {M : Mem} (hW : Wf M) (h : (x2 ≤ (1 : Int32) → K none (uI (uL M ((rR M 443 0) + 1) 0 (gL M 444 0)) 404 3 (1 : Int32))) ∧ (¬ x2 ≤ (1 : Int32) → G 34 [some (.ref 404), some (.int x1), some (.int x2), some (.int ((x2 + (1 : Int32)) / (2 : Int32))), some (.int (0 : Int32))] [] M)) : G 20 [some (.ref 404), some (.int x1), some (.int x2), o3, o4] [] M :=
  (hc.2.1 _ _ _ (i_iload rfl (i_ic (i_icmp_le (fun q830 => (hc.2.2.2.2.2.2.2.2 _ _ _ (i_aload rfl (i_getR (okS hW Sk_404) (nv_404_4 hW) (i_ic (i_aald hW Ss_443 (vpd rfl) (Wf.mut (M := M) hW (mx_rows (by decide))) (i_getR (okS hW (Wf.mutS (M := M) hW (mx_rows (by decide)))) (nvRow hW (Wf.mutS (M := M) hW (mx_rows (by decide)))) (i_ic (i_aload rfl (i_getR (okS hW Sk_404) (nv_404_10 hW) (i_ic (i_lald hW Ss_444 (vpd rfl) (i_last hW (Srow (Wf.mutS (M := M) hW (mx_rows (by decide)))) (vpd rfl) (i_aload rfl (i_ic (i_putI (okS hW Sk_404) (i_vret hW.1 (h.1 q830)))))))))))))))))) (fun q830 => (hc.2.2.1 _ _ _ (i_iload rfl (i_ic (i_iadd (i_ic (i_idiv (by decide) (i_istore (Nat.le_of_ble_eq_true rfl) (i_ic (i_istore (Nat.le_of_ble_eq_true rfl) (h.2 q830)))))))))))))))
set_option maxRecDepth 100000 in
theorem eX2_halve_34 {G : Nat → KT} {K : RT} (hc : cloX2_halve G K wT) {x1 : Int32} {x2 : Int32} {x3 : Int32} {x4 : Int32} {M : Mem} (hW : Wf M) (h : ((x2 - x3) ≤ x4 → G 20 [some (.ref 404), some (.int x1), some (.int ((x2 + (1 : Int32)) / (2 : Int32))), some (.int x3), some (.int x4)] [] M) ∧ (¬ (x2 - x3) ≤ x4 → ((vp_in x4 32) ∧ ((vp_in (x4 + x3) 32) ∧ ((q_X2_added x1 (gL M 444 (x4).toNatClampNeg) (gL M 444 (x4 + x3).toNatClampNeg)) ∧ ((vp_in x4 32) ∧ (((gI (m_X2_added x1 (gL M 444 (x4).toNatClampNeg) (gL M 444 (x4 + x3).toNatClampNeg) M) 404 9) = 0 → G 34 [some (.ref 404), some (.int x1), some (.int x2), some (.int x3), some (.int (x4 + (1 : Int32)))] [] (uL (m_X2_added x1 (gL M 444 (x4).toNatClampNeg) (gL M 444 (x4 + x3).toNatClampNeg) M) 444 (x4).toNatClampNeg (f_X2_added x1 (gL M 444 (x4).toNatClampNeg) (gL M 444 (x4 + x3).toNatClampNeg)))) ∧ (¬ (gI (m_X2_added x1 (gL M 444 (x4).toNatClampNeg) (gL M 444 (x4 + x3).toNatClampNeg) M) 404 9) = 0 → K none (uI (uL (m_X2_added x1 (gL M 444 (x4).toNatClampNeg) (gL M 444 (x4 + x3).toNatClampNeg) M) 444 (x4).toNatClampNeg (f_X2_added x1 (gL M 444 (x4).toNatClampNeg) (gL M 444 (x4 + x3).toNatClampNeg))) 404 2 x4))))))))) : G 34 [some (.ref 404), some (.int x1), some (.int x2), some (.int x3), some (.int x4)] [] M :=
  (hc.2.2.2.1 _ _ _ (i_iload rfl (i_iload rfl (i_iload rfl (i_isub (i_icmp_ge (fun q831 => (hc.2.2.2.2.2.2.2.1 _ _ _ (i_iload rfl (i_ic (i_iadd (i_ic (i_idiv (by decide) (i_istore (Nat.le_of_ble_eq_true rfl) (h.1 q831))))))))) (fun q831 => (hc.2.2.2.2.1 _ _ _ (i_aload rfl (i_getR (okS hW Sk_404) (nv_404_10 hW) (i_iload rfl (i_aload rfl (i_iload rfl (i_aload rfl (i_getR (okS hW Sk_404) (nv_404_10 hW) (i_iload rfl (i_lald hW Ss_444 (h.2 q831).1 (i_aload rfl (i_getR (okS hW Sk_404) (nv_404_10 hW) (i_iload rfl (i_iload rfl (i_iadd (i_lald hW Ss_444 (h.2 q831).2.1 (i_callV4 (Nat.le_of_ble_eq_true rfl) (okS hW Sk_404) (c_X2_added hW  (h.2 q831).2.2.1 (i_rJ (i_last (Wf_m_X2_added (M := M) x1 (gL M 444 (x4).toNatClampNeg) (gL M 444 (x4 + x3).toNatClampNeg) hW) Ss_444 (h.2 q831).2.2.2.1 (i_aload rfl (i_getI (okS (Wf_m_X2_added (M := M) x1 (gL M 444 (x4).toNatClampNeg) (gL M 444 (x4 + x3).toNatClampNeg) hW) Sk_404) (i_if_eq (fun q832 => (hc.2.2.2.2.2.2.1 _ _ _ (i_iinc rfl ((h.2 q831).2.2.2.2.1 q832)))) (fun q832 => (hc.2.2.2.2.2.1 _ _ _ (i_aload rfl (i_iload rfl (i_putI (okS (Wf_m_X2_added (M := M) x1 (gL M 444 (x4).toNatClampNeg) (gL M 444 (x4 + x3).toNatClampNeg) hW) Sk_404) (i_vret (Wf_m_X2_added (M := M) x1 (gL M 444 (x4).toNatClampNeg) (gL M 444 (x4 + x3).toNatClampNeg) hW).1 ((h.2 q831).2.2.2.2.2 q832)))))))))))))))))))))))))))))))))))))
theorem wX2_halve {M : Mem} {K : RT} (hW : Wf M) (h : ∀ {G : Nat → KT}, cloX2_halve G K wT → G 20 [some (.ref 404), some (.int (gI M (rR M 443 0) 0)), some (.int (gI M (rR M 443 0) 1)), none, none] [] M) : sp_X2_halve [.ref 404] M K := by
  refine ⟨Nat.le_of_ble_eq_true rfl, fun G hc => ?_⟩
  rw [hW.1] at hc
  exact eX2_halve hc hW  (h hc)
def RX2_store_23_3 (G : Nat → KT) (K : RT) : KT := (w_istore 3 (w_aload 0 (w_getf 1 9 0 (w_if_eq (G 43) (G 37)))))
set_option maxRecDepth 100000 in
theorem eX2_store {G : Nat → KT} {K : RT} (hc : cloX2_store G K wT) {x1 : Nat} {M : Mem} (hW : Wf M) (hx1 : isOp x1) (h : G 2 [some (.ref 404), some (.ref x1), some (.int (0 : Int32)), none] [] M) : G 0 [some (.ref 404), some (.ref x1), none, none] [] M :=
  (hc.1 _ _ _ (i_ic (i_istore (Nat.le_of_ble_eq_true rfl) h)))
set_option maxRecDepth 100000 in
theorem eX2_store_2 {G : Nat → KT} {K : RT} (hc : cloX2_store G K wT) {x1 : Nat} {x2 : Int32} {o3 : Option Value} {M : Mem} (hW : Wf M) (hx1 : isOp x1) (h : ((gI M (rR M 443 0) 1) ≤ x2 → K none (uI M 404 3 (f_J6_bitCount_0f7a4 (gI M 404 8)))) ∧ (¬ (gI M (rR M 443 0) 1) ≤ x2 → ((¬ (P_X2_isOn x2 M) → G 2 [some (.ref 404), some (.ref x1), some (.int (x2 + (1 : Int32))), o3] [] M) ∧ ((P_X2_isOn x2 M) → sp_X2_element [.ref 404, .ref x1, .int x2] M (fun v M' => RX2_store_23_3 G K [some (.ref 404), some (.ref x1), some (.int x2), o3] (v.toList ++ []) M'))))) : G 2 [some (.ref 404), some (.ref x1), some (.int x2), o3] [] M :=
  (hc.2.1 _ _ _ (i_iload rfl (i_aload rfl (i_getR (okS hW Sk_404) (nv_404_4 hW) (i_ic (i_aald hW Ss_443 (vpd rfl) (Wf.mut (M := M) hW (mx_rows (by decide))) (i_getI (okS hW (Wf.mutS (M := M) hW (mx_rows (by decide)))) (i_icmp_ge (fun q810 => (hc.2.2.2.2.2.2.2 _ _ _ (i_aload rfl (i_aload rfl (i_getI (okS hW Sk_404) (i_callS1 (Nat.le_of_ble_eq_true rfl) (c_J6_bitCount_0f7a4 hW  (i_rI (i_putI (okS hW Sk_404) (i_vret hW.1 (h.1 q810))))))))))) (fun q810 => (hc.2.2.1 _ _ _ (i_aload rfl (i_iload rfl (i_callV2 (Nat.le_of_ble_eq_true rfl) (okS hW Sk_404) (c_X2_isOn hW  (i_rI (i_bI_eq (fun q811 => (hc.2.2.2.2.2.2.1 _ _ _ (i_iinc rfl ((h.2 q810).1 q811)))) (fun q811 => (hc.2.2.2.1 _ _ _ (i_aload rfl (i_aload rfl (i_iload rfl (i_callV3 (Nat.le_of_ble_eq_true rfl) (okS hW Sk_404) ((h.2 q810).2 q811)))))))))))))))))))))))
set_option maxRecDepth 100000 in
theorem rX2_store_23_3 {G : Nat → KT} {K : RT} (hc : cloX2_store G K wT) {x1 : Nat} {x2 : Int32} {o3 : Option Value} {y : Int32} {M : Mem} (hW : Wf M) (hx1 : isOp x1) (h : ((gI M 404 9) = 0 → ((vp_in x2 64) ∧ ((vp_in y 64) ∧ G 2 [some (.ref 404), some (.ref x1), some (.int (x2 + (1 : Int32))), some (.int y)] [] (uL M ((rR M 404 5) + 1) (y).toNatClampNeg (gL M ((rR M 443 0) + 1) (x2).toNatClampNeg))))) ∧ (¬ (gI M 404 9) = 0 → K none (uI M 404 2 x2))) : RX2_store_23_3 G K [some (.ref 404), some (.ref x1), some (.int x2), o3] (Option.toList (some (.int y)) ++ []) M :=
  (i_rI (i_istore (Nat.le_of_ble_eq_true rfl) (i_aload rfl (i_getI (okS hW Sk_404) (i_if_eq (fun q812 => (hc.2.2.2.2.2.1 _ _ _ (i_aload rfl (i_getR (okS hW Sk_404) (Wf.mut (M := M) hW (show mx 404 5 = some 5 from by decide)) (i_getR (okS hW (Wf.mutS (M := M) hW (show mx 404 5 = some 5 from by decide))) (nvRow hW (Wf.mutS (M := M) hW (show mx 404 5 = some 5 from by decide))) (i_iload rfl (i_aload rfl (i_getR (okS hW Sk_404) (nv_404_4 hW) (i_ic (i_aald hW Ss_443 (vpd rfl) (Wf.mut (M := M) hW (mx_rows (by decide))) (i_getR (okS hW (Wf.mutS (M := M) hW (mx_rows (by decide)))) (nvRow hW (Wf.mutS (M := M) hW (mx_rows (by decide)))) (i_iload rfl (i_lald hW (Srow (Wf.mutS (M := M) hW (mx_rows (by decide)))) (h.1 q812).1 (i_last hW (Srow (Wf.mutS (M := M) hW (show mx 404 5 = some 5 from by decide))) (h.1 q812).2.1 (hc.2.2.2.2.2.2.1 _ _ _ (i_iinc rfl (h.1 q812).2.2)))))))))))))))) (fun q812 => (hc.2.2.2.2.1 _ _ _ (i_aload rfl (i_iload rfl (i_putI (okS hW Sk_404) (i_vret hW.1 (h.2 q812))))))))))))
theorem wX2_store {x1 : Nat} {M : Mem} {K : RT} (hW : Wf M) (hx1 : isOp x1) (h : ∀ {G : Nat → KT}, cloX2_store G K wT → G 2 [some (.ref 404), some (.ref x1), some (.int (0 : Int32)), none] [] M) : sp_X2_store [.ref 404, .ref x1] M K := by
  refine ⟨Nat.le_of_ble_eq_true rfl, fun G hc => ?_⟩
  rw [hW.1] at hc
  exact eX2_store hc hW hx1 (h hc)
/-- an item goes to its place among those in order -/
noncomputable def insR (lt : Int64 → Int64 → Prop) (x : Int64) : Nat → (Nat → Int64) → (Nat → Int64)
  | 0, f => up1 f 0 x
  | j + 1, f => iT (lt x (f j)) (insR lt x j (up1 f (j + 1) (f j))) (up1 f (j + 1) x)
noncomputable def sortR (lt : Int64 → Int64 → Prop) (X : Nat → Int64) : Nat → Nat → (Nat → Int64) → (Nat → Int64)
  | 0, _, f => f
  | j + 1, i, f => sortR lt X j (i + 1) (insR lt (X i) i f)
def ltJ (k : Int32) (x y : Int64) : Prop := f_X3_order k x < f_X3_order k y
theorem c_sort {r0 n : Nat} {k : Int32} {X f : Nat → Int64} {M : Mem} {K : RT} (hW : Wf M) (hr0 : gR M 443 0 = some r0) (kr0 : (Sh r0).1 = 5) (hk : gI M r0 0 = k) (hn : gI M r0 1 = nI n ∧ n ≤ 32) (hX : ∀ j, j < n → gL M 444 j = X j) (n1 : ¬ 444 = r0 + 1) (n5 : ¬ r0 = 404) (hf : ∀ j, j < n → gL M (r0 + 1) j = f j)
    (h : ∀ M', Wf M' → M4 (fun b => b = r0 + 1) M M' → gR M' = gR M → (∀ j, j < n → gL M' (r0 + 1) j = sortR (ltJ k) X n 0 f j) → gI M' 404 2 = gI M 404 2 → gI M' 404 3 = nI n → gI M' 404 9 = gI M 404 9 → K none M') : sp_X2_sort [.ref 404] M K := by
  refine ⟨Nat.le_of_ble_eq_true rfl, fun G hc => ?_⟩
  rw [hW.1] at hc
  obtain ⟨hn1, hn2⟩ := hn
  have hsh := Srow kr0
  have loop : ∀ j i g M1, i + j = n → Wf M1 → M4 (fun b => b = r0 + 1) M M1 → gR M1 = gR M → gI M1 = gI M → (∀ q, q < n → gL M1 444 q = X q) → (∀ q, q < n → gL M1 (r0 + 1) q = g q) → sortR (ltJ k) X j i g = sortR (ltJ k) X n 0 f → ∀ {o4 o5 o6 : Option Value}, G 22 [some (.ref 404), some (.int k), some (.ref (r0 + 1)), some (.int (nI i)), o4, o5, o6] [] M1 := by
    intro j
    induction j with
    | zero =>
      intro i g M1 hi hW1 hm1 hR1 hI1 hX1 hg hl o4 o5 o6
      have : i = n := by omega
      subst this
      have hl : g = sortR (ltJ k) X i 0 f := hl
      rw [← hl] at h
      refine eX2_sort_22 hc hW1 hsh ?_
      rw [rR_of ((congrFun (congrFun hR1 443) 0).trans hr0), hI1, hn1]
      refine ⟨fun _ => h _ (Wf_uI hW1) (hm1.tr (M4_uI (by decide))) hR1 hg ?_ rI_eq ?_, fun q => absurd (nI_le (Nat.le_refl _) (by omega)) q⟩
      · rw [rI_k (by decide), hI1]
      · rw [rI_k (by decide), hI1]
    | succ j ih =>
      intro i g M1 hi hW1 hm1 hR1 hI1 hX1 hg hl o4 o5 o6
      have hl : sortR (ltJ k) X j (i + 1) (insR (ltJ k) (X i) i g) = sortR (ltJ k) X n 0 f := hl
      refine eX2_sort_22 hc hW1 hsh ?_
      rw [rR_of ((congrFun (congrFun hR1 443) 0).trans hr0), hI1, hn1, nI_clamp (by omega), hX1 i (by omega)]
      refine ⟨fun q => absurd ((nI_leI (by omega) (by omega)).mp q) (by omega), fun _ => ⟨vpN (by omega) (by decide), ?_⟩⟩
      have inner : ∀ p g' M2, p ≤ i → Wf M2 → M4 (fun b => b = r0 + 1) M M2 → gR M2 = gR M → gI M2 = gI M → (∀ q, q < n → gL M2 444 q = X q) → (∀ q, q < n → gL M2 (r0 + 1) q = g' q) → insR (ltJ k) (X i) p g' = insR (ltJ k) (X i) i g → G 46 [some (.ref 404), some (.int k), some (.ref (r0 + 1)), some (.int (nI i)), some (.long (X i)), none, some (.int (nI p))] [] M2 := by
        intro p
        have fin : ∀ p g' M2, p ≤ i → Wf M2 → M4 (fun b => b = r0 + 1) M M2 → gR M2 = gR M → gI M2 = gI M → (∀ q, q < n → gL M2 444 q = X q) → (∀ q, q < n → gL M2 (r0 + 1) q = g' q) → up1 g' p (X i) = insR (ltJ k) (X i) i g → G 22 [some (.ref 404), some (.int k), some (.ref (r0 + 1)), some (.int (nI i + 1)), some (.long (X i)), none, some (.int (nI p))] [] (uL M2 (r0 + 1) p (X i)) := by
          intro p g' M2 hp hW2 hm2 hR2 hI2 hX2 hg2 he
          rw [nI_1]
          refine ih (i + 1) (up1 g' p (X i)) _ (by omega) (Wf_uL hW2) (hm2.tr (M4_uL rfl)) hR2 hI2 (fun q hq => by rw [rL_a n1]; exact hX2 q hq) (fun q hq => ?_) (by rw [he]; exact hl)
          unfold up1
          by_cases e : q = p
          · subst e; rw [rL_eq, if_pos rfl]
          · rw [rL_k e, if_neg e]; exact hg2 q hq
        induction p with
        | zero =>
          intro g' M2 hp hW2 hm2 hR2 hI2 hX2 hg2 he
          refine eX2_sort_46 hc hW2 hsh ⟨fun _ => ⟨vpN (n := 0) (by decide) (by decide), fin 0 g' M2 hp hW2 hm2 hR2 hI2 hX2 hg2 he⟩, fun q => absurd (by decide) q⟩
        | succ p ihp =>
          intro g' M2 hp hW2 hm2 hR2 hI2 hX2 hg2 he
          have he : iT (ltJ k (X i) (g' p)) (insR (ltJ k) (X i) p (up1 g' (p + 1) (g' p))) (up1 g' (p + 1) (X i)) = insR (ltJ k) (X i) i g := he
          refine eX2_sort_46 hc hW2 hsh ?_
          rw [nI_pred, nI_clamp (by omega), nI_clamp (by omega), hg2 p (by omega)]
          refine ⟨fun q => absurd q (nI_nle (by omega) (by omega)), fun _ => ⟨vpN (by omega) (by decide), fun q => ⟨vpN (by omega) (by decide), ?_⟩, fun q => ⟨vpN (by omega) (by decide), vpN (by omega) (by decide), ?_⟩⟩⟩
          · have q : ¬ ltJ k (X i) (g' p) := Int64.not_lt.mpr q
            rw [iT_f q] at he
            exact fin (p + 1) g' M2 hp hW2 hm2 hR2 hI2 hX2 hg2 he
          · have q : ltJ k (X i) (g' p) := Int64.not_le.mp q
            rw [iT_t q] at he
            have e1 : nI (p + 1) + (-1 : Int32) = nI p := by
              rw [← nI_pred p, Int32.sub_eq_add_neg]
            rw [e1]
            refine ihp (up1 g' (p + 1) (g' p)) _ (by omega) (Wf_uL hW2) (hm2.tr (M4_uL rfl)) hR2 hI2 (fun q hq => by rw [rL_a n1]; exact hX2 q hq) (fun z hz => ?_) he
            unfold up1
            by_cases e : z = p + 1
            · subst e; rw [rL_eq, if_pos rfl]
            · rw [rL_k e, if_neg e]; exact hg2 z hz
      exact inner i g M1 (Nat.le_refl _) hW1 hm1 hR1 hI1 hX1 hg rfl
  refine eX2_sort hc hW ?_
  rw [rR_of hr0, hk]
  exact loop n 0 f M (by omega) hW M4.rf rfl rfl hX hf rfl
end SORT
