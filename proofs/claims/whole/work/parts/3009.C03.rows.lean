section C03
set_option maxRecDepth 100000 in
theorem eJ7_rangeCheck_23922 {G : Nat → KT} {K : RT} (hc : cloJ7_rangeCheck_23922 G K wT) {x0 : Int32} {x1 : Int32} {x2 : Int32} {M : Mem} (hW : Wf M) (h : (x1 ≤ x2 → ((0 ≤ x1 → ((x2 ≤ x0 → K none M) ∧ (¬ x2 ≤ x0 → False))) ∧ (¬ 0 ≤ x1 → False))) ∧ (¬ x1 ≤ x2 → False)) : G 0 [some (.int x0), some (.int x1), some (.int x2)] [] M :=
  (hc.1 _ _ _ (i_iload rfl (i_iload rfl (i_icmp_le (fun q100 => (hc.2.2.1 _ _ _ (i_iload rfl (i_if_ge (fun q101 => (hc.2.2.2.2.1 _ _ _ (i_iload rfl (i_iload rfl (i_icmp_le (fun q102 => (hc.2.2.2.2.2.2 _ _ _ (i_vret hW.1 (((h.1 q100).1 q101).1 q102)))) (fun q102 => (hc.2.2.2.2.2.1 _ _ _ (((h.1 q100).1 q101).2 q102)))))))) (fun q101 => (hc.2.2.2.1 _ _ _ ((h.1 q100).2 q101))))))) (fun q100 => (hc.2.1 _ _ _ (h.2 q100)))))))
theorem wJ7_rangeCheck_23922 {x0 : Int32} {x1 : Int32} {x2 : Int32} {M : Mem} {K : RT} (hW : Wf M) (h : (x1 ≤ x2 → ((0 ≤ x1 → ((x2 ≤ x0 → K none M) ∧ (¬ x2 ≤ x0 → False))) ∧ (¬ 0 ≤ x1 → False))) ∧ (¬ x1 ≤ x2 → False)) : sp_J7_rangeCheck_23922 [.int x0, .int x1, .int x2] M K := by
  refine ⟨Nat.le_of_ble_eq_true rfl, fun G hc => ?_⟩
  rw [hW.1] at hc
  exact eJ7_rangeCheck_23922 hc hW  h
def RJ7_fill_bad5a_0_4 (G : Nat → KT) (K : RT) : KT := (w_iload 1 (w_istore 5 (G 10)))
set_option maxRecDepth 100000 in
theorem eJ7_fill_bad5a {G : Nat → KT} {K : RT} (hc : cloJ7_fill_bad5a G K wT) {x0 : Nat} {nx0 : Nat} {x1 : Int32} {x2 : Int32} {x3 : Int64} {M : Mem} (hW : Wf M) (hx0 : Sh x0 = (14, nx0)) (h : sp_J7_rangeCheck_23922 [.int (Int32.ofNat nx0), .int x1, .int x2] M (fun v M' => RJ7_fill_bad5a_0_4 G K [some (.ref x0), some (.int x1), some (.int x2), some (.long x3), none, none] (v.toList ++ []) M')) : G 0 [some (.ref x0), some (.int x1), some (.int x2), some (.long x3), none, none] [] M :=
  (hc.1 _ _ _ (i_aload rfl (i_alen hW hx0 (by decide) (i_iload rfl (i_iload rfl (i_callS3 (Nat.le_of_ble_eq_true rfl) h))))))
set_option maxRecDepth 100000 in
theorem eJ7_fill_bad5a_10 {G : Nat → KT} {K : RT} (hc : cloJ7_fill_bad5a G K wT) {x0 : Nat} {nx0 : Nat} {o1 : Option Value} {x2 : Int32} {x3 : Int64} {x5 : Int32} {M : Mem} (hW : Wf M) (hx0 : Sh x0 = (14, nx0)) (h : (x2 ≤ x5 → K none M) ∧ (¬ x2 ≤ x5 → ((vp_in x5 nx0) ∧ G 10 [some (.ref x0), o1, some (.int x2), some (.long x3), none, some (.int (x5 + (1 : Int32)))] [] (uL M x0 (x5).toNatClampNeg x3)))) : G 10 [some (.ref x0), o1, some (.int x2), some (.long x3), none, some (.int x5)] [] M :=
  (hc.2.1 _ _ _ (i_iload rfl (i_iload rfl (i_icmp_ge (fun q104 => (hc.2.2.2 _ _ _ (i_vret hW.1 (h.1 q104)))) (fun q104 => (hc.2.2.1 _ _ _ (i_aload rfl (i_iload rfl (i_lload rfl (i_last hW hx0 (h.2 q104).1 (i_iinc rfl (h.2 q104).2)))))))))))
set_option maxRecDepth 100000 in
theorem rJ7_fill_bad5a_0_4 {G : Nat → KT} {K : RT} (hc : cloJ7_fill_bad5a G K wT) {x0 : Nat} {nx0 : Nat} {x1 : Int32} {x2 : Int32} {x3 : Int64} {o5 : Option Value} {M : Mem} (hW : Wf M) (hx0 : Sh x0 = (14, nx0)) (h : G 10 [some (.ref x0), some (.int x1), some (.int x2), some (.long x3), none, some (.int x1)] [] M) : RJ7_fill_bad5a_0_4 G K [some (.ref x0), some (.int x1), some (.int x2), some (.long x3), none, o5] (Option.toList none ++ []) M :=
  (i_rN (i_iload rfl (i_istore (Nat.le_of_ble_eq_true rfl) h)))
theorem wJ7_fill_bad5a {x0 : Nat} {nx0 : Nat} {x1 : Int32} {x2 : Int32} {x3 : Int64} {M : Mem} {K : RT} (hW : Wf M) (hx0 : Sh x0 = (14, nx0)) (h : ∀ {G : Nat → KT}, cloJ7_fill_bad5a G K wT → sp_J7_rangeCheck_23922 [.int (Int32.ofNat nx0), .int x1, .int x2] M (fun v M' => RJ7_fill_bad5a_0_4 G K [some (.ref x0), some (.int x1), some (.int x2), some (.long x3), none, none] (v.toList ++ []) M')) : sp_J7_fill_bad5a [.ref x0, .int x1, .int x2, .long x3] M K := by
  refine ⟨Nat.le_of_ble_eq_true rfl, fun G hc => ?_⟩
  rw [hW.1] at hc
  exact eJ7_fill_bad5a hc hW hx0 (h hc)
set_option maxRecDepth 100000 in
theorem eJ7_fill_53178 {G : Nat → KT} {K : RT} (hc : cloJ7_fill_53178 G K wT) {x0 : Nat} {nx0 : Nat} {x1 : Int32} {M : Mem} (hW : Wf M) (hx0 : Sh x0 = (13, nx0)) (h : G 5 [some (.ref x0), some (.int x1), some (.int (0 : Int32)), some (.int (Int32.ofNat nx0))] [] M) : G 0 [some (.ref x0), some (.int x1), none, none] [] M :=
  (hc.1 _ _ _ (i_ic (i_istore (Nat.le_of_ble_eq_true rfl) (i_aload rfl (i_alen hW hx0 (by decide) (i_istore (Nat.le_of_ble_eq_true rfl) h))))))
set_option maxRecDepth 100000 in
theorem eJ7_fill_53178_5 {G : Nat → KT} {K : RT} (hc : cloJ7_fill_53178 G K wT) {x0 : Nat} {nx0 : Nat} {x1 : Int32} {x2 : Int32} {x3 : Int32} {M : Mem} (hW : Wf M) (hx0 : Sh x0 = (13, nx0)) (h : (x3 ≤ x2 → K none M) ∧ (¬ x3 ≤ x2 → ((vp_in x2 nx0) ∧ G 5 [some (.ref x0), some (.int x1), some (.int (x2 + (1 : Int32))), some (.int x3)] [] (uI M x0 (x2).toNatClampNeg x1)))) : G 5 [some (.ref x0), some (.int x1), some (.int x2), some (.int x3)] [] M :=
  (hc.2.1 _ _ _ (i_iload rfl (i_iload rfl (i_icmp_ge (fun q247 => (hc.2.2.2 _ _ _ (i_vret hW.1 (h.1 q247)))) (fun q247 => (hc.2.2.1 _ _ _ (i_aload rfl (i_iload rfl (i_iload rfl (i_iast hW hx0 (h.2 q247).1 (i_iinc rfl (h.2 q247).2)))))))))))
theorem wJ7_fill_53178 {x0 : Nat} {nx0 : Nat} {x1 : Int32} {M : Mem} {K : RT} (hW : Wf M) (hx0 : Sh x0 = (13, nx0)) (h : ∀ {G : Nat → KT}, cloJ7_fill_53178 G K wT → G 5 [some (.ref x0), some (.int x1), some (.int (0 : Int32)), some (.int (Int32.ofNat nx0))] [] M) : sp_J7_fill_53178 [.ref x0, .int x1] M K := by
  refine ⟨Nat.le_of_ble_eq_true rfl, fun G hc => ?_⟩
  rw [hW.1] at hc
  exact eJ7_fill_53178 hc hW hx0 (h hc)
set_option maxRecDepth 100000 in
theorem eX8_has {G : Nat → KT} {K : RT} (hc : cloX8_has G K wT) {x0 : Nat} {x1 : Int32} {M : Mem} (hW : Wf M) (hx0 : (Sh x0).1 = 5) (h : (x1 < 0 → K (some (.int (0 : Int32))) M) ∧ (¬ x1 < 0 → (((gI M x0 1) ≤ x1 → K (some (.int (0 : Int32))) M) ∧ (¬ (gI M x0 1) ≤ x1 → K (some (.int (1 : Int32))) M)))) : G 0 [some (.ref x0), some (.int x1)] [] M :=
  (hc.1 _ _ _ (i_iload rfl (i_if_lt (fun q843 => (hc.2.2.2.1 _ _ _ (i_ic (hc.2.2.2.2 _ _ _ (i_zret (by decide) hW.1 (h.1 q843)))))) (fun q843 => (hc.2.1 _ _ _ (i_iload rfl (i_aload rfl (i_getI (okS hW hx0) (i_icmp_ge (fun q844 => (hc.2.2.2.1 _ _ _ (i_ic (hc.2.2.2.2 _ _ _ (i_zret (by decide) hW.1 ((h.2 q843).1 q844)))))) (fun q844 => (hc.2.2.1 _ _ _ (i_ic (hc.2.2.2.2 _ _ _ (i_zret (by decide) hW.1 ((h.2 q843).2 q844)))))))))))))))
theorem wX8_has {x0 : Nat} {x1 : Int32} {M : Mem} {K : RT} (hW : Wf M) (hx0 : (Sh x0).1 = 5) (h : (x1 < 0 → K (some (.int (0 : Int32))) M) ∧ (¬ x1 < 0 → (((gI M x0 1) ≤ x1 → K (some (.int (0 : Int32))) M) ∧ (¬ (gI M x0 1) ≤ x1 → K (some (.int (1 : Int32))) M)))) : sp_X8_has [.ref x0, .int x1] M K := by
  refine ⟨Nat.le_of_ble_eq_true rfl, fun G hc => ?_⟩
  rw [hW.1] at hc
  exact eX8_has hc hW hx0 h
def P_X8_has (x0 : Nat) (x1 : Int32) (M : Mem) : Prop := ((¬ x1 < 0) ∧ (¬ (gI M x0 1) ≤ x1))
theorem c_X8_has {x0 : Nat} {x1 : Int32} {M : Mem} {K : RT} (hW : Wf M) (hx0 : (Sh x0).1 = 5) (h : K (some (.int (pI (P_X8_has x0 x1 M)))) M) : sp_X8_has [.ref x0, .int x1] M K := by
  refine wX8_has hW hx0 ?_
  unfold P_X8_has at h
  refine ⟨fun q0 => ?_, fun q0 => ?_⟩
  · skip
    exact pI_goF h (by simp only [eq_true q0, not_true_eq_false, not_false_eq_true, true_and, false_and, and_true, and_false, true_or, or_true, false_or, or_false, iff_self])
  · skip
    refine ⟨fun q1 => ?_, fun q1 => ?_⟩
    · skip
      exact pI_goF h (by simp only [eq_false q0, eq_true q1, not_true_eq_false, not_false_eq_true, true_and, false_and, and_true, and_false, true_or, or_true, false_or, or_false, iff_self])
    · skip
      exact pI_goT h (by simp only [eq_false q0, eq_false q1, not_true_eq_false, not_false_eq_true, true_and, false_and, and_true, and_false, true_or, or_true, false_or, or_false, iff_self])
def RX8_reach_14_6 (G : Nat → KT) (K : RT) : KT := (G 27)
set_option maxRecDepth 100000 in
theorem eX8_reach {G : Nat → KT} {K : RT} (hc : cloX8_reach G K wT) {x0 : Nat} {x1 : Int32} {M : Mem} (hW : Wf M) (hx0 : (Sh x0).1 = 5) (h : (x1 ≤ (gI M x0 1) → K none (uI M x0 1 x1)) ∧ (¬ x1 ≤ (gI M x0 1) → (((64 : Int32) < x1 → K none (uI M x0 1 x1)) ∧ (¬ (64 : Int32) < x1 → sp_J7_fill_bad5a [.ref (x0 + 1), .int (gI M x0 1), .int x1, .long (0 : Int64)] M (fun v M' => RX8_reach_14_6 G K [some (.ref x0), some (.int x1)] (v.toList ++ []) M'))))) : G 0 [some (.ref x0), some (.int x1)] [] M :=
  (hc.1 _ _ _ (i_iload rfl (i_aload rfl (i_getI (okS hW hx0) (i_icmp_le (fun q783 => (hc.2.2.2 _ _ _ (i_aload rfl (i_iload rfl (i_putI (okS hW hx0) (i_vret hW.1 (h.1 q783))))))) (fun q783 => (hc.2.1 _ _ _ (i_iload rfl (i_ic (i_icmp_gt (fun q784 => (hc.2.2.2 _ _ _ (i_aload rfl (i_iload rfl (i_putI (okS hW hx0) (i_vret hW.1 ((h.2 q783).1 q784))))))) (fun q784 => (hc.2.2.1 _ _ _ (i_aload rfl (i_getR (okS hW hx0) (nvRow hW hx0) (i_aload rfl (i_getI (okS hW hx0) (i_iload rfl (i_lc (i_callS4 (Nat.le_of_ble_eq_true rfl) ((h.2 q783).2 q784))))))))))))))))))))
set_option maxRecDepth 100000 in
theorem rX8_reach_14_6 {G : Nat → KT} {K : RT} (hc : cloX8_reach G K wT) {x0 : Nat} {x1 : Int32} {M : Mem} (hW : Wf M) (hx0 : (Sh x0).1 = 5) (h : K none (uI M x0 1 x1)) : RX8_reach_14_6 G K [some (.ref x0), some (.int x1)] (Option.toList none ++ []) M :=
  (i_rN (hc.2.2.2 _ _ _ (i_aload rfl (i_iload rfl (i_putI (okS hW hx0) (i_vret hW.1 h))))))
theorem wX8_reach {x0 : Nat} {x1 : Int32} {M : Mem} {K : RT} (hW : Wf M) (hx0 : (Sh x0).1 = 5) (h : ∀ {G : Nat → KT}, cloX8_reach G K wT → (x1 ≤ (gI M x0 1) → K none (uI M x0 1 x1)) ∧ (¬ x1 ≤ (gI M x0 1) → (((64 : Int32) < x1 → K none (uI M x0 1 x1)) ∧ (¬ (64 : Int32) < x1 → sp_J7_fill_bad5a [.ref (x0 + 1), .int (gI M x0 1), .int x1, .long (0 : Int64)] M (fun v M' => RX8_reach_14_6 G K [some (.ref x0), some (.int x1)] (v.toList ++ []) M'))))) : sp_X8_reach [.ref x0, .int x1] M K := by
  refine ⟨Nat.le_of_ble_eq_true rfl, fun G hc => ?_⟩
  rw [hW.1] at hc
  exact eX8_reach hc hW hx0 (h hc)
def RX8_make_0_8 (G : Nat → KT) (K : RT) : KT := (w_vret wT K)
set_option maxRecDepth 100000 in
theorem eX8_make {G : Nat → KT} {K : RT} (hc : cloX8_make G K wT) {x0 : Nat} {x1 : Int32} {x2 : Int32} {M : Mem} (hW : Wf M) (hx0 : (Sh x0).1 = 5) (h : sp_X8_reach [.ref x0, .int x2] (uI (uI M x0 0 x1) x0 1 (0 : Int32)) (fun v M' => RX8_make_0_8 G K [some (.ref x0), some (.int x1), some (.int x2)] (v.toList ++ []) M')) : G 0 [some (.ref x0), some (.int x1), some (.int x2)] [] M :=
  (hc _ _ _ (i_aload rfl (i_iload rfl (i_putI (okS hW hx0) (i_aload rfl (i_ic (i_putI (okS hW hx0) (i_aload rfl (i_iload rfl (i_callV2 (Nat.le_of_ble_eq_true rfl) (okS hW hx0) h))))))))))
set_option maxRecDepth 100000 in
theorem rX8_make_0_8 {G : Nat → KT} {K : RT} (hc : cloX8_make G K wT) {o0 : Option Value} {o1 : Option Value} {o2 : Option Value} {M : Mem} (hW : Wf M) (h : K none M) : RX8_make_0_8 G K [o0, o1, o2] (Option.toList none ++ []) M :=
  (i_rN (i_vret hW.1 h))
theorem wX8_make {x0 : Nat} {x1 : Int32} {x2 : Int32} {M : Mem} {K : RT} (hW : Wf M) (hx0 : (Sh x0).1 = 5) (h : ∀ {G : Nat → KT}, cloX8_make G K wT → sp_X8_reach [.ref x0, .int x2] (uI (uI M x0 0 x1) x0 1 (0 : Int32)) (fun v M' => RX8_make_0_8 G K [some (.ref x0), some (.int x1), some (.int x2)] (v.toList ++ []) M')) : sp_X8_make [.ref x0, .int x1, .int x2] M K := by
  refine ⟨Nat.le_of_ble_eq_true rfl, fun G hc => ?_⟩
  rw [hW.1] at hc
  exact eX8_make hc hW hx0 (h hc)
set_option maxRecDepth 100000 in
theorem eX8_unmake {G : Nat → KT} {K : RT} (hc : cloX8_unmake G K wT) {x0 : Nat} {M : Mem} (hW : Wf M) (hx0 : (Sh x0).1 = 5) (h : K none (uI (uI M x0 0 (-1 : Int32)) x0 1 (0 : Int32))) : G 0 [some (.ref x0)] [] M :=
  (hc _ _ _ (i_aload rfl (i_ic (i_putI (okS hW hx0) (i_aload rfl (i_ic (i_putI (okS hW hx0) (i_vret hW.1 h))))))))
theorem wX8_unmake {x0 : Nat} {M : Mem} {K : RT} (hW : Wf M) (hx0 : (Sh x0).1 = 5) (h : K none (uI (uI M x0 0 (-1 : Int32)) x0 1 (0 : Int32))) : sp_X8_unmake [.ref x0] M K := by
  refine ⟨Nat.le_of_ble_eq_true rfl, fun G hc => ?_⟩
  rw [hW.1] at hc
  exact eX8_unmake hc hW hx0 h
noncomputable def m_X8_unmake (x0 : Nat) (M : Mem) : Mem := (uI (uI M x0 0 (-1 : Int32)) x0 1 (0 : Int32))
theorem c_X8_unmake {x0 : Nat} {M : Mem} {K : RT} (hW : Wf M) (hx0 : (Sh x0).1 = 5) (h : K none (m_X8_unmake x0 M)) : sp_X8_unmake [.ref x0] M K := by
  refine wX8_unmake hW hx0 ?_
  unfold m_X8_unmake at h
  first | exact h | contradiction
theorem Wf_m_X8_unmake (x0 : Nat) {M : Mem} (hW : Wf M) : Wf (m_X8_unmake x0 M) := by
  unfold m_X8_unmake
  exact hW
set_option maxRecDepth 100000 in
theorem eX8_copyFrom {G : Nat → KT} {K : RT} (hc : cloX8_copyFrom G K wT) {x0 : Nat} {x1 : Nat} {M : Mem} (hW : Wf M) (hx0 : (Sh x0).1 = 5) (hx1 : (Sh x1).1 = 5) (h : (¬ (0 : Int32) < 0 ∧ ¬ (0 : Int32) < 0 ∧ ¬ (gI (uI (uI M x0 0 (gI M x1 0)) x0 1 (gI M x1 1)) x1 1) < 0 ∧ 0 + (gI (uI (uI M x0 0 (gI M x1 0)) x0 1 (gI M x1 1)) x1 1).toNatClampNeg ≤ 64 ∧ 0 + (gI (uI (uI M x0 0 (gI M x1 0)) x0 1 (gI M x1 1)) x1 1).toNatClampNeg ≤ 64) ∧ K none (bL (uI (uI M x0 0 (gI M x1 0)) x0 1 (gI M x1 1)) (x0 + 1) (va_cpy (gL (uI (uI M x0 0 (gI M x1 0)) x0 1 (gI M x1 1)) (x1 + 1)) (gL (uI (uI M x0 0 (gI M x1 0)) x0 1 (gI M x1 1)) (x0 + 1)) 0 0 (gI (uI (uI M x0 0 (gI M x1 0)) x0 1 (gI M x1 1)) x1 1).toNatClampNeg))) : G 0 [some (.ref x0), some (.ref x1)] [] M :=
  (hc _ _ _ (i_aload rfl (i_aload rfl (i_getI (okS hW hx1) (i_putI (okS hW hx0) (i_aload rfl (i_aload rfl (i_getIE (okS hW hx1) (rI_k (by decide)) (i_putI (okS hW hx0) (i_aload rfl (i_getR (okS hW hx1) (nvRow hW hx1) (i_ic (i_aload rfl (i_getR (okS hW hx0) (nvRow hW hx0) (i_ic (i_aload rfl (i_getI (okS hW hx1) (i_copyL hW (Srow hx1) (Srow hx0) (Nat.le_of_ble_eq_true rfl) h.1 (i_vret hW.1 h.2)))))))))))))))))))
theorem wX8_copyFrom {x0 : Nat} {x1 : Nat} {M : Mem} {K : RT} (hW : Wf M) (hx0 : (Sh x0).1 = 5) (hx1 : (Sh x1).1 = 5) (h : (¬ (0 : Int32) < 0 ∧ ¬ (0 : Int32) < 0 ∧ ¬ (gI (uI (uI M x0 0 (gI M x1 0)) x0 1 (gI M x1 1)) x1 1) < 0 ∧ 0 + (gI (uI (uI M x0 0 (gI M x1 0)) x0 1 (gI M x1 1)) x1 1).toNatClampNeg ≤ 64 ∧ 0 + (gI (uI (uI M x0 0 (gI M x1 0)) x0 1 (gI M x1 1)) x1 1).toNatClampNeg ≤ 64) ∧ K none (bL (uI (uI M x0 0 (gI M x1 0)) x0 1 (gI M x1 1)) (x0 + 1) (va_cpy (gL (uI (uI M x0 0 (gI M x1 0)) x0 1 (gI M x1 1)) (x1 + 1)) (gL (uI (uI M x0 0 (gI M x1 0)) x0 1 (gI M x1 1)) (x0 + 1)) 0 0 (gI (uI (uI M x0 0 (gI M x1 0)) x0 1 (gI M x1 1)) x1 1).toNatClampNeg))) : sp_X8_copyFrom [.ref x0, .ref x1] M K := by
  refine ⟨Nat.le_of_ble_eq_true rfl, fun G hc => ?_⟩
  rw [hW.1] at hc
  exact eX8_copyFrom hc hW hx0 hx1 h
noncomputable def m_X8_copyFrom (x0 : Nat) (x1 : Nat) (M : Mem) : Mem := (bL (uI (uI M x0 0 (gI M x1 0)) x0 1 (gI M x1 1)) (x0 + 1) (va_cpy (gL (uI (uI M x0 0 (gI M x1 0)) x0 1 (gI M x1 1)) (x1 + 1)) (gL (uI (uI M x0 0 (gI M x1 0)) x0 1 (gI M x1 1)) (x0 + 1)) 0 0 (gI (uI (uI M x0 0 (gI M x1 0)) x0 1 (gI M x1 1)) x1 1).toNatClampNeg))
def q_X8_copyFrom (x0 : Nat) (x1 : Nat) (M : Mem) : Prop := (¬ (0 : Int32) < 0 ∧ ¬ (0 : Int32) < 0 ∧ ¬ (gI (uI (uI M x0 0 (gI M x1 0)) x0 1 (gI M x1 1)) x1 1) < 0 ∧ 0 + (gI (uI (uI M x0 0 (gI M x1 0)) x0 1 (gI M x1 1)) x1 1).toNatClampNeg ≤ 64 ∧ 0 + (gI (uI (uI M x0 0 (gI M x1 0)) x0 1 (gI M x1 1)) x1 1).toNatClampNeg ≤ 64)
theorem c_X8_copyFrom {x0 : Nat} {x1 : Nat} {M : Mem} {K : RT} (hW : Wf M) (hx0 : (Sh x0).1 = 5) (hx1 : (Sh x1).1 = 5) (hp : q_X8_copyFrom x0 x1 M) (h : K none (m_X8_copyFrom x0 x1 M)) : sp_X8_copyFrom [.ref x0, .ref x1] M K := by
  refine wX8_copyFrom hW hx0 hx1 ?_
  unfold m_X8_copyFrom at h
  unfold q_X8_copyFrom at hp
  refine ⟨hp, ?_⟩
  first | exact h | contradiction
theorem Wf_m_X8_copyFrom (x0 : Nat) (x1 : Nat) {M : Mem} (hW : Wf M) : Wf (m_X8_copyFrom x0 x1 M) := by
  unfold m_X8_copyFrom
  exact hW
set_option maxRecDepth 100000 in
theorem eX8_isAs {G : Nat → KT} {K : RT} (hc : cloX8_isAs G K wT) {x0 : Nat} {x1 : Nat} {M : Mem} (hW : Wf M) (hx0 : (Sh x0).1 = 5) (hx1 : (Sh x1).1 = 5) (h : (¬ (gI M x0 0) = (gI M x1 0) → K (some (.int (0 : Int32))) M) ∧ ((gI M x0 0) = (gI M x1 0) → (((gI M x0 1) = (gI M x1 1) → G 26 [some (.ref x0), some (.ref x1), some (.int (0 : Int32))] [] M) ∧ (¬ (gI M x0 1) = (gI M x1 1) → K (some (.int (0 : Int32))) M)))) : G 0 [some (.ref x0), some (.ref x1), none] [] M :=
  (hc.1 _ _ _ (i_aload rfl (i_getI (okS hW hx0) (i_aload rfl (i_getI (okS hW hx1) (i_icmp_ne (fun q1186 => (hc.2.2.1 _ _ _ (i_ic (i_zret (by decide) hW.1 (h.1 q1186))))) (fun q1186 => (hc.2.1 _ _ _ (i_aload rfl (i_getI (okS hW hx0) (i_aload rfl (i_getI (okS hW hx1) (i_icmp_eq (fun q1187 => (hc.2.2.2.1 _ _ _ (i_ic (i_istore (Nat.le_of_ble_eq_true rfl) ((h.2 q1186).1 q1187))))) (fun q1187 => (hc.2.2.1 _ _ _ (i_ic (i_zret (by decide) hW.1 ((h.2 q1186).2 q1187))))))))))))))))))
set_option maxRecDepth 100000 in
theorem eX8_isAs_26 {G : Nat → KT} {K : RT} (hc : cloX8_isAs G K wT) {x0 : Nat} {x1 : Nat} {x2 : Int32} {M : Mem} (hW : Wf M) (hx0 : (Sh x0).1 = 5) (hx1 : (Sh x1).1 = 5) (h : ((gI M x0 1) ≤ x2 → K (some (.int (1 : Int32))) M) ∧ (¬ (gI M x0 1) ≤ x2 → ((vp_in x2 64) ∧ ((vp_in x2 64) ∧ (((gL M (x0 + 1) (x2).toNatClampNeg) = (gL M (x1 + 1) (x2).toNatClampNeg) → G 26 [some (.ref x0), some (.ref x1), some (.int (x2 + (1 : Int32)))] [] M) ∧ (¬ (gL M (x0 + 1) (x2).toNatClampNeg) = (gL M (x1 + 1) (x2).toNatClampNeg) → K (some (.int (0 : Int32))) M)))))) : G 26 [some (.ref x0), some (.ref x1), some (.int x2)] [] M :=
  (hc.2.2.2.2.1 _ _ _ (i_iload rfl (i_aload rfl (i_getI (okS hW hx0) (i_icmp_ge (fun q1188 => (hc.2.2.2.2.2.2.2.2 _ _ _ (i_ic (i_zret (by decide) hW.1 (h.1 q1188))))) (fun q1188 => (hc.2.2.2.2.2.1 _ _ _ (i_aload rfl (i_getR (okS hW hx0) (nvRow hW hx0) (i_iload rfl (i_lald hW (Srow hx0) (h.2 q1188).1 (i_aload rfl (i_getR (okS hW hx1) (nvRow hW hx1) (i_iload rfl (i_lald hW (Srow hx1) (h.2 q1188).2.1 (i_lcmp (i_lcmp_eq (fun q1189 => (hc.2.2.2.2.2.2.2.1 _ _ _ (i_iinc rfl ((h.2 q1188).2.2.1 q1189)))) (fun q1189 => (hc.2.2.2.2.2.2.1 _ _ _ (i_ic (i_zret (by decide) hW.1 ((h.2 q1188).2.2.2 q1189))))))))))))))))))))))
theorem wX8_isAs {x0 : Nat} {x1 : Nat} {M : Mem} {K : RT} (hW : Wf M) (hx0 : (Sh x0).1 = 5) (hx1 : (Sh x1).1 = 5) (h : ∀ {G : Nat → KT}, cloX8_isAs G K wT → (¬ (gI M x0 0) = (gI M x1 0) → K (some (.int (0 : Int32))) M) ∧ ((gI M x0 0) = (gI M x1 0) → (((gI M x0 1) = (gI M x1 1) → G 26 [some (.ref x0), some (.ref x1), some (.int (0 : Int32))] [] M) ∧ (¬ (gI M x0 1) = (gI M x1 1) → K (some (.int (0 : Int32))) M)))) : sp_X8_isAs [.ref x0, .ref x1] M K := by
  refine ⟨Nat.le_of_ble_eq_true rfl, fun G hc => ?_⟩
  rw [hW.1] at hc
  exact eX8_isAs hc hW hx0 hx1 (h hc)
set_option maxRecDepth 100000 in
theorem eX10_copyFrom {G : Nat → KT} {K : RT} (hc : cloX10_copyFrom G K wT) {x0 : Nat} {x1 : Nat} {M : Mem} (hW : Wf M) (hx0 : (Sh x0).1 = 7) (hx1 : (Sh x1).1 = 7) (h : G 2 [some (.ref x0), some (.ref x1), some (.int (0 : Int32))] [] M) : G 0 [some (.ref x0), some (.ref x1), none] [] M :=
  (hc.1 _ _ _ (i_ic (i_istore (Nat.le_of_ble_eq_true rfl) h)))
set_option maxRecDepth 100000 in
theorem eX10_copyFrom_2 {G : Nat → KT} {K : RT} (hc : cloX10_copyFrom G K wT) {x0 : Nat} {x1 : Nat} {x2 : Int32} {M : Mem} (hW : Wf M) (hx0 : (Sh x0).1 = 7) (hx1 : (Sh x1).1 = 7) (h : ((8 : Int32) ≤ x2 → K none (bL (bI M (x0 + 3) (va_cpy (gI M (x1 + 3)) (gI M (x0 + 3)) 0 0 4)) (x0 + 4) (va_cpy (gL (bI M (x0 + 3) (va_cpy (gI M (x1 + 3)) (gI M (x0 + 3)) 0 0 4)) (x1 + 4)) (gL (bI M (x0 + 3) (va_cpy (gI M (x1 + 3)) (gI M (x0 + 3)) 0 0 4)) (x0 + 4)) 0 0 8))) ∧ (¬ (8 : Int32) ≤ x2 → ((vp_in x2 8) ∧ ((vp_in x2 8) ∧ ((q_X8_copyFrom (x0 + 5 + 4 * (x2).toNatClampNeg) (x1 + 5 + 4 * (x2).toNatClampNeg) M) ∧ ((vp_in x2 8) ∧ ((vp_in x2 8) ∧ ((q_X8_copyFrom (x0 + 7 + 4 * (x2).toNatClampNeg) (x1 + 7 + 4 * (x2).toNatClampNeg) (m_X8_copyFrom (x0 + 5 + 4 * (x2).toNatClampNeg) (x1 + 5 + 4 * (x2).toNatClampNeg) M)) ∧ G 2 [some (.ref x0), some (.ref x1), some (.int (x2 + (1 : Int32)))] [] (m_X8_copyFrom (x0 + 7 + 4 * (x2).toNatClampNeg) (x1 + 7 + 4 * (x2).toNatClampNeg) (m_X8_copyFrom (x0 + 5 + 4 * (x2).toNatClampNeg) (x1 + 5 + 4 * (x2).toNatClampNeg) M)))))))))) : G 2 [some (.ref x0), some (.ref x1), some (.int x2)] [] M :=
  (hc.2.1 _ _ _ (i_iload rfl (i_ic (i_icmp_ge (fun q1169 => (hc.2.2.2 _ _ _ (i_aload rfl (i_getR (okS hW hx1) (nvSt2 hW hx1) (i_ic (i_aload rfl (i_getR (okS hW hx0) (nvSt2 hW hx0) (i_ic (i_ic (i_copyI hW (Sst hx1).2.2.1 (Sst hx0).2.2.1 (Nat.le_of_ble_eq_true rfl) (by decide) (i_aload rfl (i_getR (okS hW hx1) (nvSt3 hW hx1) (i_ic (i_aload rfl (i_getR (okS hW hx0) (nvSt3 hW hx0) (i_ic (i_ic (i_copyL hW (Sst hx1).2.2.2 (Sst hx0).2.2.2 (Nat.le_of_ble_eq_true rfl) (by decide) (i_vret hW.1 (h.1 q1169)))))))))))))))))))) (fun q1169 => (hc.2.2.1 _ _ _ (i_aload rfl (i_getR (okS hW hx0) (nvSt0 hW hx0) (i_iload rfl (i_aald hW (Sst hx0).1 (h.2 q1169).1 (nvReg hW hx0 (vp_lt (h.2 q1169).1)) (i_aload rfl (i_getR (okS hW hx1) (nvSt0 hW hx1) (i_iload rfl (i_aald hW (Sst hx1).1 (h.2 q1169).2.1 (nvReg hW hx1 (vp_lt (h.2 q1169).2.1)) (i_callV2 (Nat.le_of_ble_eq_true rfl) (okS hW (SstR hx0 (vp_lt (h.2 q1169).1))) (c_X8_copyFrom hW (SstR hx0 (vp_lt (h.2 q1169).1)) (SstR hx1 (vp_lt (h.2 q1169).2.1)) (h.2 q1169).2.2.1 (i_rN (i_aload rfl (i_getR (okS (Wf_m_X8_copyFrom (M := M) (x0 + 5 + 4 * (x2).toNatClampNeg) (x1 + 5 + 4 * (x2).toNatClampNeg) hW) hx0) (nvSt1 (Wf_m_X8_copyFrom (M := M) (x0 + 5 + 4 * (x2).toNatClampNeg) (x1 + 5 + 4 * (x2).toNatClampNeg) hW) hx0) (i_iload rfl (i_aald (Wf_m_X8_copyFrom (M := M) (x0 + 5 + 4 * (x2).toNatClampNeg) (x1 + 5 + 4 * (x2).toNatClampNeg) hW) (Sst hx0).2.1 (h.2 q1169).2.2.2.1 (nvArr (Wf_m_X8_copyFrom (M := M) (x0 + 5 + 4 * (x2).toNatClampNeg) (x1 + 5 + 4 * (x2).toNatClampNeg) hW) hx0 (vp_lt (h.2 q1169).2.2.2.1)) (i_aload rfl (i_getR (okS (Wf_m_X8_copyFrom (M := M) (x0 + 5 + 4 * (x2).toNatClampNeg) (x1 + 5 + 4 * (x2).toNatClampNeg) hW) hx1) (nvSt1 (Wf_m_X8_copyFrom (M := M) (x0 + 5 + 4 * (x2).toNatClampNeg) (x1 + 5 + 4 * (x2).toNatClampNeg) hW) hx1) (i_iload rfl (i_aald (Wf_m_X8_copyFrom (M := M) (x0 + 5 + 4 * (x2).toNatClampNeg) (x1 + 5 + 4 * (x2).toNatClampNeg) hW) (Sst hx1).2.1 (h.2 q1169).2.2.2.2.1 (nvArr (Wf_m_X8_copyFrom (M := M) (x0 + 5 + 4 * (x2).toNatClampNeg) (x1 + 5 + 4 * (x2).toNatClampNeg) hW) hx1 (vp_lt (h.2 q1169).2.2.2.2.1)) (i_callV2 (Nat.le_of_ble_eq_true rfl) (okS (Wf_m_X8_copyFrom (M := M) (x0 + 5 + 4 * (x2).toNatClampNeg) (x1 + 5 + 4 * (x2).toNatClampNeg) hW) (SstA hx0 (vp_lt (h.2 q1169).2.2.2.1))) (c_X8_copyFrom (Wf_m_X8_copyFrom (M := M) (x0 + 5 + 4 * (x2).toNatClampNeg) (x1 + 5 + 4 * (x2).toNatClampNeg) hW) (SstA hx0 (vp_lt (h.2 q1169).2.2.2.1)) (SstA hx1 (vp_lt (h.2 q1169).2.2.2.2.1)) (h.2 q1169).2.2.2.2.2.1 (i_rN (i_iinc rfl (h.2 q1169).2.2.2.2.2.2)))))))))))))))))))))))))))))
theorem wX10_copyFrom {x0 : Nat} {x1 : Nat} {M : Mem} {K : RT} (hW : Wf M) (hx0 : (Sh x0).1 = 7) (hx1 : (Sh x1).1 = 7) (h : ∀ {G : Nat → KT}, cloX10_copyFrom G K wT → G 2 [some (.ref x0), some (.ref x1), some (.int (0 : Int32))] [] M) : sp_X10_copyFrom [.ref x0, .ref x1] M K := by
  refine ⟨Nat.le_of_ble_eq_true rfl, fun G hc => ?_⟩
  rw [hW.1] at hc
  exact eX10_copyFrom hc hW hx0 hx1 (h hc)
def RX10_clearRegisters_23_3 (G : Nat → KT) (K : RT) : KT := (w_vret wT K)
set_option maxRecDepth 100000 in
theorem eX10_clearRegisters {G : Nat → KT} {K : RT} (hc : cloX10_clearRegisters G K wT) {x0 : Nat} {M : Mem} (hW : Wf M) (hx0 : (Sh x0).1 = 7) (h : G 2 [some (.ref x0), some (.int (0 : Int32))] [] M) : G 0 [some (.ref x0), none] [] M :=
  (hc.1 _ _ _ (i_ic (i_istore (Nat.le_of_ble_eq_true rfl) h)))
set_option maxRecDepth 100000 in
theorem eX10_clearRegisters_2 {G : Nat → KT} {K : RT} (hc : cloX10_clearRegisters G K wT) {x0 : Nat} {x1 : Int32} {M : Mem} (hW : Wf M) (hx0 : (Sh x0).1 = 7) (h : ((8 : Int32) ≤ x1 → sp_J7_fill_53178 [.ref (x0 + 3), .int (0 : Int32)] M (fun v M' => RX10_clearRegisters_23_3 G K [some (.ref x0), some (.int x1)] (v.toList ++ []) M')) ∧ (¬ (8 : Int32) ≤ x1 → ((vp_in x1 8) ∧ G 2 [some (.ref x0), some (.int (x1 + (1 : Int32)))] [] (m_X8_unmake (x0 + 5 + 4 * (x1).toNatClampNeg) M)))) : G 2 [some (.ref x0), some (.int x1)] [] M :=
  (hc.2.1 _ _ _ (i_iload rfl (i_ic (i_icmp_ge (fun q249 => (hc.2.2.2 _ _ _ (i_aload rfl (i_getR (okS hW hx0) (nvSt2 hW hx0) (i_ic (i_callS2 (Nat.le_of_ble_eq_true rfl) (h.1 q249))))))) (fun q249 => (hc.2.2.1 _ _ _ (i_aload rfl (i_getR (okS hW hx0) (nvSt0 hW hx0) (i_iload rfl (i_aald hW (Sst hx0).1 (h.2 q249).1 (nvReg hW hx0 (vp_lt (h.2 q249).1)) (i_callV1 (Nat.le_of_ble_eq_true rfl) (okS hW (SstR hx0 (vp_lt (h.2 q249).1))) (c_X8_unmake hW (SstR hx0 (vp_lt (h.2 q249).1)) (i_rN (i_iinc rfl (h.2 q249).2))))))))))))))
set_option maxRecDepth 100000 in
theorem rX10_clearRegisters_23_3 {G : Nat → KT} {K : RT} (hc : cloX10_clearRegisters G K wT) {o0 : Option Value} {o1 : Option Value} {M : Mem} (hW : Wf M) (h : K none M) : RX10_clearRegisters_23_3 G K [o0, o1] (Option.toList none ++ []) M :=
  (i_rN (i_vret hW.1 h))
theorem wX10_clearRegisters {x0 : Nat} {M : Mem} {K : RT} (hW : Wf M) (hx0 : (Sh x0).1 = 7) (h : ∀ {G : Nat → KT}, cloX10_clearRegisters G K wT → G 2 [some (.ref x0), some (.int (0 : Int32))] [] M) : sp_X10_clearRegisters [.ref x0] M K := by
  refine ⟨Nat.le_of_ble_eq_true rfl, fun G hc => ?_⟩
  rw [hW.1] at hc
  exact eX10_clearRegisters hc hW hx0 (h hc)
set_option maxRecDepth 100000 in
theorem eX10_elements {G : Nat → KT} {K : RT} (hc : cloX10_elements G K wT) {x0 : Nat} {M : Mem} (hW : Wf M) (hx0 : (Sh x0).1 = 7) (h : G 4 [some (.ref x0), some (.int (0 : Int32)), some (.int (0 : Int32))] [] M) : G 0 [some (.ref x0), none, none] [] M :=
  (hc.1 _ _ _ (i_ic (i_istore (Nat.le_of_ble_eq_true rfl) (i_ic (i_istore (Nat.le_of_ble_eq_true rfl) h)))))
set_option maxRecDepth 100000 in
theorem eX10_elements_4 {G : Nat → KT} {K : RT} (hc : cloX10_elements G K wT) {x0 : Nat} {x1 : Int32} {x2 : Int32} {M : Mem} (hW : Wf M) (hx0 : (Sh x0).1 = 7) (h : ((8 : Int32) ≤ x2 → K (some (.int x1)) M) ∧ (¬ (8 : Int32) ≤ x2 → ((vp_in x2 8) ∧ (∀ y1 : Int32, y1 = (x1 + (gI M (x0 + 7 + 4 * (x2).toNatClampNeg) 1)) → G 4 [some (.ref x0), some (.int y1), some (.int (x2 + (1 : Int32)))] [] M)))) : G 4 [some (.ref x0), some (.int x1), some (.int x2)] [] M :=
  (hc.2.1 _ _ _ (i_iload rfl (i_ic (i_icmp_ge (fun q1103 => (hc.2.2.2 _ _ _ (i_iload rfl (i_iret hW.1 (h.1 q1103))))) (fun q1103 => (hc.2.2.1 _ _ _ (i_iload rfl (i_aload rfl (i_getR (okS hW hx0) (nvSt1 hW hx0) (i_iload rfl (i_aald hW (Sst hx0).2.1 (h.2 q1103).1 (nvArr hW hx0 (vp_lt (h.2 q1103).1)) (i_getI (okS hW (SstA hx0 (vp_lt (h.2 q1103).1))) (i_iadd (i_istore (Nat.le_of_ble_eq_true rfl) (i_iinc rfl ((h.2 q1103).2 _ rfl))))))))))))))))
theorem wX10_elements {x0 : Nat} {M : Mem} {K : RT} (hW : Wf M) (hx0 : (Sh x0).1 = 7) (h : ∀ {G : Nat → KT}, cloX10_elements G K wT → G 4 [some (.ref x0), some (.int (0 : Int32)), some (.int (0 : Int32))] [] M) : sp_X10_elements [.ref x0] M K := by
  refine ⟨Nat.le_of_ble_eq_true rfl, fun G hc => ?_⟩
  rw [hW.1] at hc
  exact eX10_elements hc hW hx0 (h hc)
set_option maxRecDepth 100000 in
theorem eX10_firstFreeArray {G : Nat → KT} {K : RT} (hc : cloX10_firstFreeArray G K wT) {x0 : Nat} {M : Mem} (hW : Wf M) (hx0 : (Sh x0).1 = 7) (h : G 2 [some (.ref x0), some (.int (0 : Int32))] [] M) : G 0 [some (.ref x0), none] [] M :=
  (hc.1 _ _ _ (i_ic (i_istore (Nat.le_of_ble_eq_true rfl) h)))
set_option maxRecDepth 100000 in
theorem eX10_firstFreeArray_2 {G : Nat → KT} {K : RT} (hc : cloX10_firstFreeArray G K wT) {x0 : Nat} {x1 : Int32} {M : Mem} (hW : Wf M) (hx0 : (Sh x0).1 = 7) (h : ((8 : Int32) ≤ x1 → K (some (.int (-1 : Int32))) M) ∧ (¬ (8 : Int32) ≤ x1 → ((vp_in x1 8) ∧ ((¬ (gI M (x0 + 7 + 4 * (x1).toNatClampNeg) 0) = (-1 : Int32) → G 2 [some (.ref x0), some (.int (x1 + (1 : Int32)))] [] M) ∧ ((gI M (x0 + 7 + 4 * (x1).toNatClampNeg) 0) = (-1 : Int32) → K (some (.int x1)) M))))) : G 2 [some (.ref x0), some (.int x1)] [] M :=
  (hc.2.1 _ _ _ (i_iload rfl (i_ic (i_icmp_ge (fun q1100 => (hc.2.2.2.2.2 _ _ _ (i_ic (i_iret hW.1 (h.1 q1100))))) (fun q1100 => (hc.2.2.1 _ _ _ (i_aload rfl (i_getR (okS hW hx0) (nvSt1 hW hx0) (i_iload rfl (i_aald hW (Sst hx0).2.1 (h.2 q1100).1 (nvArr hW hx0 (vp_lt (h.2 q1100).1)) (i_getI (okS hW (SstA hx0 (vp_lt (h.2 q1100).1))) (i_ic (i_icmp_ne (fun q1101 => (hc.2.2.2.2.1 _ _ _ (i_iinc rfl ((h.2 q1100).2.1 q1101)))) (fun q1101 => (hc.2.2.2.1 _ _ _ (i_iload rfl (i_iret hW.1 ((h.2 q1100).2.2 q1101))))))))))))))))))
theorem wX10_firstFreeArray {x0 : Nat} {M : Mem} {K : RT} (hW : Wf M) (hx0 : (Sh x0).1 = 7) (h : ∀ {G : Nat → KT}, cloX10_firstFreeArray G K wT → G 2 [some (.ref x0), some (.int (0 : Int32))] [] M) : sp_X10_firstFreeArray [.ref x0] M K := by
  refine ⟨Nat.le_of_ble_eq_true rfl, fun G hc => ?_⟩
  rw [hW.1] at hc
  exact eX10_firstFreeArray hc hW hx0 (h hc)
def RX10_areAlikeR_8_6 (G : Nat → KT) (K : RT) : KT := (w_if_ne (G 22) (G 20))
set_option maxRecDepth 100000 in
theorem eX10_areAlikeR {G : Nat → KT} {K : RT} (hc : cloX10_areAlike G K wT) {a0 : Nat} {a1 : Nat} {M : Mem} (hW : Wf M) (ha0 : (Sh a0).1 = 7) (ha1 : (Sh a1).1 = 7) (h : G 2 [some (.ref (a0 + 1)), some (.ref (a1 + 1)), some (.int (0 : Int32))] [] M) : G 0 [some (.ref (a0 + 1)), some (.ref (a1 + 1)), none] [] M :=
  (hc.1 _ _ _ (i_ic (i_istore (Nat.le_of_ble_eq_true rfl) h)))
set_option maxRecDepth 100000 in
theorem eX10_areAlikeR_2 {G : Nat → KT} {K : RT} (hc : cloX10_areAlike G K wT) {a0 : Nat} {a1 : Nat} {x2 : Int32} {M : Mem} (hW : Wf M) (ha0 : (Sh a0).1 = 7) (ha1 : (Sh a1).1 = 7) (h : ((8 : Int32) ≤ x2 → K (some (.int (1 : Int32))) M) ∧ (¬ (8 : Int32) ≤ x2 → ((vp_in x2 8) ∧ ((vp_in x2 8) ∧ sp_X8_isAs [.ref (a0 + 5 + 4 * (x2).toNatClampNeg), .ref (a1 + 5 + 4 * (x2).toNatClampNeg)] M (fun v M' => RX10_areAlikeR_8_6 G K [some (.ref (a0 + 1)), some (.ref (a1 + 1)), some (.int x2)] (v.toList ++ []) M'))))) : G 2 [some (.ref (a0 + 1)), some (.ref (a1 + 1)), some (.int x2)] [] M :=
  (hc.2.1 _ _ _ (i_iload rfl (i_ic (i_icmp_ge (fun q2487 => (hc.2.2.2.2.2 _ _ _ (i_ic (i_zret (by decide) hW.1 (h.1 q2487))))) (fun q2487 => (hc.2.2.1 _ _ _ (i_aload rfl (i_iload rfl (i_aald hW (Sst ha0).1 (h.2 q2487).1 (nvReg hW ha0 (vp_lt (h.2 q2487).1)) (i_aload rfl (i_iload rfl (i_aald hW (Sst ha1).1 (h.2 q2487).2.1 (nvReg hW ha1 (vp_lt (h.2 q2487).2.1)) (i_callV2 (Nat.le_of_ble_eq_true rfl) (okS hW (SstR ha0 (vp_lt (h.2 q2487).1))) (h.2 q2487).2.2)))))))))))))
set_option maxRecDepth 100000 in
theorem rX10_areAlikeR_8_6 {G : Nat → KT} {K : RT} (hc : cloX10_areAlike G K wT) {x0 : Nat} {x1 : Nat} {x2 : Int32} {y : Int32} {M : Mem} (hW : Wf M) (hx0 : Sh x0 = (16, 8)) (hx1 : Sh x1 = (16, 8)) (h : (¬ y = 0 → G 2 [some (.ref x0), some (.ref x1), some (.int (x2 + (1 : Int32)))] [] M) ∧ (y = 0 → K (some (.int (0 : Int32))) M)) : RX10_areAlikeR_8_6 G K [some (.ref x0), some (.ref x1), some (.int x2)] (Option.toList (some (.int y)) ++ []) M :=
  (i_rI (i_if_ne (fun q2488 => (hc.2.2.2.2.1 _ _ _ (i_iinc rfl (h.1 q2488)))) (fun q2488 => (hc.2.2.2.1 _ _ _ (i_ic (i_zret (by decide) hW.1 (h.2 q2488)))))))
theorem wX10_areAlikeR {a0 : Nat} {a1 : Nat} {M : Mem} {K : RT} (hW : Wf M) (ha0 : (Sh a0).1 = 7) (ha1 : (Sh a1).1 = 7) (h : ∀ {G : Nat → KT}, cloX10_areAlike G K wT → G 2 [some (.ref (a0 + 1)), some (.ref (a1 + 1)), some (.int (0 : Int32))] [] M) : sp_X10_areAlike [.ref (a0 + 1), .ref (a1 + 1)] M K := by
  refine ⟨Nat.le_of_ble_eq_true rfl, fun G hc => ?_⟩
  rw [hW.1] at hc
  exact eX10_areAlikeR hc hW ha0 ha1 (h hc)
def RX10_areAlikeA_8_6 (G : Nat → KT) (K : RT) : KT := (w_if_ne (G 22) (G 20))
set_option maxRecDepth 100000 in
theorem eX10_areAlikeA {G : Nat → KT} {K : RT} (hc : cloX10_areAlike G K wT) {a0 : Nat} {a1 : Nat} {M : Mem} (hW : Wf M) (ha0 : (Sh a0).1 = 7) (ha1 : (Sh a1).1 = 7) (h : G 2 [some (.ref (a0 + 2)), some (.ref (a1 + 2)), some (.int (0 : Int32))] [] M) : G 0 [some (.ref (a0 + 2)), some (.ref (a1 + 2)), none] [] M :=
  (hc.1 _ _ _ (i_ic (i_istore (Nat.le_of_ble_eq_true rfl) h)))
set_option maxRecDepth 100000 in
theorem eX10_areAlikeA_2 {G : Nat → KT} {K : RT} (hc : cloX10_areAlike G K wT) {a0 : Nat} {a1 : Nat} {x2 : Int32} {M : Mem} (hW : Wf M) (ha0 : (Sh a0).1 = 7) (ha1 : (Sh a1).1 = 7) (h : ((8 : Int32) ≤ x2 → K (some (.int (1 : Int32))) M) ∧ (¬ (8 : Int32) ≤ x2 → ((vp_in x2 8) ∧ ((vp_in x2 8) ∧ sp_X8_isAs [.ref (a0 + 7 + 4 * (x2).toNatClampNeg), .ref (a1 + 7 + 4 * (x2).toNatClampNeg)] M (fun v M' => RX10_areAlikeA_8_6 G K [some (.ref (a0 + 2)), some (.ref (a1 + 2)), some (.int x2)] (v.toList ++ []) M'))))) : G 2 [some (.ref (a0 + 2)), some (.ref (a1 + 2)), some (.int x2)] [] M :=
  (hc.2.1 _ _ _ (i_iload rfl (i_ic (i_icmp_ge (fun q2491 => (hc.2.2.2.2.2 _ _ _ (i_ic (i_zret (by decide) hW.1 (h.1 q2491))))) (fun q2491 => (hc.2.2.1 _ _ _ (i_aload rfl (i_iload rfl (i_aald hW (Sst ha0).2.1 (h.2 q2491).1 (nvArr hW ha0 (vp_lt (h.2 q2491).1)) (i_aload rfl (i_iload rfl (i_aald hW (Sst ha1).2.1 (h.2 q2491).2.1 (nvArr hW ha1 (vp_lt (h.2 q2491).2.1)) (i_callV2 (Nat.le_of_ble_eq_true rfl) (okS hW (SstA ha0 (vp_lt (h.2 q2491).1))) (h.2 q2491).2.2)))))))))))))
set_option maxRecDepth 100000 in
theorem rX10_areAlikeA_8_6 {G : Nat → KT} {K : RT} (hc : cloX10_areAlike G K wT) {x0 : Nat} {x1 : Nat} {x2 : Int32} {y : Int32} {M : Mem} (hW : Wf M) (hx0 : Sh x0 = (16, 8)) (hx1 : Sh x1 = (16, 8)) (h : (¬ y = 0 → G 2 [some (.ref x0), some (.ref x1), some (.int (x2 + (1 : Int32)))] [] M) ∧ (y = 0 → K (some (.int (0 : Int32))) M)) : RX10_areAlikeA_8_6 G K [some (.ref x0), some (.ref x1), some (.int x2)] (Option.toList (some (.int y)) ++ []) M :=
  (i_rI (i_if_ne (fun q2492 => (hc.2.2.2.2.1 _ _ _ (i_iinc rfl (h.1 q2492)))) (fun q2492 => (hc.2.2.2.1 _ _ _ (i_ic (i_zret (by decide) hW.1 (h.2 q2492)))))))
theorem wX10_areAlikeA {a0 : Nat} {a1 : Nat} {M : Mem} {K : RT} (hW : Wf M) (ha0 : (Sh a0).1 = 7) (ha1 : (Sh a1).1 = 7) (h : ∀ {G : Nat → KT}, cloX10_areAlike G K wT → G 2 [some (.ref (a0 + 2)), some (.ref (a1 + 2)), some (.int (0 : Int32))] [] M) : sp_X10_areAlike [.ref (a0 + 2), .ref (a1 + 2)] M K := by
  refine ⟨Nat.le_of_ble_eq_true rfl, fun G hc => ?_⟩
  rw [hW.1] at hc
  exact eX10_areAlikeA hc hW ha0 ha1 (h hc)
def RX10_firstDifference_0_4 (G : Nat → KT) (K : RT) : KT := (w_if_ne (G 16) (G 14))
def RX10_firstDifference_78_4 (G : Nat → KT) (K : RT) : KT := (w_if_eq (G 96) (G 92))
set_option maxRecDepth 100000 in
theorem eX10_firstDifference {G : Nat → KT} {K : RT} (hc : cloX10_firstDifference G K wT) {x0 : Nat} {x1 : Nat} {M : Mem} (hW : Wf M) (hx0 : (Sh x0).1 = 7) (hx1 : (Sh x1).1 = 7) (h : sp_X10_areAlike [.ref (x0 + 1), .ref (x1 + 1)] M (fun v M' => RX10_firstDifference_0_4 G K [some (.ref x0), some (.ref x1), none] (v.toList ++ []) M')) : G 0 [some (.ref x0), some (.ref x1), none] [] M :=
  (hc.1 _ _ _ (i_aload rfl (i_getR (okS hW hx0) (nvSt0 hW hx0) (i_aload rfl (i_getR (okS hW hx1) (nvSt0 hW hx1) (i_callS2 (Nat.le_of_ble_eq_true rfl) h))))))
set_option maxRecDepth 100000 in
theorem eX10_firstDifference_18 {G : Nat → KT} {K : RT} (hc : cloX10_firstDifference G K wT) {x0 : Nat} {x1 : Nat} {x2 : Int32} {M : Mem} (hW : Wf M) (hx0 : (Sh x0).1 = 7) (hx1 : (Sh x1).1 = 7) (h : ((4 : Int32) ≤ x2 → G 48 [some (.ref x0), some (.ref x1), some (.int (0 : Int32))] [] M) ∧ (¬ (4 : Int32) ≤ x2 → ((vp_in x2 4) ∧ ((vp_in x2 4) ∧ (((gI M (x0 + 3) (x2).toNatClampNeg) = (gI M (x1 + 3) (x2).toNatClampNeg) → G 18 [some (.ref x0), some (.ref x1), some (.int (x2 + (1 : Int32)))] [] M) ∧ (¬ (gI M (x0 + 3) (x2).toNatClampNeg) = (gI M (x1 + 3) (x2).toNatClampNeg) → K (some (.int (2 : Int32))) M)))))) : G 18 [some (.ref x0), some (.ref x1), some (.int x2)] [] M :=
  (hc.2.2.2.1 _ _ _ (i_iload rfl (i_ic (i_icmp_ge (fun q1196 => (hc.2.2.2.2.2.2.2.1 _ _ _ (i_ic (i_istore (Nat.le_of_ble_eq_true rfl) (h.1 q1196))))) (fun q1196 => (hc.2.2.2.2.1 _ _ _ (i_aload rfl (i_getR (okS hW hx0) (nvSt2 hW hx0) (i_iload rfl (i_iald hW (Sst hx0).2.2.1 (h.2 q1196).1 (i_aload rfl (i_getR (okS hW hx1) (nvSt2 hW hx1) (i_iload rfl (i_iald hW (Sst hx1).2.2.1 (h.2 q1196).2.1 (i_icmp_eq (fun q1197 => (hc.2.2.2.2.2.2.1 _ _ _ (i_iinc rfl ((h.2 q1196).2.2.1 q1197)))) (fun q1197 => (hc.2.2.2.2.2.1 _ _ _ (i_ic (i_iret hW.1 ((h.2 q1196).2.2.2 q1197))))))))))))))))))))
set_option maxRecDepth 100000 in
theorem eX10_firstDifference_48 {G : Nat → KT} {K : RT} (hc : cloX10_firstDifference G K wT) {x0 : Nat} {x1 : Nat} {x2 : Int32} {M : Mem} (hW : Wf M) (hx0 : (Sh x0).1 = 7) (hx1 : (Sh x1).1 = 7) (h : ((8 : Int32) ≤ x2 → sp_X10_areAlike [.ref (x0 + 2), .ref (x1 + 2)] M (fun v M' => RX10_firstDifference_78_4 G K [some (.ref x0), some (.ref x1), some (.int x2)] (v.toList ++ []) M')) ∧ (¬ (8 : Int32) ≤ x2 → ((vp_in x2 8) ∧ ((vp_in x2 8) ∧ (((gL M (x0 + 4) (x2).toNatClampNeg) = (gL M (x1 + 4) (x2).toNatClampNeg) → G 48 [some (.ref x0), some (.ref x1), some (.int (x2 + (1 : Int32)))] [] M) ∧ (¬ (gL M (x0 + 4) (x2).toNatClampNeg) = (gL M (x1 + 4) (x2).toNatClampNeg) → K (some (.int (3 : Int32))) M)))))) : G 48 [some (.ref x0), some (.ref x1), some (.int x2)] [] M :=
  (hc.2.2.2.2.2.2.2.2.1 _ _ _ (i_iload rfl (i_ic (i_icmp_ge (fun q1198 => (hc.2.2.2.2.2.2.2.2.2.2.2.2.1 _ _ _ (i_aload rfl (i_getR (okS hW hx0) (nvSt1 hW hx0) (i_aload rfl (i_getR (okS hW hx1) (nvSt1 hW hx1) (i_callS2 (Nat.le_of_ble_eq_true rfl) (h.1 q1198)))))))) (fun q1198 => (hc.2.2.2.2.2.2.2.2.2.1 _ _ _ (i_aload rfl (i_getR (okS hW hx0) (nvSt3 hW hx0) (i_iload rfl (i_lald hW (Sst hx0).2.2.2 (h.2 q1198).1 (i_aload rfl (i_getR (okS hW hx1) (nvSt3 hW hx1) (i_iload rfl (i_lald hW (Sst hx1).2.2.2 (h.2 q1198).2.1 (i_lcmp (i_lcmp_eq (fun q1199 => (hc.2.2.2.2.2.2.2.2.2.2.2.1 _ _ _ (i_iinc rfl ((h.2 q1198).2.2.1 q1199)))) (fun q1199 => (hc.2.2.2.2.2.2.2.2.2.2.1 _ _ _ (i_ic (i_iret hW.1 ((h.2 q1198).2.2.2 q1199)))))))))))))))))))))
set_option maxRecDepth 100000 in
theorem rX10_firstDifference_0_4 {G : Nat → KT} {K : RT} (hc : cloX10_firstDifference G K wT) {x0 : Nat} {x1 : Nat} {o2 : Option Value} {y : Int32} {M : Mem} (hW : Wf M) (hx0 : (Sh x0).1 = 7) (hx1 : (Sh x1).1 = 7) (h : (¬ y = 0 → G 18 [some (.ref x0), some (.ref x1), some (.int (0 : Int32))] [] M) ∧ (y = 0 → K (some (.int (1 : Int32))) M)) : RX10_firstDifference_0_4 G K [some (.ref x0), some (.ref x1), o2] (Option.toList (some (.int y)) ++ []) M :=
  (i_rI (i_if_ne (fun q1200 => (hc.2.2.1 _ _ _ (i_ic (i_istore (Nat.le_of_ble_eq_true rfl) (h.1 q1200))))) (fun q1200 => (hc.2.1 _ _ _ (i_ic (i_iret hW.1 (h.2 q1200)))))))
set_option maxRecDepth 100000 in
theorem rX10_firstDifference_78_4 {G : Nat → KT} {K : RT} (hc : cloX10_firstDifference G K wT) {o0 : Option Value} {o1 : Option Value} {o2 : Option Value} {y : Int32} {M : Mem} (hW : Wf M) (h : (y = 0 → K (some (.int (4 : Int32))) M) ∧ (¬ y = 0 → K (some (.int (0 : Int32))) M)) : RX10_firstDifference_78_4 G K [o0, o1, o2] (Option.toList (some (.int y)) ++ []) M :=
  (i_rI (i_if_eq (fun q1201 => (hc.2.2.2.2.2.2.2.2.2.2.2.2.2.2.1 _ _ _ (i_ic (hc.2.2.2.2.2.2.2.2.2.2.2.2.2.2.2 _ _ _ (i_iret hW.1 (h.1 q1201)))))) (fun q1201 => (hc.2.2.2.2.2.2.2.2.2.2.2.2.2.1 _ _ _ (i_ic (hc.2.2.2.2.2.2.2.2.2.2.2.2.2.2.2 _ _ _ (i_iret hW.1 (h.2 q1201))))))))
theorem wX10_firstDifference {x0 : Nat} {x1 : Nat} {M : Mem} {K : RT} (hW : Wf M) (hx0 : (Sh x0).1 = 7) (hx1 : (Sh x1).1 = 7) (h : ∀ {G : Nat → KT}, cloX10_firstDifference G K wT → sp_X10_areAlike [.ref (x0 + 1), .ref (x1 + 1)] M (fun v M' => RX10_firstDifference_0_4 G K [some (.ref x0), some (.ref x1), none] (v.toList ++ []) M')) : sp_X10_firstDifference [.ref x0, .ref x1] M K := by
  refine ⟨Nat.le_of_ble_eq_true rfl, fun G hc => ?_⟩
  rw [hW.1] at hc
  exact eX10_firstDifference hc hW hx0 hx1 (h hc)
end C03
