section C07
set_option maxRecDepth 100000 in
theorem eX1_forget {G : Nat → KT} {K : RT} (hc : cloX1_forget G K wT) {M : Mem} (hW : Wf M) (h : K none (uI M 449 3 (0 : Int32))) : G 0 [some (.ref 449)] [] M :=
  (hc _ _ _ (i_aload rfl (i_ic (i_putZ (okS hW Sk_449) (by decide) (i_vret hW.1 h)))))
theorem wX1_forget {M : Mem} {K : RT} (hW : Wf M) (h : K none (uI M 449 3 (0 : Int32))) : sp_X1_forget [.ref 449] M K := by
  refine ⟨Nat.le_of_ble_eq_true rfl, fun G hc => ?_⟩
  rw [hW.1] at hc
  exact eX1_forget hc hW  h
noncomputable def m_X1_forget (M : Mem) : Mem := (uI M 449 3 (0 : Int32))
theorem c_X1_forget {M : Mem} {K : RT} (hW : Wf M) (h : K none (m_X1_forget  M)) : sp_X1_forget [.ref 449] M K := by
  refine wX1_forget hW  ?_
  unfold m_X1_forget at h
  first | exact h | contradiction
theorem Wf_m_X1_forget {M : Mem} (hW : Wf M) : Wf (m_X1_forget  M) := by
  unfold m_X1_forget
  exact hW
set_option maxRecDepth 100000 in
theorem eX1_isReached {G : Nat → KT} {K : RT} (hc : cloX1_isReached G K wT) {x1 : Int32} {M : Mem} (hW : Wf M) (h : (vp_in x1 100) ∧ (((gI M 451 (x1).toNatClampNeg) = 0 ∨ (gI M 451 (x1).toNatClampNeg) = 1) ∧ K (some (.int (gI M 451 (x1).toNatClampNeg))) M)) : G 0 [some (.ref 449), some (.int x1)] [] M :=
  (hc _ _ _ (i_aload rfl (i_getR (okS hW Sk_449) (nv_449_1 hW) (i_iload rfl (i_zald hW Ss_451 h.1 (i_zret h.2.1 hW.1 h.2.2))))))
theorem wX1_isReached {x1 : Int32} {M : Mem} {K : RT} (hW : Wf M) (h : (vp_in x1 100) ∧ (((gI M 451 (x1).toNatClampNeg) = 0 ∨ (gI M 451 (x1).toNatClampNeg) = 1) ∧ K (some (.int (gI M 451 (x1).toNatClampNeg))) M)) : sp_X1_isReached [.ref 449, .int x1] M K := by
  refine ⟨Nat.le_of_ble_eq_true rfl, fun G hc => ?_⟩
  rw [hW.1] at hc
  exact eX1_isReached hc hW  h
noncomputable def f_X1_isReached (x1 : Int32) (M : Mem) : Int32 := (gI M 451 (x1).toNatClampNeg)
def q_X1_isReached (x1 : Int32) (M : Mem) : Prop := ((vp_in x1 100) ∧ ((gI M 451 (x1).toNatClampNeg) = 0 ∨ (gI M 451 (x1).toNatClampNeg) = 1))
theorem c_X1_isReached {x1 : Int32} {M : Mem} {K : RT} (hW : Wf M) (hp : q_X1_isReached x1 M) (h : K (some (.int (f_X1_isReached x1 M))) M) : sp_X1_isReached [.ref 449, .int x1] M K := by
  refine wX1_isReached hW  ?_
  unfold f_X1_isReached at h
  unfold q_X1_isReached at hp
  refine ⟨hp.1, ?_⟩
  refine ⟨hp.2, ?_⟩
  first | exact h | contradiction
set_option maxRecDepth 100000 in
theorem eX12_isStop {G : Nat → KT} {K : RT} (hc : cloX12_isStop G K wT) {x1 : Int32} {M : Mem} (hW : Wf M) (h : (x1 < 0 → K (some (.int (0 : Int32))) M) ∧ (¬ x1 < 0 → (((100 : Int32) ≤ x1 → K (some (.int (0 : Int32))) M) ∧ (¬ (100 : Int32) ≤ x1 → ((vp_in x1 100) ∧ (((gI M 455 (x1).toNatClampNeg) = 0 → K (some (.int (0 : Int32))) M) ∧ (¬ (gI M 455 (x1).toNatClampNeg) = 0 → K (some (.int (1 : Int32))) M))))))) : G 0 [some (.ref 0), some (.int x1)] [] M :=
  (hc.1 _ _ _ (i_iload rfl (i_if_lt (fun q420 => (hc.2.2.2.2.1 _ _ _ (i_ic (hc.2.2.2.2.2 _ _ _ (i_zret (by decide) hW.1 (h.1 q420)))))) (fun q420 => (hc.2.1 _ _ _ (i_iload rfl (i_ic (i_icmp_ge (fun q421 => (hc.2.2.2.2.1 _ _ _ (i_ic (hc.2.2.2.2.2 _ _ _ (i_zret (by decide) hW.1 ((h.2 q420).1 q421)))))) (fun q421 => (hc.2.2.1 _ _ _ (i_aload rfl (i_getR (okS hW Sk_0) (nv_0_8 hW) (i_iload rfl (i_zald hW Ss_455 ((h.2 q420).2 q421).1 (i_if_eq (fun q422 => (hc.2.2.2.2.1 _ _ _ (i_ic (hc.2.2.2.2.2 _ _ _ (i_zret (by decide) hW.1 (((h.2 q420).2 q421).2.1 q422)))))) (fun q422 => (hc.2.2.2.1 _ _ _ (i_ic (hc.2.2.2.2.2 _ _ _ (i_zret (by decide) hW.1 (((h.2 q420).2 q421).2.2 q422)))))))))))))))))))))
theorem wX12_isStop {x1 : Int32} {M : Mem} {K : RT} (hW : Wf M) (h : (x1 < 0 → K (some (.int (0 : Int32))) M) ∧ (¬ x1 < 0 → (((100 : Int32) ≤ x1 → K (some (.int (0 : Int32))) M) ∧ (¬ (100 : Int32) ≤ x1 → ((vp_in x1 100) ∧ (((gI M 455 (x1).toNatClampNeg) = 0 → K (some (.int (0 : Int32))) M) ∧ (¬ (gI M 455 (x1).toNatClampNeg) = 0 → K (some (.int (1 : Int32))) M))))))) : sp_X12_isStop [.ref 0, .int x1] M K := by
  refine ⟨Nat.le_of_ble_eq_true rfl, fun G hc => ?_⟩
  rw [hW.1] at hc
  exact eX12_isStop hc hW  h
def P_X12_isStop (x1 : Int32) (M : Mem) : Prop := ((¬ x1 < 0) ∧ ((¬ (100 : Int32) ≤ x1) ∧ (¬ (gI M 455 (x1).toNatClampNeg) = 0)))
def q_X12_isStop (x1 : Int32) (M : Mem) : Prop := (¬ x1 < 0 → (¬ (100 : Int32) ≤ x1 → (vp_in x1 100)))
theorem c_X12_isStop {x1 : Int32} {M : Mem} {K : RT} (hW : Wf M) (hp : q_X12_isStop x1 M) (h : K (some (.int (pI (P_X12_isStop x1 M)))) M) : sp_X12_isStop [.ref 0, .int x1] M K := by
  refine wX12_isStop hW  ?_
  unfold P_X12_isStop at h
  unfold q_X12_isStop at hp
  refine ⟨fun q0 => ?_, fun q0 => ?_⟩
  · skip
    exact pI_goF h (by simp only [eq_true q0, not_true_eq_false, not_false_eq_true, true_and, false_and, and_true, and_false, true_or, or_true, false_or, or_false, iff_self])
  · have hq0 := hp q0
    refine ⟨fun q1 => ?_, fun q1 => ?_⟩
    · skip
      exact pI_goF h (by simp only [eq_false q0, eq_true q1, not_true_eq_false, not_false_eq_true, true_and, false_and, and_true, and_false, true_or, or_true, false_or, or_false, iff_self])
    · have hq1 := hq0 q1
      refine ⟨hq1, ?_⟩
      refine ⟨fun q2 => ?_, fun q2 => ?_⟩
      · skip
        exact pI_goF h (by simp only [eq_false q0, eq_false q1, eq_true q2, not_true_eq_false, not_false_eq_true, true_and, false_and, and_true, and_false, true_or, or_true, false_or, or_false, iff_self])
      · skip
        exact pI_goT h (by simp only [eq_false q0, eq_false q1, eq_false q2, not_true_eq_false, not_false_eq_true, true_and, false_and, and_true, and_false, true_or, or_true, false_or, or_false, iff_self])
def RX12_run_61_2 (G : Nat → KT) (K : RT) (X : Mem → Prop) : KT := (w_istore 3 (w_iload 3 (w_if_eq (G 75) (G 73))))
def RX12_run_75_4 (G : Nat → KT) (K : RT) (X : Mem → Prop) : KT := (w_if_eq (G 106) (G 89))
set_option maxRecDepth 100000 in
theorem eX12_run {G : Nat → KT} {K : RT} {X : Mem → Prop} (hc : cloX12_run G K X wT) {x1 : Int32} {M : Mem} (hW : Wf M) (h : (x1 < 0 → X M) ∧ (¬ x1 < 0 → ((x1 ≤ (2000 : Int32) → G 23 [some (.ref 0), some (.int x1), some (.int (0 : Int32)), none] [] M) ∧ (¬ x1 ≤ (2000 : Int32) → X M)))) : G 0 [some (.ref 0), some (.int x1), none, none] [] M :=
  (hc.1 _ _ _ (i_iload rfl (i_if_lt (fun q1068 => (hc.2.2.1 _ _ _ (i_throw (Nat.le_of_ble_eq_true rfl) hW.1 (h.1 q1068)))) (fun q1068 => (hc.2.1 _ _ _ (i_iload rfl (i_ic (i_icmp_le (fun q1069 => (hc.2.2.2.1 _ _ _ (i_ic (i_istore (Nat.le_of_ble_eq_true rfl) ((h.2 q1068).1 q1069))))) (fun q1069 => (hc.2.2.1 _ _ _ (i_throw (Nat.le_of_ble_eq_true rfl) hW.1 ((h.2 q1068).2 q1069))))))))))))
set_option maxRecDepth 100000 in
theorem eX12_run_23 {G : Nat → KT} {K : RT} {X : Mem → Prop} (hc : cloX12_run G K X wT) {x1 : Int32} {x2 : Int32} {o3 : Option Value} {M : Mem} (hW : Wf M) (h : (x1 ≤ x2 → (((gI M 7 6) = 0 → K (some (.int (-1 : Int32))) M) ∧ (¬ (gI M 7 6) = 0 → K (some (.int (0 : Int32))) M))) ∧ (¬ x1 ≤ x2 → (((gI M 7 6) = 0 → ((x2 ≤ 0 → G 61 [some (.ref 0), some (.int x1), some (.int x2), o3] [] M) ∧ (¬ x2 ≤ 0 → ((q_X12_isStop (gI M 7 2) M) ∧ ((¬ (P_X12_isStop (gI M 7 2) M) → G 61 [some (.ref 0), some (.int x1), some (.int x2), o3] [] M) ∧ ((P_X12_isStop (gI M 7 2) M) → K (some (.int (-2 : Int32))) M)))))) ∧ (¬ (gI M 7 6) = 0 → K (some (.int (0 : Int32))) M)))) : G 23 [some (.ref 0), some (.int x1), some (.int x2), o3] [] M :=
  (hc.2.2.2.2.1 _ _ _ (i_iload rfl (i_iload rfl (i_icmp_ge (fun q1070 => (hc.2.2.2.2.2.2.2.2.2.2.2.2.2.2.2.2.2.2.1 _ _ _ (i_aload rfl (i_getR (okS hW Sk_0) (nv_0_1 hW) (i_getI4 (okS hW Sk_7) (i_if_eq (fun q1071 => (hc.2.2.2.2.2.2.2.2.2.2.2.2.2.2.2.2.2.2.2.2.1 _ _ _ (i_ic (hc.2.2.2.2.2.2.2.2.2.2.2.2.2.2.2.2.2.2.2.2.2 _ _ _ (i_iret hW.1 ((h.1 q1070).1 q1071)))))) (fun q1071 => (hc.2.2.2.2.2.2.2.2.2.2.2.2.2.2.2.2.2.2.2.1 _ _ _ (i_ic (hc.2.2.2.2.2.2.2.2.2.2.2.2.2.2.2.2.2.2.2.2.2 _ _ _ (i_iret hW.1 ((h.1 q1070).2 q1071)))))))))))) (fun q1070 => (hc.2.2.2.2.2.1 _ _ _ (i_aload rfl (i_getR (okS hW Sk_0) (nv_0_1 hW) (i_getI4 (okS hW Sk_7) (i_if_eq (fun q1072 => (hc.2.2.2.2.2.2.2.1 _ _ _ (i_iload rfl (i_if_le (fun q1073 => (((h.2 q1070).1 q1072).1 q1073)) (fun q1073 => (hc.2.2.2.2.2.2.2.2.1 _ _ _ (i_aload rfl (i_aload rfl (i_getR (okS hW Sk_0) (nv_0_1 hW) (i_getI (okS hW Sk_7) (i_callV2 (Nat.le_of_ble_eq_true rfl) (okS hW Sk_0) (c_X12_isStop hW  (((h.2 q1070).1 q1072).2 q1073).1 (i_rI (i_bI_eq (fun q1074 => ((((h.2 q1070).1 q1072).2 q1073).2.1 q1074)) (fun q1074 => (hc.2.2.2.2.2.2.2.2.2.1 _ _ _ (i_ic (i_iret hW.1 ((((h.2 q1070).1 q1072).2 q1073).2.2 q1074))))))))))))))))))) (fun q1072 => (hc.2.2.2.2.2.2.1 _ _ _ (i_ic (i_iret hW.1 ((h.2 q1070).2 q1072)))))))))))))))
set_option maxRecDepth 100000 in
theorem eX12_run_61 {G : Nat → KT} {K : RT} {X : Mem → Prop} (hc : cloX12_run G K X wT) {x1 : Int32} {x2 : Int32} {o3 : Option Value} {M : Mem} (hW : Wf M) (h : sp_X5_step [.ref 7] M (fun v M' => RX12_run_61_2 G K X [some (.ref 0), some (.int x1), some (.int x2), o3] (v.toList ++ []) M')) : G 61 [some (.ref 0), some (.int x1), some (.int x2), o3] [] M :=
  (hc.2.2.2.2.2.2.2.2.2.2.1 _ _ _ (i_aload rfl (i_getR (okS hW Sk_0) (nv_0_1 hW) (i_callV1 (Nat.le_of_ble_eq_true rfl) (okS hW Sk_7) h))))
set_option maxRecDepth 100000 in
theorem rX12_run_61_2 {G : Nat → KT} {K : RT} {X : Mem → Prop} (hc : cloX12_run G K X wT) {x1 : Int32} {x2 : Int32} {o3 : Option Value} {y : Int32} {M : Mem} (hW : Wf M) (h : (y = 0 → sp_X5_changedOneOf [.ref 7, .ref 456] M (fun v M' => RX12_run_75_4 G K X [some (.ref 0), some (.int x1), some (.int x2), some (.int y)] (v.toList ++ []) M')) ∧ (¬ y = 0 → K (some (.int y)) M)) : RX12_run_61_2 G K X [some (.ref 0), some (.int x1), some (.int x2), o3] (Option.toList (some (.int y)) ++ []) M :=
  (i_rI (i_istore (Nat.le_of_ble_eq_true rfl) (i_iload rfl (i_if_eq (fun q1075 => (hc.2.2.2.2.2.2.2.2.2.2.2.2.1 _ _ _ (i_aload rfl (i_getR (okS hW Sk_0) (nv_0_1 hW) (i_aload rfl (i_getR (okS hW Sk_0) (nv_0_9 hW) (i_callV2 (Nat.le_of_ble_eq_true rfl) (okS hW Sk_7) (h.1 q1075)))))))) (fun q1075 => (hc.2.2.2.2.2.2.2.2.2.2.2.1 _ _ _ (i_iload rfl (i_iret hW.1 (h.2 q1075)))))))))
set_option maxRecDepth 100000 in
theorem rX12_run_75_4 {G : Nat → KT} {K : RT} {X : Mem → Prop} (hc : cloX12_run G K X wT) {x1 : Int32} {x2 : Int32} {o3 : Option Value} {y : Int32} {M : Mem} (hW : Wf M) (h : (y = 0 → G 23 [some (.ref 0), some (.int x1), some (.int (x2 + (1 : Int32))), o3] [] M) ∧ (¬ y = 0 → (((gI M 7 6) = 0 → K (some (.int (-3 : Int32))) M) ∧ (¬ (gI M 7 6) = 0 → K (some (.int (0 : Int32))) M)))) : RX12_run_75_4 G K X [some (.ref 0), some (.int x1), some (.int x2), o3] (Option.toList (some (.int y)) ++ []) M :=
  (i_rI (i_if_eq (fun q1076 => (hc.2.2.2.2.2.2.2.2.2.2.2.2.2.2.2.2.2.1 _ _ _ (i_iinc rfl (h.1 q1076)))) (fun q1076 => (hc.2.2.2.2.2.2.2.2.2.2.2.2.2.1 _ _ _ (i_aload rfl (i_getR (okS hW Sk_0) (nv_0_1 hW) (i_getI4 (okS hW Sk_7) (i_if_eq (fun q1077 => (hc.2.2.2.2.2.2.2.2.2.2.2.2.2.2.2.1 _ _ _ (i_ic (hc.2.2.2.2.2.2.2.2.2.2.2.2.2.2.2.2.1 _ _ _ (i_iret hW.1 ((h.2 q1076).1 q1077)))))) (fun q1077 => (hc.2.2.2.2.2.2.2.2.2.2.2.2.2.2.1 _ _ _ (i_ic (hc.2.2.2.2.2.2.2.2.2.2.2.2.2.2.2.2.1 _ _ _ (i_iret hW.1 ((h.2 q1076).2 q1077))))))))))))))
theorem wX12_run {x1 : Int32} {M : Mem} {K : RT} {X : Mem → Prop} (hW : Wf M) (h : ∀ {G : Nat → KT}, cloX12_run G K X wT → (x1 < 0 → X M) ∧ (¬ x1 < 0 → ((x1 ≤ (2000 : Int32) → G 23 [some (.ref 0), some (.int x1), some (.int (0 : Int32)), none] [] M) ∧ (¬ x1 ≤ (2000 : Int32) → X M)))) : sp_X12_run [.ref 0, .int x1] M K X := by
  refine ⟨Nat.le_of_ble_eq_true rfl, fun G hc => ?_⟩
  rw [hW.1] at hc
  exact eX12_run hc hW  (h hc)
def RX12_back_0_2 (G : Nat → KT) (K : RT) : KT := (w_iret wT K)
set_option maxRecDepth 100000 in
theorem eX12_back {G : Nat → KT} {K : RT} (hc : cloX12_back G K wT) {M : Mem} (hW : Wf M) (h : sp_X5_takeBack [.ref 7] M (fun v M' => RX12_back_0_2 G K [some (.ref 0)] (v.toList ++ []) M')) : G 0 [some (.ref 0)] [] M :=
  (hc _ _ _ (i_aload rfl (i_getR (okS hW Sk_0) (nv_0_1 hW) (i_callV1 (Nat.le_of_ble_eq_true rfl) (okS hW Sk_7) h))))
set_option maxRecDepth 100000 in
theorem rX12_back_0_2 {G : Nat → KT} {K : RT} (hc : cloX12_back G K wT) {o0 : Option Value} {y : Int32} {M : Mem} (hW : Wf M) (h : K (some (.int y)) M) : RX12_back_0_2 G K [o0] (Option.toList (some (.int y)) ++ []) M :=
  (i_rI (i_iret hW.1 h))
theorem wX12_back {M : Mem} {K : RT} (hW : Wf M) (h : ∀ {G : Nat → KT}, cloX12_back G K wT → sp_X5_takeBack [.ref 7] M (fun v M' => RX12_back_0_2 G K [some (.ref 0)] (v.toList ++ []) M')) : sp_X12_back [.ref 0] M K := by
  refine ⟨Nat.le_of_ble_eq_true rfl, fun G hc => ?_⟩
  rw [hW.1] at hc
  exact eX12_back hc hW  (h hc)
set_option maxRecDepth 100000 in
theorem eX12_fault {G : Nat → KT} {K : RT} (hc : cloX12_fault G K wT) {x1 : Int32} {M : Mem} (hW : Wf M) (h : ((gI M 7 7) = 0 → G 15 [some (.ref 0), some (.int x1), none] [.int (0 : Int32)] M) ∧ (¬ (gI M 7 7) = 0 → G 15 [some (.ref 0), some (.int x1), none] [.int (1 : Int32)] M)) : G 0 [some (.ref 0), some (.int x1), none] [] M :=
  (hc.1 _ _ _ (i_aload rfl (i_getR (okS hW Sk_0) (nv_0_1 hW) (i_getI (okS hW Sk_7) (i_if_eq (fun q1092 => (hc.2.2.1 _ _ _ (i_ic (h.1 q1092)))) (fun q1092 => (hc.2.1 _ _ _ (i_ic (h.2 q1092)))))))))
set_option maxRecDepth 100000 in
theorem eX12_fault_15 {G : Nat → KT} {K : RT} (hc : cloX12_fault G K wT) {x1 : Int32} {o2 : Option Value} {s0 : Int32} {M : Mem} (hW : Wf M) (h : (x1 = 0 → K (some (.int (gI M 7 7))) M) ∧ (¬ x1 = 0 → ((x1 = 1 → ((s0 = 0 → K (some (.int (-1 : Int32))) M) ∧ (¬ s0 = 0 → K (some (.int (gI M 7 8))) M))) ∧ (¬ x1 = 1 → ((x1 = 2 → ((s0 = 0 → K (some (.int (-1 : Int32))) M) ∧ (¬ s0 = 0 → K (some (.int (gI M 7 9))) M))) ∧ (¬ x1 = 2 → K (some (.int (0 : Int32))) M)))))) : G 15 [some (.ref 0), some (.int x1), o2] [.int s0] M :=
  (hc.2.2.2.1 _ _ _ (i_istore (Nat.le_of_ble_eq_true rfl) (i_iload rfl (And.intro (fun q1093 => (hc.2.2.2.2.1 _ _ _ (i_aload rfl (i_getR (okS hW Sk_0) (nv_0_1 hW) (i_getI (okS hW Sk_7) (i_iret hW.1 (h.1 q1093))))))) (fun q1093 => (And.intro (fun q1094 => (hc.2.2.2.2.2.1 _ _ _ (i_iload rfl (i_if_eq (fun q1095 => (hc.2.2.2.2.2.2.2.1 _ _ _ (i_ic (hc.2.2.2.2.2.2.2.2.1 _ _ _ (i_iret hW.1 (((h.2 q1093).1 q1094).1 q1095)))))) (fun q1095 => (hc.2.2.2.2.2.2.1 _ _ _ (i_aload rfl (i_getR (okS hW Sk_0) (nv_0_1 hW) (i_getI (okS hW Sk_7) (hc.2.2.2.2.2.2.2.2.1 _ _ _ (i_iret hW.1 (((h.2 q1093).1 q1094).2 q1095)))))))))))) (fun q1094 => (And.intro (fun q1096 => (hc.2.2.2.2.2.2.2.2.2.1 _ _ _ (i_iload rfl (i_if_eq (fun q1097 => (hc.2.2.2.2.2.2.2.2.2.2.2.1 _ _ _ (i_ic (hc.2.2.2.2.2.2.2.2.2.2.2.2.1 _ _ _ (i_iret hW.1 ((((h.2 q1093).2 q1094).1 q1096).1 q1097)))))) (fun q1097 => (hc.2.2.2.2.2.2.2.2.2.2.1 _ _ _ (i_aload rfl (i_getR (okS hW Sk_0) (nv_0_1 hW) (i_getI (okS hW Sk_7) (hc.2.2.2.2.2.2.2.2.2.2.2.2.1 _ _ _ (i_iret hW.1 ((((h.2 q1093).2 q1094).1 q1096).2 q1097)))))))))))) (fun q1096 => (hc.2.2.2.2.2.2.2.2.2.2.2.2.2 _ _ _ (i_ic (i_iret hW.1 (((h.2 q1093).2 q1094).2 q1096)))))))))))))
theorem wX12_fault {x1 : Int32} {M : Mem} {K : RT} (hW : Wf M) (h : ∀ {G : Nat → KT}, cloX12_fault G K wT → ((gI M 7 7) = 0 → G 15 [some (.ref 0), some (.int x1), none] [.int (0 : Int32)] M) ∧ (¬ (gI M 7 7) = 0 → G 15 [some (.ref 0), some (.int x1), none] [.int (1 : Int32)] M)) : sp_X12_fault [.ref 0, .int x1] M K := by
  refine ⟨Nat.le_of_ble_eq_true rfl, fun G hc => ?_⟩
  rw [hW.1] at hc
  exact eX12_fault hc hW  (h hc)
set_option maxRecDepth 100000 in
theorem eX12_isArray {G : Nat → KT} {K : RT} (hc : cloX12_isArray G K wT) {x1 : Int32} {M : Mem} (hW : Wf M) (h : (x1 < 0 → K (some (.int (0 : Int32))) M) ∧ (¬ x1 < 0 → (((8 : Int32) ≤ x1 → K (some (.int (0 : Int32))) M) ∧ (¬ (8 : Int32) ≤ x1 → ((vp_in x1 8) ∧ (((gI M (412 + 4 * (x1).toNatClampNeg) 0) = (-1 : Int32) → K (some (.int (0 : Int32))) M) ∧ (¬ (gI M (412 + 4 * (x1).toNatClampNeg) 0) = (-1 : Int32) → K (some (.int (1 : Int32))) M))))))) : G 0 [some (.ref 0), some (.int x1)] [] M :=
  (hc.1 _ _ _ (i_iload rfl (i_if_lt (fun q1116 => (hc.2.2.2.2.1 _ _ _ (i_ic (hc.2.2.2.2.2 _ _ _ (i_zret (by decide) hW.1 (h.1 q1116)))))) (fun q1116 => (hc.2.1 _ _ _ (i_iload rfl (i_ic (i_icmp_ge (fun q1117 => (hc.2.2.2.2.1 _ _ _ (i_ic (hc.2.2.2.2.2 _ _ _ (i_zret (by decide) hW.1 ((h.2 q1116).1 q1117)))))) (fun q1117 => (hc.2.2.1 _ _ _ (i_aload rfl (i_getR (okS hW Sk_0) (nv_0_3 hW) (i_getR (okS hW Sk_405) (nv_405_1 hW) (i_iload rfl (i_aald hW Ss_407 ((h.2 q1116).2 q1117).1 (nvArrN (a := 405) (s := 412) rfl hW Sk_405 (vp_lt ((h.2 q1116).2 q1117).1)) (i_getI (okS hW (SstAN (a := 405) (s := 412) rfl Sk_405 (vp_lt ((h.2 q1116).2 q1117).1))) (i_ic (i_icmp_eq (fun q1118 => (hc.2.2.2.2.1 _ _ _ (i_ic (hc.2.2.2.2.2 _ _ _ (i_zret (by decide) hW.1 (((h.2 q1116).2 q1117).2.1 q1118)))))) (fun q1118 => (hc.2.2.2.1 _ _ _ (i_ic (hc.2.2.2.2.2 _ _ _ (i_zret (by decide) hW.1 (((h.2 q1116).2 q1117).2.2 q1118))))))))))))))))))))))))
theorem wX12_isArray {x1 : Int32} {M : Mem} {K : RT} (hW : Wf M) (h : (x1 < 0 → K (some (.int (0 : Int32))) M) ∧ (¬ x1 < 0 → (((8 : Int32) ≤ x1 → K (some (.int (0 : Int32))) M) ∧ (¬ (8 : Int32) ≤ x1 → ((vp_in x1 8) ∧ (((gI M (412 + 4 * (x1).toNatClampNeg) 0) = (-1 : Int32) → K (some (.int (0 : Int32))) M) ∧ (¬ (gI M (412 + 4 * (x1).toNatClampNeg) 0) = (-1 : Int32) → K (some (.int (1 : Int32))) M))))))) : sp_X12_isArray [.ref 0, .int x1] M K := by
  refine ⟨Nat.le_of_ble_eq_true rfl, fun G hc => ?_⟩
  rw [hW.1] at hc
  exact eX12_isArray hc hW  h
def P_X12_isArray (x1 : Int32) (M : Mem) : Prop := ((¬ x1 < 0) ∧ ((¬ (8 : Int32) ≤ x1) ∧ (¬ (gI M (412 + 4 * (x1).toNatClampNeg) 0) = (-1 : Int32))))
def q_X12_isArray (x1 : Int32) (M : Mem) : Prop := (¬ x1 < 0 → (¬ (8 : Int32) ≤ x1 → (vp_in x1 8)))
theorem c_X12_isArray {x1 : Int32} {M : Mem} {K : RT} (hW : Wf M) (hp : q_X12_isArray x1 M) (h : K (some (.int (pI (P_X12_isArray x1 M)))) M) : sp_X12_isArray [.ref 0, .int x1] M K := by
  refine wX12_isArray hW  ?_
  unfold P_X12_isArray at h
  unfold q_X12_isArray at hp
  refine ⟨fun q0 => ?_, fun q0 => ?_⟩
  · skip
    exact pI_goF h (by simp only [eq_true q0, not_true_eq_false, not_false_eq_true, true_and, false_and, and_true, and_false, true_or, or_true, false_or, or_false, iff_self])
  · have hq0 := hp q0
    refine ⟨fun q1 => ?_, fun q1 => ?_⟩
    · skip
      exact pI_goF h (by simp only [eq_false q0, eq_true q1, not_true_eq_false, not_false_eq_true, true_and, false_and, and_true, and_false, true_or, or_true, false_or, or_false, iff_self])
    · have hq1 := hq0 q1
      refine ⟨hq1, ?_⟩
      refine ⟨fun q2 => ?_, fun q2 => ?_⟩
      · skip
        exact pI_goF h (by simp only [eq_false q0, eq_false q1, eq_true q2, not_true_eq_false, not_false_eq_true, true_and, false_and, and_true, and_false, true_or, or_true, false_or, or_false, iff_self])
      · skip
        exact pI_goT h (by simp only [eq_false q0, eq_false q1, eq_false q2, not_true_eq_false, not_false_eq_true, true_and, false_and, and_true, and_false, true_or, or_true, false_or, or_false, iff_self])
set_option maxRecDepth 100000 in
theorem eX12_free {G : Nat → KT} {K : RT} (hc : cloX12_free G K wT) {x1 : Int32} {M : Mem} (hW : Wf M) (h : (q_X12_isArray x1 M) ∧ (((P_X12_isArray x1 M) → ((vp_in x1 8) ∧ K (some (.int (1 : Int32))) (m_X11_empty  (m_X8_unmake (412 + 4 * (x1).toNatClampNeg) M)))) ∧ (¬ (P_X12_isArray x1 M) → K (some (.int (0 : Int32))) M))) : G 0 [some (.ref 0), some (.int x1)] [] M :=
  (hc.1 _ _ _ (i_aload rfl (i_iload rfl (i_callV2 (Nat.le_of_ble_eq_true rfl) (okS hW Sk_0) (c_X12_isArray hW  h.1 (i_rI (i_bI_ne (fun q1119 => (hc.2.2 _ _ _ (i_aload rfl (i_getR (okS hW Sk_0) (nv_0_3 hW) (i_getR (okS hW Sk_405) (nv_405_1 hW) (i_iload rfl (i_aald hW Ss_407 (h.2.1 q1119).1 (nvArrN (a := 405) (s := 412) rfl hW Sk_405 (vp_lt (h.2.1 q1119).1)) (i_callV1 (Nat.le_of_ble_eq_true rfl) (okS hW (SstAN (a := 405) (s := 412) rfl Sk_405 (vp_lt (h.2.1 q1119).1))) (c_X8_unmake hW (SstAN (a := 405) (s := 412) rfl Sk_405 (vp_lt (h.2.1 q1119).1)) (i_rN (i_aload rfl (i_getR (okS (Wf_m_X8_unmake (M := M) (412 + 4 * (x1).toNatClampNeg) hW) Sk_0) (nv_0_1 (Wf_m_X8_unmake (M := M) (412 + 4 * (x1).toNatClampNeg) hW)) (i_getR (okS (Wf_m_X8_unmake (M := M) (412 + 4 * (x1).toNatClampNeg) hW) Sk_7) (nv_7_1 (Wf_m_X8_unmake (M := M) (412 + 4 * (x1).toNatClampNeg) hW)) (i_callV1 (Nat.le_of_ble_eq_true rfl) (okS (Wf_m_X8_unmake (M := M) (412 + 4 * (x1).toNatClampNeg) hW) Sk_10) (c_X11_empty (Wf_m_X8_unmake (M := M) (412 + 4 * (x1).toNatClampNeg) hW)  (i_rN (i_ic (i_zret (by decide) (Wf_m_X11_empty (M := (m_X8_unmake (412 + 4 * (x1).toNatClampNeg) M))  (Wf_m_X8_unmake (M := M) (412 + 4 * (x1).toNatClampNeg) hW)).1 (h.2.1 q1119).2)))))))))))))))))) (fun q1119 => (hc.2.1 _ _ _ (i_ic (i_zret (by decide) hW.1 (h.2.2 q1119))))))))))))
theorem wX12_free {x1 : Int32} {M : Mem} {K : RT} (hW : Wf M) (h : (q_X12_isArray x1 M) ∧ (((P_X12_isArray x1 M) → ((vp_in x1 8) ∧ K (some (.int (1 : Int32))) (m_X11_empty  (m_X8_unmake (412 + 4 * (x1).toNatClampNeg) M)))) ∧ (¬ (P_X12_isArray x1 M) → K (some (.int (0 : Int32))) M))) : sp_X12_free [.ref 0, .int x1] M K := by
  refine ⟨Nat.le_of_ble_eq_true rfl, fun G hc => ?_⟩
  rw [hW.1] at hc
  exact eX12_free hc hW  h
def P_X12_free (x1 : Int32) (M : Mem) : Prop := ((P_X12_isArray x1 M))
noncomputable def m_X12_free (x1 : Int32) (M : Mem) : Mem := (iT ((P_X12_isArray x1 M)) (m_X11_empty  (m_X8_unmake (412 + 4 * (x1).toNatClampNeg) M)) M)
def q_X12_free (x1 : Int32) (M : Mem) : Prop := ((q_X12_isArray x1 M) ∧ ((P_X12_isArray x1 M) → (vp_in x1 8)))
theorem c_X12_free {x1 : Int32} {M : Mem} {K : RT} (hW : Wf M) (hp : q_X12_free x1 M) (h : K (some (.int (pI (P_X12_free x1 M)))) (m_X12_free x1 M)) : sp_X12_free [.ref 0, .int x1] M K := by
  refine wX12_free hW  ?_
  unfold P_X12_free at h
  unfold q_X12_free at hp
  unfold m_X12_free at h
  refine ⟨hp.1, ?_⟩
  refine ⟨fun q0 => ?_, fun q0 => ?_⟩
  · have hq0 := hp.2 q0
    try simp only [iT_t q0] at h
    refine ⟨hq0, ?_⟩
    exact pI_goT h (by simp only [eq_true q0, not_true_eq_false, not_false_eq_true, true_and, false_and, and_true, and_false, true_or, or_true, false_or, or_false, iff_self])
  · skip
    try simp only [iT_f q0] at h
    exact pI_goF h (by simp only [eq_false q0, not_true_eq_false, not_false_eq_true, true_and, false_and, and_true, and_false, true_or, or_true, false_or, or_false, iff_self])
theorem Wf_m_X12_free (x1 : Int32) {M : Mem} (hW : Wf M) : Wf (m_X12_free x1 M) := by
  unfold m_X12_free
  try unfold iT
  split
  · skip
    exact (Wf_m_X11_empty (M := (m_X8_unmake (412 + 4 * (x1).toNatClampNeg) M))  (Wf_m_X8_unmake (M := M) (412 + 4 * (x1).toNatClampNeg) hW))
  · skip
    exact hW
def RX12_memory_22_2 (G : Nat → KT) (K : RT) : KT := (w_istore 3 (w_iload 3 (w_if_lt (G 49) (G 34))))
def RX12_memory_34_2 (G : Nat → KT) (K : RT) : KT := (w_iload 2 (w_iadd (w_ic 400 (w_icmp_le (G 52) (G 49)))))
def RX12_memory_52_7 (G : Nat → KT) (K : RT) : KT := (w_aload 0 (w_getf 9 1 3 (w_getf 2 1 3 (w_callV 8 1 sp_X11_empty (w_iload 3 (w_iret wT K))))))
set_option maxRecDepth 100000 in
theorem eX12_memory {G : Nat → KT} {K : RT} (hc : cloX12_memory G K wT) {x1 : Int32} {x2 : Int32} {M : Mem} (hW : Wf M) (h : (x1 < 0 → K (some (.int (-1 : Int32))) M) ∧ (¬ x1 < 0 → (((7 : Int32) ≤ x1 → K (some (.int (-1 : Int32))) M) ∧ (¬ (7 : Int32) ≤ x1 → ((x2 < 0 → K (some (.int (-1 : Int32))) M) ∧ (¬ x2 < 0 → ((x2 ≤ (64 : Int32) → sp_X10_firstFreeArray [.ref 405] M (fun v M' => RX12_memory_22_2 G K [some (.ref 0), some (.int x1), some (.int x2), none] (v.toList ++ []) M')) ∧ (¬ x2 ≤ (64 : Int32) → K (some (.int (-1 : Int32))) M)))))))) : G 0 [some (.ref 0), some (.int x1), some (.int x2), none] [] M :=
  (hc.1 _ _ _ (i_iload rfl (i_if_lt (fun q1110 => (hc.2.2.2.2.1 _ _ _ (i_ic (i_iret hW.1 (h.1 q1110))))) (fun q1110 => (hc.2.1 _ _ _ (i_iload rfl (i_ic (i_icmp_ge (fun q1111 => (hc.2.2.2.2.1 _ _ _ (i_ic (i_iret hW.1 ((h.2 q1110).1 q1111))))) (fun q1111 => (hc.2.2.1 _ _ _ (i_iload rfl (i_if_lt (fun q1112 => (hc.2.2.2.2.1 _ _ _ (i_ic (i_iret hW.1 (((h.2 q1110).2 q1111).1 q1112))))) (fun q1112 => (hc.2.2.2.1 _ _ _ (i_iload rfl (i_ic (i_icmp_le (fun q1113 => (hc.2.2.2.2.2.1 _ _ _ (i_aload rfl (i_getR (okS hW Sk_0) (nv_0_3 hW) (i_callV1 (Nat.le_of_ble_eq_true rfl) (okS hW Sk_405) ((((h.2 q1110).2 q1111).2 q1112).1 q1113)))))) (fun q1113 => (hc.2.2.2.2.1 _ _ _ (i_ic (i_iret hW.1 ((((h.2 q1110).2 q1111).2 q1112).2 q1113))))))))))))))))))))))
set_option maxRecDepth 100000 in
theorem rX12_memory_22_2 {G : Nat → KT} {K : RT} (hc : cloX12_memory G K wT) {x1 : Int32} {x2 : Int32} {o3 : Option Value} {y : Int32} {M : Mem} (hW : Wf M) (h : (y < 0 → K (some (.int (-2 : Int32))) M) ∧ (¬ y < 0 → sp_X10_elements [.ref 405] M (fun v M' => RX12_memory_34_2 G K [some (.ref 0), some (.int x1), some (.int x2), some (.int y)] (v.toList ++ []) M'))) : RX12_memory_22_2 G K [some (.ref 0), some (.int x1), some (.int x2), o3] (Option.toList (some (.int y)) ++ []) M :=
  (i_rI (i_istore (Nat.le_of_ble_eq_true rfl) (i_iload rfl (i_if_lt (fun q1114 => (hc.2.2.2.2.2.2.2.1 _ _ _ (i_ic (i_iret hW.1 (h.1 q1114))))) (fun q1114 => (hc.2.2.2.2.2.2.1 _ _ _ (i_aload rfl (i_getR (okS hW Sk_0) (nv_0_3 hW) (i_callV1 (Nat.le_of_ble_eq_true rfl) (okS hW Sk_405) (h.2 q1114))))))))))
set_option maxRecDepth 100000 in
theorem rX12_memory_34_2 {G : Nat → KT} {K : RT} (hc : cloX12_memory G K wT) {x1 : Int32} {x2 : Int32} {x3 : Int32} {y : Int32} {M : Mem} (hW : Wf M) (h : ((y + x2) ≤ (400 : Int32) → ((vp_in x3 8) ∧ sp_X8_make [.ref (412 + 4 * (x3).toNatClampNeg), .int x1, .int x2] M (fun v M' => RX12_memory_52_7 G K [some (.ref 0), some (.int x1), some (.int x2), some (.int x3)] (v.toList ++ []) M'))) ∧ (¬ (y + x2) ≤ (400 : Int32) → K (some (.int (-2 : Int32))) M)) : RX12_memory_34_2 G K [some (.ref 0), some (.int x1), some (.int x2), some (.int x3)] (Option.toList (some (.int y)) ++ []) M :=
  (i_rI (i_iload rfl (i_iadd (i_ic (i_icmp_le (fun q1115 => (hc.2.2.2.2.2.2.2.2 _ _ _ (i_aload rfl (i_getR (okS hW Sk_0) (nv_0_3 hW) (i_getR (okS hW Sk_405) (nv_405_1 hW) (i_iload rfl (i_aald hW Ss_407 (h.1 q1115).1 (nvArrN (a := 405) (s := 412) rfl hW Sk_405 (vp_lt (h.1 q1115).1)) (i_iload rfl (i_iload rfl (i_callV3 (Nat.le_of_ble_eq_true rfl) (okS hW (SstAN (a := 405) (s := 412) rfl Sk_405 (vp_lt (h.1 q1115).1))) (h.1 q1115).2)))))))))) (fun q1115 => (hc.2.2.2.2.2.2.2.1 _ _ _ (i_ic (i_iret hW.1 (h.2 q1115))))))))))
set_option maxRecDepth 100000 in
theorem rX12_memory_52_7 {G : Nat → KT} {K : RT} (hc : cloX12_memory G K wT) {o1 : Option Value} {o2 : Option Value} {x3 : Int32} {M : Mem} (hW : Wf M) (h : K (some (.int x3)) (m_X11_empty  M)) : RX12_memory_52_7 G K [some (.ref 0), o1, o2, some (.int x3)] (Option.toList none ++ []) M :=
  (i_rN (i_aload rfl (i_getR (okS hW Sk_0) (nv_0_1 hW) (i_getR (okS hW Sk_7) (nv_7_1 hW) (i_callV1 (Nat.le_of_ble_eq_true rfl) (okS hW Sk_10) (c_X11_empty hW  (i_rN (i_iload rfl (i_iret (Wf_m_X11_empty (M := M)  hW).1 h)))))))))
theorem wX12_memory {x1 : Int32} {x2 : Int32} {M : Mem} {K : RT} (hW : Wf M) (h : ∀ {G : Nat → KT}, cloX12_memory G K wT → (x1 < 0 → K (some (.int (-1 : Int32))) M) ∧ (¬ x1 < 0 → (((7 : Int32) ≤ x1 → K (some (.int (-1 : Int32))) M) ∧ (¬ (7 : Int32) ≤ x1 → ((x2 < 0 → K (some (.int (-1 : Int32))) M) ∧ (¬ x2 < 0 → ((x2 ≤ (64 : Int32) → sp_X10_firstFreeArray [.ref 405] M (fun v M' => RX12_memory_22_2 G K [some (.ref 0), some (.int x1), some (.int x2), none] (v.toList ++ []) M')) ∧ (¬ x2 ≤ (64 : Int32) → K (some (.int (-1 : Int32))) M)))))))) : sp_X12_memory [.ref 0, .int x1, .int x2] M K := by
  refine ⟨Nat.le_of_ble_eq_true rfl, fun G hc => ?_⟩
  rw [hW.1] at hc
  exact eX12_memory hc hW  (h hc)
def RX12_resize_20_9 (G : Nat → KT) (K : RT) : KT := (w_iload 3 (w_isub (w_iload 2 (w_iadd (w_ic 400 (w_icmp_le (G 53) (G 50)))))))
def RX12_resize_53_6 (G : Nat → KT) (K : RT) : KT := (w_aload 0 (w_getf 9 1 3 (w_getf 2 1 3 (w_callV 8 1 sp_X11_empty (w_iload 3 (w_iret wT K))))))
set_option maxRecDepth 100000 in
theorem eX12_resize {G : Nat → KT} {K : RT} (hc : cloX12_resize G K wT) {x1 : Int32} {x2 : Int32} {M : Mem} (hW : Wf M) (h : (q_X12_isArray x1 M) ∧ ((¬ (P_X12_isArray x1 M) → K (some (.int (-1 : Int32))) M) ∧ ((P_X12_isArray x1 M) → ((x2 < 0 → K (some (.int (-1 : Int32))) M) ∧ (¬ x2 < 0 → ((x2 ≤ (64 : Int32) → ((vp_in x1 8) ∧ sp_X10_elements [.ref 405] M (fun v M' => RX12_resize_20_9 G K [some (.ref 0), some (.int x1), some (.int x2), some (.int (gI M (412 + 4 * (x1).toNatClampNeg) 1))] (v.toList ++ []) M'))) ∧ (¬ x2 ≤ (64 : Int32) → K (some (.int (-1 : Int32))) M))))))) : G 0 [some (.ref 0), some (.int x1), some (.int x2), none] [] M :=
  (hc.1 _ _ _ (i_aload rfl (i_iload rfl (i_callV2 (Nat.le_of_ble_eq_true rfl) (okS hW Sk_0) (c_X12_isArray hW  h.1 (i_rI (i_bI_eq (fun q1124 => (hc.2.2.2.1 _ _ _ (i_ic (i_iret hW.1 (h.2.1 q1124))))) (fun q1124 => (hc.2.1 _ _ _ (i_iload rfl (i_if_lt (fun q1125 => (hc.2.2.2.1 _ _ _ (i_ic (i_iret hW.1 ((h.2.2 q1124).1 q1125))))) (fun q1125 => (hc.2.2.1 _ _ _ (i_iload rfl (i_ic (i_icmp_le (fun q1126 => (hc.2.2.2.2.1 _ _ _ (i_aload rfl (i_getR (okS hW Sk_0) (nv_0_3 hW) (i_getR (okS hW Sk_405) (nv_405_1 hW) (i_iload rfl (i_aald hW Ss_407 (((h.2.2 q1124).2 q1125).1 q1126).1 (nvArrN (a := 405) (s := 412) rfl hW Sk_405 (vp_lt (((h.2.2 q1124).2 q1125).1 q1126).1)) (i_getI (okS hW (SstAN (a := 405) (s := 412) rfl Sk_405 (vp_lt (((h.2.2 q1124).2 q1125).1 q1126).1))) (i_istore (Nat.le_of_ble_eq_true rfl) (i_aload rfl (i_getR (okS hW Sk_0) (nv_0_3 hW) (i_callV1 (Nat.le_of_ble_eq_true rfl) (okS hW Sk_405) (((h.2.2 q1124).2 q1125).1 q1126).2)))))))))))) (fun q1126 => (hc.2.2.2.1 _ _ _ (i_ic (i_iret hW.1 (((h.2.2 q1124).2 q1125).2 q1126)))))))))))))))))))))
set_option maxRecDepth 100000 in
theorem rX12_resize_20_9 {G : Nat → KT} {K : RT} (hc : cloX12_resize G K wT) {x1 : Int32} {x2 : Int32} {x3 : Int32} {y : Int32} {M : Mem} (hW : Wf M) (h : (((y - x3) + x2) ≤ (400 : Int32) → ((vp_in x1 8) ∧ sp_X8_reach [.ref (412 + 4 * (x1).toNatClampNeg), .int x2] M (fun v M' => RX12_resize_53_6 G K [some (.ref 0), some (.int x1), some (.int x2), some (.int x3)] (v.toList ++ []) M'))) ∧ (¬ ((y - x3) + x2) ≤ (400 : Int32) → K (some (.int (-2 : Int32))) M)) : RX12_resize_20_9 G K [some (.ref 0), some (.int x1), some (.int x2), some (.int x3)] (Option.toList (some (.int y)) ++ []) M :=
  (i_rI (i_iload rfl (i_isub (i_iload rfl (i_iadd (i_ic (i_icmp_le (fun q1127 => (hc.2.2.2.2.2.2 _ _ _ (i_aload rfl (i_getR (okS hW Sk_0) (nv_0_3 hW) (i_getR (okS hW Sk_405) (nv_405_1 hW) (i_iload rfl (i_aald hW Ss_407 (h.1 q1127).1 (nvArrN (a := 405) (s := 412) rfl hW Sk_405 (vp_lt (h.1 q1127).1)) (i_iload rfl (i_callV2 (Nat.le_of_ble_eq_true rfl) (okS hW (SstAN (a := 405) (s := 412) rfl Sk_405 (vp_lt (h.1 q1127).1))) (h.1 q1127).2))))))))) (fun q1127 => (hc.2.2.2.2.2.1 _ _ _ (i_ic (i_iret hW.1 (h.2 q1127))))))))))))
set_option maxRecDepth 100000 in
theorem rX12_resize_53_6 {G : Nat → KT} {K : RT} (hc : cloX12_resize G K wT) {o1 : Option Value} {o2 : Option Value} {x3 : Int32} {M : Mem} (hW : Wf M) (h : K (some (.int x3)) (m_X11_empty  M)) : RX12_resize_53_6 G K [some (.ref 0), o1, o2, some (.int x3)] (Option.toList none ++ []) M :=
  (i_rN (i_aload rfl (i_getR (okS hW Sk_0) (nv_0_1 hW) (i_getR (okS hW Sk_7) (nv_7_1 hW) (i_callV1 (Nat.le_of_ble_eq_true rfl) (okS hW Sk_10) (c_X11_empty hW  (i_rN (i_iload rfl (i_iret (Wf_m_X11_empty (M := M)  hW).1 h)))))))))
theorem wX12_resize {x1 : Int32} {x2 : Int32} {M : Mem} {K : RT} (hW : Wf M) (h : ∀ {G : Nat → KT}, cloX12_resize G K wT → (q_X12_isArray x1 M) ∧ ((¬ (P_X12_isArray x1 M) → K (some (.int (-1 : Int32))) M) ∧ ((P_X12_isArray x1 M) → ((x2 < 0 → K (some (.int (-1 : Int32))) M) ∧ (¬ x2 < 0 → ((x2 ≤ (64 : Int32) → ((vp_in x1 8) ∧ sp_X10_elements [.ref 405] M (fun v M' => RX12_resize_20_9 G K [some (.ref 0), some (.int x1), some (.int x2), some (.int (gI M (412 + 4 * (x1).toNatClampNeg) 1))] (v.toList ++ []) M'))) ∧ (¬ x2 ≤ (64 : Int32) → K (some (.int (-1 : Int32))) M))))))) : sp_X12_resize [.ref 0, .int x1, .int x2] M K := by
  refine ⟨Nat.le_of_ble_eq_true rfl, fun G hc => ?_⟩
  rw [hW.1] at hc
  exact eX12_resize hc hW  (h hc)
set_option maxRecDepth 100000 in
theorem eX12_poke {G : Nat → KT} {K : RT} (hc : cloX12_poke G K wT) {x1 : Int32} {x2 : Int32} {x3 : Int64} {M : Mem} (hW : Wf M) (h : (q_X12_isArray x1 M) ∧ ((¬ (P_X12_isArray x1 M) → K (some (.int (0 : Int32))) M) ∧ ((P_X12_isArray x1 M) → ((vp_in x1 8) ∧ (((P_X8_has (412 + 4 * (x1).toNatClampNeg) x2 M) → ((vp_in x1 8) ∧ ((isK1 (gI M (412 + 4 * (x1).toNatClampNeg) 0) x3) ∧ ((vp_in x2 64) ∧ K (some (.int (1 : Int32))) (m_X11_empty  (uL M ((412 + 4 * (x1).toNatClampNeg) + 1) (x2).toNatClampNeg (putJ (gI M (412 + 4 * (x1).toNatClampNeg) 0) x3))))))) ∧ (¬ (P_X8_has (412 + 4 * (x1).toNatClampNeg) x2 M) → K (some (.int (0 : Int32))) M)))))) : G 0 [some (.ref 0), some (.int x1), some (.int x2), some (.long x3), none, none] [] M :=
  (hc.1 _ _ _ (i_aload rfl (i_iload rfl (i_callV2 (Nat.le_of_ble_eq_true rfl) (okS hW Sk_0) (c_X12_isArray hW  h.1 (i_rI (i_bI_eq (fun q1128 => (hc.2.2.1 _ _ _ (i_ic (i_zret (by decide) hW.1 (h.2.1 q1128))))) (fun q1128 => (hc.2.1 _ _ _ (i_aload rfl (i_getR (okS hW Sk_0) (nv_0_3 hW) (i_getR (okS hW Sk_405) (nv_405_1 hW) (i_iload rfl (i_aald hW Ss_407 (h.2.2 q1128).1 (nvArrN (a := 405) (s := 412) rfl hW Sk_405 (vp_lt (h.2.2 q1128).1)) (i_iload rfl (i_callV2 (Nat.le_of_ble_eq_true rfl) (okS hW (SstAN (a := 405) (s := 412) rfl Sk_405 (vp_lt (h.2.2 q1128).1))) (c_X8_has hW (SstAN (a := 405) (s := 412) rfl Sk_405 (vp_lt (h.2.2 q1128).1)) (i_rI (i_bI_ne (fun q1129 => (hc.2.2.2 _ _ _ (i_aload rfl (i_getR (okS hW Sk_0) (nv_0_3 hW) (i_getR (okS hW Sk_405) (nv_405_1 hW) (i_iload rfl (i_aald hW Ss_407 ((h.2.2 q1128).2.1 q1129).1 (nvArrN (a := 405) (s := 412) rfl hW Sk_405 (vp_lt ((h.2.2 q1128).2.1 q1129).1)) (i_astore (Nat.le_of_ble_eq_true rfl) (i_aload rfl (i_getR (okS hW (SstAN (a := 405) (s := 412) rfl Sk_405 (vp_lt ((h.2.2 q1128).2.1 q1129).1))) (nvRow hW (SstAN (a := 405) (s := 412) rfl Sk_405 (vp_lt ((h.2.2 q1128).2.1 q1129).1))) (i_iload rfl (i_aload rfl (i_getI (okS hW (SstAN (a := 405) (s := 412) rfl Sk_405 (vp_lt ((h.2.2 q1128).2.1 q1129).1))) (i_lload rfl (i_callS2 (Nat.le_of_ble_eq_true rfl) (c_putJ hW  ((h.2.2 q1128).2.1 q1129).2.1 (i_rJ (i_last hW (Srow (SstAN (a := 405) (s := 412) rfl Sk_405 (vp_lt ((h.2.2 q1128).2.1 q1129).1))) ((h.2.2 q1128).2.1 q1129).2.2.1 (i_aload rfl (i_getR (okS hW Sk_0) (nv_0_1 hW) (i_getR (okS hW Sk_7) (nv_7_1 hW) (i_callV1 (Nat.le_of_ble_eq_true rfl) (okS hW Sk_10) (c_X11_empty hW  (i_rN (i_ic (i_zret (by decide) (Wf_m_X11_empty (M := (uL M ((412 + 4 * (x1).toNatClampNeg) + 1) (x2).toNatClampNeg (putJ (gI M (412 + 4 * (x1).toNatClampNeg) 0) x3)))  hW).1 ((h.2.2 q1128).2.1 q1129).2.2.2)))))))))))))))))))))))))) (fun q1129 => (hc.2.2.1 _ _ _ (i_ic (i_zret (by decide) hW.1 ((h.2.2 q1128).2.2 q1129))))))))))))))))))))))))
theorem wX12_poke {x1 : Int32} {x2 : Int32} {x3 : Int64} {M : Mem} {K : RT} (hW : Wf M) (h : (q_X12_isArray x1 M) ∧ ((¬ (P_X12_isArray x1 M) → K (some (.int (0 : Int32))) M) ∧ ((P_X12_isArray x1 M) → ((vp_in x1 8) ∧ (((P_X8_has (412 + 4 * (x1).toNatClampNeg) x2 M) → ((vp_in x1 8) ∧ ((isK1 (gI M (412 + 4 * (x1).toNatClampNeg) 0) x3) ∧ ((vp_in x2 64) ∧ K (some (.int (1 : Int32))) (m_X11_empty  (uL M ((412 + 4 * (x1).toNatClampNeg) + 1) (x2).toNatClampNeg (putJ (gI M (412 + 4 * (x1).toNatClampNeg) 0) x3))))))) ∧ (¬ (P_X8_has (412 + 4 * (x1).toNatClampNeg) x2 M) → K (some (.int (0 : Int32))) M)))))) : sp_X12_poke [.ref 0, .int x1, .int x2, .long x3] M K := by
  refine ⟨Nat.le_of_ble_eq_true rfl, fun G hc => ?_⟩
  rw [hW.1] at hc
  exact eX12_poke hc hW  h
def P_X12_poke (x1 : Int32) (x2 : Int32) (x3 : Int64) (M : Mem) : Prop := (((P_X12_isArray x1 M)) ∧ ((P_X8_has (412 + 4 * (x1).toNatClampNeg) x2 M)))
noncomputable def m_X12_poke (x1 : Int32) (x2 : Int32) (x3 : Int64) (M : Mem) : Mem := (iT ((P_X12_isArray x1 M)) (iT ((P_X8_has (412 + 4 * (x1).toNatClampNeg) x2 M)) (m_X11_empty  (uL M ((412 + 4 * (x1).toNatClampNeg) + 1) (x2).toNatClampNeg (putJ (gI M (412 + 4 * (x1).toNatClampNeg) 0) x3))) M) M)
def q_X12_poke (x1 : Int32) (x2 : Int32) (x3 : Int64) (M : Mem) : Prop := ((q_X12_isArray x1 M) ∧ ((P_X12_isArray x1 M) → ((vp_in x1 8) ∧ ((P_X8_has (412 + 4 * (x1).toNatClampNeg) x2 M) → ((vp_in x1 8) ∧ ((isK1 (gI M (412 + 4 * (x1).toNatClampNeg) 0) x3) ∧ (vp_in x2 64)))))))
theorem c_X12_poke {x1 : Int32} {x2 : Int32} {x3 : Int64} {M : Mem} {K : RT} (hW : Wf M) (hp : q_X12_poke x1 x2 x3 M) (h : K (some (.int (pI (P_X12_poke x1 x2 x3 M)))) (m_X12_poke x1 x2 x3 M)) : sp_X12_poke [.ref 0, .int x1, .int x2, .long x3] M K := by
  refine wX12_poke hW  ?_
  unfold P_X12_poke at h
  unfold q_X12_poke at hp
  unfold m_X12_poke at h
  refine ⟨hp.1, ?_⟩
  refine ⟨fun q0 => ?_, fun q0 => ?_⟩
  · skip
    try simp only [iT_f q0] at h
    exact pI_goF h (by simp only [eq_false q0, not_true_eq_false, not_false_eq_true, true_and, false_and, and_true, and_false, true_or, or_true, false_or, or_false, iff_self])
  · have hq0 := hp.2 q0
    try simp only [iT_t q0] at h
    refine ⟨hq0.1, ?_⟩
    refine ⟨fun q1 => ?_, fun q1 => ?_⟩
    · have hq1 := hq0.2 q1
      try simp only [iT_t q1] at h
      refine ⟨hq1.1, ?_⟩
      refine ⟨hq1.2.1, ?_⟩
      refine ⟨hq1.2.2, ?_⟩
      exact pI_goT h (by simp only [eq_true q0, eq_true q1, not_true_eq_false, not_false_eq_true, true_and, false_and, and_true, and_false, true_or, or_true, false_or, or_false, iff_self])
    · skip
      try simp only [iT_f q1] at h
      exact pI_goF h (by simp only [eq_true q0, eq_false q1, not_true_eq_false, not_false_eq_true, true_and, false_and, and_true, and_false, true_or, or_true, false_or, or_false, iff_self])
theorem Wf_m_X12_poke (x1 : Int32) (x2 : Int32) (x3 : Int64) {M : Mem} (hW : Wf M) : Wf (m_X12_poke x1 x2 x3 M) := by
  unfold m_X12_poke
  try unfold iT
  split
  · skip
    try unfold iT
    split
    · skip
      exact (Wf_m_X11_empty (M := (uL M ((412 + 4 * (x1).toNatClampNeg) + 1) (x2).toNatClampNeg (putJ (gI M (412 + 4 * (x1).toNatClampNeg) 0) x3)))  hW)
    · skip
      exact hW
  · skip
    exact hW
set_option maxRecDepth 100000 in
theorem eX12_peek {G : Nat → KT} {K : RT} {X : Mem → Prop} (hc : cloX12_peek G K X wT) {x1 : Int32} {x2 : Int32} {M : Mem} (hW : Wf M) (h : (q_X12_isArray x1 M) ∧ ((¬ (P_X12_isArray x1 M) → X M) ∧ ((P_X12_isArray x1 M) → ((vp_in x1 8) ∧ (((P_X8_has (412 + 4 * (x1).toNatClampNeg) x2 M) → ((vp_in x1 8) ∧ ((vp_in x2 64) ∧ K (some (.long (gL M ((412 + 4 * (x1).toNatClampNeg) + 1) (x2).toNatClampNeg))) M))) ∧ (¬ (P_X8_has (412 + 4 * (x1).toNatClampNeg) x2 M) → X M)))))) : G 0 [some (.ref 0), some (.int x1), some (.int x2)] [] M :=
  (hc.1 _ _ _ (i_aload rfl (i_iload rfl (i_callV2 (Nat.le_of_ble_eq_true rfl) (okS hW Sk_0) (c_X12_isArray hW  h.1 (i_rI (i_bI_eq (fun q1132 => (hc.2.2.1 _ _ _ (i_throw (Nat.le_of_ble_eq_true rfl) hW.1 (h.2.1 q1132)))) (fun q1132 => (hc.2.1 _ _ _ (i_aload rfl (i_getR (okS hW Sk_0) (nv_0_3 hW) (i_getR (okS hW Sk_405) (nv_405_1 hW) (i_iload rfl (i_aald hW Ss_407 (h.2.2 q1132).1 (nvArrN (a := 405) (s := 412) rfl hW Sk_405 (vp_lt (h.2.2 q1132).1)) (i_iload rfl (i_callV2 (Nat.le_of_ble_eq_true rfl) (okS hW (SstAN (a := 405) (s := 412) rfl Sk_405 (vp_lt (h.2.2 q1132).1))) (c_X8_has hW (SstAN (a := 405) (s := 412) rfl Sk_405 (vp_lt (h.2.2 q1132).1)) (i_rI (i_bI_ne (fun q1133 => (hc.2.2.2 _ _ _ (i_aload rfl (i_getR (okS hW Sk_0) (nv_0_3 hW) (i_getR (okS hW Sk_405) (nv_405_1 hW) (i_iload rfl (i_aald hW Ss_407 ((h.2.2 q1132).2.1 q1133).1 (nvArrN (a := 405) (s := 412) rfl hW Sk_405 (vp_lt ((h.2.2 q1132).2.1 q1133).1)) (i_getR (okS hW (SstAN (a := 405) (s := 412) rfl Sk_405 (vp_lt ((h.2.2 q1132).2.1 q1133).1))) (nvRow hW (SstAN (a := 405) (s := 412) rfl Sk_405 (vp_lt ((h.2.2 q1132).2.1 q1133).1))) (i_iload rfl (i_lald hW (Srow (SstAN (a := 405) (s := 412) rfl Sk_405 (vp_lt ((h.2.2 q1132).2.1 q1133).1))) ((h.2.2 q1132).2.1 q1133).2.1 (i_lret hW.1 ((h.2.2 q1132).2.1 q1133).2.2))))))))))) (fun q1133 => (hc.2.2.1 _ _ _ (i_throw (Nat.le_of_ble_eq_true rfl) hW.1 ((h.2.2 q1132).2.2 q1133)))))))))))))))))))))))
theorem wX12_peek {x1 : Int32} {x2 : Int32} {M : Mem} {K : RT} {X : Mem → Prop} (hW : Wf M) (h : (q_X12_isArray x1 M) ∧ ((¬ (P_X12_isArray x1 M) → X M) ∧ ((P_X12_isArray x1 M) → ((vp_in x1 8) ∧ (((P_X8_has (412 + 4 * (x1).toNatClampNeg) x2 M) → ((vp_in x1 8) ∧ ((vp_in x2 64) ∧ K (some (.long (gL M ((412 + 4 * (x1).toNatClampNeg) + 1) (x2).toNatClampNeg))) M))) ∧ (¬ (P_X8_has (412 + 4 * (x1).toNatClampNeg) x2 M) → X M)))))) : sp_X12_peek [.ref 0, .int x1, .int x2] M K X := by
  refine ⟨Nat.le_of_ble_eq_true rfl, fun G hc => ?_⟩
  rw [hW.1] at hc
  exact eX12_peek hc hW  h
set_option maxRecDepth 100000 in
theorem eX12_shape {G : Nat → KT} {K : RT} (hc : cloX12_shape G K wT) {x0 : Nat} {x1 : Int32} {M : Mem} (hW : Wf M) (hx0 : (Sh x0).1 = 5) (h : (x1 = 0 → K (some (.int (gI M x0 0))) M) ∧ (¬ x1 = 0 → ((x1 = 1 → K (some (.int (gI M x0 1))) M) ∧ (¬ x1 = 1 → K (some (.int (-2 : Int32))) M)))) : G 0 [some (.ref x0), some (.int x1)] [] M :=
  (hc.1 _ _ _ (i_iload rfl (And.intro (fun q1134 => (hc.2.1 _ _ _ (i_aload rfl (i_getI (okS hW hx0) (i_iret hW.1 (h.1 q1134)))))) (fun q1134 => (And.intro (fun q1135 => (hc.2.2.1 _ _ _ (i_aload rfl (i_getI (okS hW hx0) (i_iret hW.1 ((h.2 q1134).1 q1135)))))) (fun q1135 => (hc.2.2.2 _ _ _ (i_ic (i_iret hW.1 ((h.2 q1134).2 q1135))))))))))
theorem wX12_shape {x0 : Nat} {x1 : Int32} {M : Mem} {K : RT} (hW : Wf M) (hx0 : (Sh x0).1 = 5) (h : (x1 = 0 → K (some (.int (gI M x0 0))) M) ∧ (¬ x1 = 0 → ((x1 = 1 → K (some (.int (gI M x0 1))) M) ∧ (¬ x1 = 1 → K (some (.int (-2 : Int32))) M)))) : sp_X12_shape [.ref x0, .int x1] M K := by
  refine ⟨Nat.le_of_ble_eq_true rfl, fun G hc => ?_⟩
  rw [hW.1] at hc
  exact eX12_shape hc hW hx0 h
noncomputable def f_X12_shape (x0 : Nat) (x1 : Int32) (M : Mem) : Int32 := (if x1 = 0 then (gI M x0 0) else (if x1 = 1 then (gI M x0 1) else (-2 : Int32)))
theorem c_X12_shape {x0 : Nat} {x1 : Int32} {M : Mem} {K : RT} (hW : Wf M) (hx0 : (Sh x0).1 = 5) (h : K (some (.int (f_X12_shape x0 x1 M))) M) : sp_X12_shape [.ref x0, .int x1] M K := by
  refine wX12_shape hW hx0 ?_
  unfold f_X12_shape at h
  refine ⟨fun q0 => ?_, fun q0 => ?_⟩
  · skip
    try simp only [if_pos q0] at h
    first | exact h | contradiction
  · skip
    try simp only [if_neg q0] at h
    refine ⟨fun q1 => ?_, fun q1 => ?_⟩
    · skip
      try simp only [if_pos q1] at h
      first | exact h | contradiction
    · skip
      try simp only [if_neg q1] at h
      first | exact h | contradiction
set_option maxRecDepth 100000 in
theorem eX12_array {G : Nat → KT} {K : RT} (hc : cloX12_array G K wT) {x1 : Int32} {x2 : Int32} {M : Mem} (hW : Wf M) (h : (x1 < 0 → K (some (.int (-2 : Int32))) M) ∧ (¬ x1 < 0 → ((x1 < (8 : Int32) → ((vp_in x1 8) ∧ K (some (.int (f_X12_shape (412 + 4 * (x1).toNatClampNeg) x2 M))) M)) ∧ (¬ x1 < (8 : Int32) → K (some (.int (-2 : Int32))) M)))) : G 0 [some (.ref 0), some (.int x1), some (.int x2)] [] M :=
  (hc.1 _ _ _ (i_iload rfl (i_if_lt (fun q1136 => (hc.2.2.1 _ _ _ (i_ic (hc.2.2.2.2 _ _ _ (i_iret hW.1 (h.1 q1136)))))) (fun q1136 => (hc.2.1 _ _ _ (i_iload rfl (i_ic (i_icmp_lt (fun q1137 => (hc.2.2.2.1 _ _ _ (i_aload rfl (i_getR (okS hW Sk_0) (nv_0_3 hW) (i_getR (okS hW Sk_405) (nv_405_1 hW) (i_iload rfl (i_aald hW Ss_407 ((h.2 q1136).1 q1137).1 (nvArrN (a := 405) (s := 412) rfl hW Sk_405 (vp_lt ((h.2 q1136).1 q1137).1)) (i_iload rfl (i_callS2 (Nat.le_of_ble_eq_true rfl) (c_X12_shape hW (SstAN (a := 405) (s := 412) rfl Sk_405 (vp_lt ((h.2 q1136).1 q1137).1)) (i_rI (hc.2.2.2.2 _ _ _ (i_iret hW.1 ((h.2 q1136).1 q1137).2))))))))))))) (fun q1137 => (hc.2.2.1 _ _ _ (i_ic (hc.2.2.2.2 _ _ _ (i_iret hW.1 ((h.2 q1136).2 q1137))))))))))))))
theorem wX12_array {x1 : Int32} {x2 : Int32} {M : Mem} {K : RT} (hW : Wf M) (h : (x1 < 0 → K (some (.int (-2 : Int32))) M) ∧ (¬ x1 < 0 → ((x1 < (8 : Int32) → ((vp_in x1 8) ∧ K (some (.int (f_X12_shape (412 + 4 * (x1).toNatClampNeg) x2 M))) M)) ∧ (¬ x1 < (8 : Int32) → K (some (.int (-2 : Int32))) M)))) : sp_X12_array [.ref 0, .int x1, .int x2] M K := by
  refine ⟨Nat.le_of_ble_eq_true rfl, fun G hc => ?_⟩
  rw [hW.1] at hc
  exact eX12_array hc hW  h
noncomputable def f_X12_array (x1 : Int32) (x2 : Int32) (M : Mem) : Int32 := (if x1 < 0 then (-2 : Int32) else (if x1 < (8 : Int32) then (f_X12_shape (412 + 4 * (x1).toNatClampNeg) x2 M) else (-2 : Int32)))
def q_X12_array (x1 : Int32) (x2 : Int32) (M : Mem) : Prop := (¬ x1 < 0 → (x1 < (8 : Int32) → (vp_in x1 8)))
theorem c_X12_array {x1 : Int32} {x2 : Int32} {M : Mem} {K : RT} (hW : Wf M) (hp : q_X12_array x1 x2 M) (h : K (some (.int (f_X12_array x1 x2 M))) M) : sp_X12_array [.ref 0, .int x1, .int x2] M K := by
  refine wX12_array hW  ?_
  unfold f_X12_array at h
  unfold q_X12_array at hp
  refine ⟨fun q0 => ?_, fun q0 => ?_⟩
  · skip
    try simp only [if_pos q0] at h
    first | exact h | contradiction
  · have hq0 := hp q0
    try simp only [if_neg q0] at h
    refine ⟨fun q1 => ?_, fun q1 => ?_⟩
    · have hq1 := hq0 q1
      try simp only [if_pos q1] at h
      refine ⟨hq1, ?_⟩
      first | exact h | contradiction
    · skip
      try simp only [if_neg q1] at h
      first | exact h | contradiction
set_option maxRecDepth 100000 in
theorem eX12_scalar {G : Nat → KT} {K : RT} (hc : cloX12_scalar G K wT) {x1 : Int32} {x2 : Int64} {M : Mem} (hW : Wf M) (h : (x1 < 0 → K (some (.int (0 : Int32))) M) ∧ (¬ x1 < 0 → ((x1 < (8 : Int32) → ((vp_in x1 8) ∧ K (some (.int (1 : Int32))) (m_X11_empty  (uL M 409 (x1).toNatClampNeg x2)))) ∧ (¬ x1 < (8 : Int32) → K (some (.int (0 : Int32))) M)))) : G 0 [some (.ref 0), some (.int x1), some (.long x2), none] [] M :=
  (hc.1 _ _ _ (i_iload rfl (i_if_lt (fun q1138 => (hc.2.2.1 _ _ _ (i_ic (i_zret (by decide) hW.1 (h.1 q1138))))) (fun q1138 => (hc.2.1 _ _ _ (i_iload rfl (i_ic (i_icmp_lt (fun q1139 => (hc.2.2.2 _ _ _ (i_aload rfl (i_getR (okS hW Sk_0) (nv_0_3 hW) (i_getR (okS hW Sk_405) (nv_405_3 hW) (i_iload rfl (i_lload rfl (i_last hW Ss_409 ((h.2 q1138).1 q1139).1 (i_aload rfl (i_getR (okS hW Sk_0) (nv_0_1 hW) (i_getR (okS hW Sk_7) (nv_7_1 hW) (i_callV1 (Nat.le_of_ble_eq_true rfl) (okS hW Sk_10) (c_X11_empty hW  (i_rN (i_ic (i_zret (by decide) (Wf_m_X11_empty (M := (uL M 409 (x1).toNatClampNeg x2))  hW).1 ((h.2 q1138).1 q1139).2)))))))))))))))) (fun q1139 => (hc.2.2.1 _ _ _ (i_ic (i_zret (by decide) hW.1 ((h.2 q1138).2 q1139)))))))))))))
theorem wX12_scalar {x1 : Int32} {x2 : Int64} {M : Mem} {K : RT} (hW : Wf M) (h : (x1 < 0 → K (some (.int (0 : Int32))) M) ∧ (¬ x1 < 0 → ((x1 < (8 : Int32) → ((vp_in x1 8) ∧ K (some (.int (1 : Int32))) (m_X11_empty  (uL M 409 (x1).toNatClampNeg x2)))) ∧ (¬ x1 < (8 : Int32) → K (some (.int (0 : Int32))) M)))) : sp_X12_scalar [.ref 0, .int x1, .long x2] M K := by
  refine ⟨Nat.le_of_ble_eq_true rfl, fun G hc => ?_⟩
  rw [hW.1] at hc
  exact eX12_scalar hc hW  h
def P_X12_scalar (x1 : Int32) (x2 : Int64) : Prop := ((¬ x1 < 0) ∧ (x1 < (8 : Int32)))
noncomputable def m_X12_scalar (x1 : Int32) (x2 : Int64) (M : Mem) : Mem := (if x1 < 0 then M else (if x1 < (8 : Int32) then (m_X11_empty  (uL M 409 (x1).toNatClampNeg x2)) else M))
def q_X12_scalar (x1 : Int32) (x2 : Int64) : Prop := (¬ x1 < 0 → (x1 < (8 : Int32) → (vp_in x1 8)))
theorem c_X12_scalar {x1 : Int32} {x2 : Int64} {M : Mem} {K : RT} (hW : Wf M) (hp : q_X12_scalar x1 x2) (h : K (some (.int (pI (P_X12_scalar x1 x2)))) (m_X12_scalar x1 x2 M)) : sp_X12_scalar [.ref 0, .int x1, .long x2] M K := by
  refine wX12_scalar hW  ?_
  unfold P_X12_scalar at h
  unfold q_X12_scalar at hp
  unfold m_X12_scalar at h
  refine ⟨fun q0 => ?_, fun q0 => ?_⟩
  · skip
    try simp only [if_pos q0] at h
    exact pI_goF h (by simp only [eq_true q0, not_true_eq_false, not_false_eq_true, true_and, false_and, and_true, and_false, true_or, or_true, false_or, or_false, iff_self])
  · have hq0 := hp q0
    try simp only [if_neg q0] at h
    refine ⟨fun q1 => ?_, fun q1 => ?_⟩
    · have hq1 := hq0 q1
      try simp only [if_pos q1] at h
      refine ⟨hq1, ?_⟩
      exact pI_goT h (by simp only [eq_false q0, eq_true q1, not_true_eq_false, not_false_eq_true, true_and, false_and, and_true, and_false, true_or, or_true, false_or, or_false, iff_self])
    · skip
      try simp only [if_neg q1] at h
      exact pI_goF h (by simp only [eq_false q0, eq_false q1, not_true_eq_false, not_false_eq_true, true_and, false_and, and_true, and_false, true_or, or_true, false_or, or_false, iff_self])
theorem Wf_m_X12_scalar (x1 : Int32) (x2 : Int64) {M : Mem} (hW : Wf M) : Wf (m_X12_scalar x1 x2 M) := by
  unfold m_X12_scalar
  split
  · skip
    exact hW
  · skip
    split
    · skip
      exact (Wf_m_X11_empty (M := (uL M 409 (x1).toNatClampNeg x2))  hW)
    · skip
      exact hW
set_option maxRecDepth 100000 in
theorem eX12_scalarOf {G : Nat → KT} {K : RT} {X : Mem → Prop} (hc : cloX12_scalarOf G K X wT) {x1 : Int32} {M : Mem} (hW : Wf M) (h : (x1 < 0 → X M) ∧ (¬ x1 < 0 → ((x1 < (8 : Int32) → ((vp_in x1 8) ∧ K (some (.long (gL M 409 (x1).toNatClampNeg))) M)) ∧ (¬ x1 < (8 : Int32) → X M)))) : G 0 [some (.ref 0), some (.int x1)] [] M :=
  (hc.1 _ _ _ (i_iload rfl (i_if_lt (fun q1142 => (hc.2.2.1 _ _ _ (i_throw (Nat.le_of_ble_eq_true rfl) hW.1 (h.1 q1142)))) (fun q1142 => (hc.2.1 _ _ _ (i_iload rfl (i_ic (i_icmp_lt (fun q1143 => (hc.2.2.2 _ _ _ (i_aload rfl (i_getR (okS hW Sk_0) (nv_0_3 hW) (i_getR (okS hW Sk_405) (nv_405_3 hW) (i_iload rfl (i_lald hW Ss_409 ((h.2 q1142).1 q1143).1 (i_lret hW.1 ((h.2 q1142).1 q1143).2)))))))) (fun q1143 => (hc.2.2.1 _ _ _ (i_throw (Nat.le_of_ble_eq_true rfl) hW.1 ((h.2 q1142).2 q1143))))))))))))
theorem wX12_scalarOf {x1 : Int32} {M : Mem} {K : RT} {X : Mem → Prop} (hW : Wf M) (h : (x1 < 0 → X M) ∧ (¬ x1 < 0 → ((x1 < (8 : Int32) → ((vp_in x1 8) ∧ K (some (.long (gL M 409 (x1).toNatClampNeg))) M)) ∧ (¬ x1 < (8 : Int32) → X M)))) : sp_X12_scalarOf [.ref 0, .int x1] M K X := by
  refine ⟨Nat.le_of_ble_eq_true rfl, fun G hc => ?_⟩
  rw [hW.1] at hc
  exact eX12_scalarOf hc hW  h
set_option maxRecDepth 100000 in
theorem eX12_register {G : Nat → KT} {K : RT} (hc : cloX12_register G K wT) {x1 : Int32} {x2 : Int32} {M : Mem} (hW : Wf M) (h : (x1 < 0 → K (some (.int (-2 : Int32))) M) ∧ (¬ x1 < 0 → ((x1 < (8 : Int32) → ((vp_in x1 8) ∧ K (some (.int (f_X12_shape (410 + 4 * (x1).toNatClampNeg) x2 M))) M)) ∧ (¬ x1 < (8 : Int32) → K (some (.int (-2 : Int32))) M)))) : G 0 [some (.ref 0), some (.int x1), some (.int x2)] [] M :=
  (hc.1 _ _ _ (i_iload rfl (i_if_lt (fun q1144 => (hc.2.2.1 _ _ _ (i_ic (hc.2.2.2.2 _ _ _ (i_iret hW.1 (h.1 q1144)))))) (fun q1144 => (hc.2.1 _ _ _ (i_iload rfl (i_ic (i_icmp_lt (fun q1145 => (hc.2.2.2.1 _ _ _ (i_aload rfl (i_getR (okS hW Sk_0) (nv_0_3 hW) (i_getR (okS hW Sk_405) (nv_405_0 hW) (i_iload rfl (i_aald hW Ss_406 ((h.2 q1144).1 q1145).1 (nvRegN (a := 405) (s := 410) rfl hW Sk_405 (vp_lt ((h.2 q1144).1 q1145).1)) (i_iload rfl (i_callS2 (Nat.le_of_ble_eq_true rfl) (c_X12_shape hW (SstRN (a := 405) (s := 410) rfl Sk_405 (vp_lt ((h.2 q1144).1 q1145).1)) (i_rI (hc.2.2.2.2 _ _ _ (i_iret hW.1 ((h.2 q1144).1 q1145).2))))))))))))) (fun q1145 => (hc.2.2.1 _ _ _ (i_ic (hc.2.2.2.2 _ _ _ (i_iret hW.1 ((h.2 q1144).2 q1145))))))))))))))
theorem wX12_register {x1 : Int32} {x2 : Int32} {M : Mem} {K : RT} (hW : Wf M) (h : (x1 < 0 → K (some (.int (-2 : Int32))) M) ∧ (¬ x1 < 0 → ((x1 < (8 : Int32) → ((vp_in x1 8) ∧ K (some (.int (f_X12_shape (410 + 4 * (x1).toNatClampNeg) x2 M))) M)) ∧ (¬ x1 < (8 : Int32) → K (some (.int (-2 : Int32))) M)))) : sp_X12_register [.ref 0, .int x1, .int x2] M K := by
  refine ⟨Nat.le_of_ble_eq_true rfl, fun G hc => ?_⟩
  rw [hW.1] at hc
  exact eX12_register hc hW  h
noncomputable def f_X12_register (x1 : Int32) (x2 : Int32) (M : Mem) : Int32 := (if x1 < 0 then (-2 : Int32) else (if x1 < (8 : Int32) then (f_X12_shape (410 + 4 * (x1).toNatClampNeg) x2 M) else (-2 : Int32)))
def q_X12_register (x1 : Int32) (x2 : Int32) (M : Mem) : Prop := (¬ x1 < 0 → (x1 < (8 : Int32) → (vp_in x1 8)))
theorem c_X12_register {x1 : Int32} {x2 : Int32} {M : Mem} {K : RT} (hW : Wf M) (hp : q_X12_register x1 x2 M) (h : K (some (.int (f_X12_register x1 x2 M))) M) : sp_X12_register [.ref 0, .int x1, .int x2] M K := by
  refine wX12_register hW  ?_
  unfold f_X12_register at h
  unfold q_X12_register at hp
  refine ⟨fun q0 => ?_, fun q0 => ?_⟩
  · skip
    try simp only [if_pos q0] at h
    first | exact h | contradiction
  · have hq0 := hp q0
    try simp only [if_neg q0] at h
    refine ⟨fun q1 => ?_, fun q1 => ?_⟩
    · have hq1 := hq0 q1
      try simp only [if_pos q1] at h
      refine ⟨hq1, ?_⟩
      first | exact h | contradiction
    · skip
      try simp only [if_neg q1] at h
      first | exact h | contradiction
set_option maxRecDepth 100000 in
theorem eX12_lane {G : Nat → KT} {K : RT} {X : Mem → Prop} (hc : cloX12_lane G K X wT) {x1 : Int32} {x2 : Int32} {M : Mem} (hW : Wf M) (h : (x1 < 0 → X M) ∧ (¬ x1 < 0 → (((8 : Int32) ≤ x1 → X M) ∧ (¬ (8 : Int32) ≤ x1 → ((vp_in x1 8) ∧ (((P_X8_has (410 + 4 * (x1).toNatClampNeg) x2 M) → ((vp_in x1 8) ∧ ((vp_in x2 64) ∧ K (some (.long (gL M ((410 + 4 * (x1).toNatClampNeg) + 1) (x2).toNatClampNeg))) M))) ∧ (¬ (P_X8_has (410 + 4 * (x1).toNatClampNeg) x2 M) → X M))))))) : G 0 [some (.ref 0), some (.int x1), some (.int x2)] [] M :=
  (hc.1 _ _ _ (i_iload rfl (i_if_lt (fun q1149 => (hc.2.2.2.1 _ _ _ (i_throw (Nat.le_of_ble_eq_true rfl) hW.1 (h.1 q1149)))) (fun q1149 => (hc.2.1 _ _ _ (i_iload rfl (i_ic (i_icmp_ge (fun q1150 => (hc.2.2.2.1 _ _ _ (i_throw (Nat.le_of_ble_eq_true rfl) hW.1 ((h.2 q1149).1 q1150)))) (fun q1150 => (hc.2.2.1 _ _ _ (i_aload rfl (i_getR (okS hW Sk_0) (nv_0_3 hW) (i_getR (okS hW Sk_405) (nv_405_0 hW) (i_iload rfl (i_aald hW Ss_406 ((h.2 q1149).2 q1150).1 (nvRegN (a := 405) (s := 410) rfl hW Sk_405 (vp_lt ((h.2 q1149).2 q1150).1)) (i_iload rfl (i_callV2 (Nat.le_of_ble_eq_true rfl) (okS hW (SstRN (a := 405) (s := 410) rfl Sk_405 (vp_lt ((h.2 q1149).2 q1150).1))) (c_X8_has hW (SstRN (a := 405) (s := 410) rfl Sk_405 (vp_lt ((h.2 q1149).2 q1150).1)) (i_rI (i_bI_ne (fun q1151 => (hc.2.2.2.2 _ _ _ (i_aload rfl (i_getR (okS hW Sk_0) (nv_0_3 hW) (i_getR (okS hW Sk_405) (nv_405_0 hW) (i_iload rfl (i_aald hW Ss_406 (((h.2 q1149).2 q1150).2.1 q1151).1 (nvRegN (a := 405) (s := 410) rfl hW Sk_405 (vp_lt (((h.2 q1149).2 q1150).2.1 q1151).1)) (i_getR (okS hW (SstRN (a := 405) (s := 410) rfl Sk_405 (vp_lt (((h.2 q1149).2 q1150).2.1 q1151).1))) (nvRow hW (SstRN (a := 405) (s := 410) rfl Sk_405 (vp_lt (((h.2 q1149).2 q1150).2.1 q1151).1))) (i_iload rfl (i_lald hW (Srow (SstRN (a := 405) (s := 410) rfl Sk_405 (vp_lt (((h.2 q1149).2 q1150).2.1 q1151).1))) (((h.2 q1149).2 q1150).2.1 q1151).2.1 (i_lret hW.1 (((h.2 q1149).2 q1150).2.1 q1151).2.2))))))))))) (fun q1151 => (hc.2.2.2.1 _ _ _ (i_throw (Nat.le_of_ble_eq_true rfl) hW.1 (((h.2 q1149).2 q1150).2.2 q1151))))))))))))))))))))))))
theorem wX12_lane {x1 : Int32} {x2 : Int32} {M : Mem} {K : RT} {X : Mem → Prop} (hW : Wf M) (h : (x1 < 0 → X M) ∧ (¬ x1 < 0 → (((8 : Int32) ≤ x1 → X M) ∧ (¬ (8 : Int32) ≤ x1 → ((vp_in x1 8) ∧ (((P_X8_has (410 + 4 * (x1).toNatClampNeg) x2 M) → ((vp_in x1 8) ∧ ((vp_in x2 64) ∧ K (some (.long (gL M ((410 + 4 * (x1).toNatClampNeg) + 1) (x2).toNatClampNeg))) M))) ∧ (¬ (P_X8_has (410 + 4 * (x1).toNatClampNeg) x2 M) → X M))))))) : sp_X12_lane [.ref 0, .int x1, .int x2] M K X := by
  refine ⟨Nat.le_of_ble_eq_true rfl, fun G hc => ?_⟩
  rw [hW.1] at hc
  exact eX12_lane hc hW  h
set_option maxRecDepth 100000 in
theorem eX12_mask {G : Nat → KT} {K : RT} (hc : cloX12_mask G K wT) {x1 : Int32} {M : Mem} (hW : Wf M) (h : (x1 < 0 → K (some (.int (0 : Int32))) M) ∧ (¬ x1 < 0 → ((x1 < (4 : Int32) → ((vp_in x1 4) ∧ K (some (.int (gI M 408 (x1).toNatClampNeg))) M)) ∧ (¬ x1 < (4 : Int32) → K (some (.int (0 : Int32))) M)))) : G 0 [some (.ref 0), some (.int x1)] [] M :=
  (hc.1 _ _ _ (i_iload rfl (i_if_lt (fun q1152 => (hc.2.2.1 _ _ _ (i_ic (hc.2.2.2.2 _ _ _ (i_iret hW.1 (h.1 q1152)))))) (fun q1152 => (hc.2.1 _ _ _ (i_iload rfl (i_ic (i_icmp_lt (fun q1153 => (hc.2.2.2.1 _ _ _ (i_aload rfl (i_getR (okS hW Sk_0) (nv_0_3 hW) (i_getR (okS hW Sk_405) (nv_405_2 hW) (i_iload rfl (i_iald hW Ss_408 ((h.2 q1152).1 q1153).1 (hc.2.2.2.2 _ _ _ (i_iret hW.1 ((h.2 q1152).1 q1153).2))))))))) (fun q1153 => (hc.2.2.1 _ _ _ (i_ic (hc.2.2.2.2 _ _ _ (i_iret hW.1 ((h.2 q1152).2 q1153))))))))))))))
theorem wX12_mask {x1 : Int32} {M : Mem} {K : RT} (hW : Wf M) (h : (x1 < 0 → K (some (.int (0 : Int32))) M) ∧ (¬ x1 < 0 → ((x1 < (4 : Int32) → ((vp_in x1 4) ∧ K (some (.int (gI M 408 (x1).toNatClampNeg))) M)) ∧ (¬ x1 < (4 : Int32) → K (some (.int (0 : Int32))) M)))) : sp_X12_mask [.ref 0, .int x1] M K := by
  refine ⟨Nat.le_of_ble_eq_true rfl, fun G hc => ?_⟩
  rw [hW.1] at hc
  exact eX12_mask hc hW  h
noncomputable def f_X12_mask (x1 : Int32) (M : Mem) : Int32 := (if x1 < 0 then (0 : Int32) else (if x1 < (4 : Int32) then (gI M 408 (x1).toNatClampNeg) else (0 : Int32)))
def q_X12_mask (x1 : Int32) (M : Mem) : Prop := (¬ x1 < 0 → (x1 < (4 : Int32) → (vp_in x1 4)))
theorem c_X12_mask {x1 : Int32} {M : Mem} {K : RT} (hW : Wf M) (hp : q_X12_mask x1 M) (h : K (some (.int (f_X12_mask x1 M))) M) : sp_X12_mask [.ref 0, .int x1] M K := by
  refine wX12_mask hW  ?_
  unfold f_X12_mask at h
  unfold q_X12_mask at hp
  refine ⟨fun q0 => ?_, fun q0 => ?_⟩
  · skip
    try simp only [if_pos q0] at h
    first | exact h | contradiction
  · have hq0 := hp q0
    try simp only [if_neg q0] at h
    refine ⟨fun q1 => ?_, fun q1 => ?_⟩
    · have hq1 := hq0 q1
      try simp only [if_pos q1] at h
      refine ⟨hq1, ?_⟩
      first | exact h | contradiction
    · skip
      try simp only [if_neg q1] at h
      first | exact h | contradiction
set_option maxRecDepth 100000 in
theorem eX12_stop {G : Nat → KT} {K : RT} (hc : cloX12_stop G K wT) {x1 : Int32} {x2 : Int32} {M : Mem} (hW : Wf M) (h : (¬ (P_X6_has 8 x1 M) → K (some (.int (0 : Int32))) M) ∧ ((P_X6_has 8 x1 M) → ((q_X12_isStop x1 M) ∧ ((¬ (pI (P_X12_isStop x1 M)) = x2 → ((vp_in x1 100) ∧ K (some (.int (1 : Int32))) (uI M 455 (x1).toNatClampNeg (vp_nar .boolean x2)))) ∧ ((pI (P_X12_isStop x1 M)) = x2 → K (some (.int (0 : Int32))) M))))) : G 0 [some (.ref 0), some (.int x1), some (.int x2)] [] M :=
  (hc.1 _ _ _ (i_aload rfl (i_getR (okS hW Sk_0) (nv_0_2 hW) (i_iload rfl (i_callV2 (Nat.le_of_ble_eq_true rfl) (okS hW Sk_8) (c_X6_has hW Sk_8 (i_rI (i_bI_eq (fun q1154 => (hc.2.2.1 _ _ _ (i_ic (i_zret (by decide) hW.1 (h.1 q1154))))) (fun q1154 => (hc.2.1 _ _ _ (i_aload rfl (i_iload rfl (i_callV2 (Nat.le_of_ble_eq_true rfl) (okS hW Sk_0) (c_X12_isStop hW  (h.2 q1154).1 (i_rI (i_iload rfl (i_icmp_ne (fun q1155 => (hc.2.2.2 _ _ _ (i_aload rfl (i_getR (okS hW Sk_0) (nv_0_8 hW) (i_iload rfl (i_iload rfl (i_zast hW Ss_455 ((h.2 q1154).2.1 q1155).1 (i_ic (i_zret (by decide) hW.1 ((h.2 q1154).2.1 q1155).2))))))))) (fun q1155 => (hc.2.2.1 _ _ _ (i_ic (i_zret (by decide) hW.1 ((h.2 q1154).2.2 q1155))))))))))))))))))))))
theorem wX12_stop {x1 : Int32} {x2 : Int32} {M : Mem} {K : RT} (hW : Wf M) (h : (¬ (P_X6_has 8 x1 M) → K (some (.int (0 : Int32))) M) ∧ ((P_X6_has 8 x1 M) → ((q_X12_isStop x1 M) ∧ ((¬ (pI (P_X12_isStop x1 M)) = x2 → ((vp_in x1 100) ∧ K (some (.int (1 : Int32))) (uI M 455 (x1).toNatClampNeg (vp_nar .boolean x2)))) ∧ ((pI (P_X12_isStop x1 M)) = x2 → K (some (.int (0 : Int32))) M))))) : sp_X12_stop [.ref 0, .int x1, .int x2] M K := by
  refine ⟨Nat.le_of_ble_eq_true rfl, fun G hc => ?_⟩
  rw [hW.1] at hc
  exact eX12_stop hc hW  h
def P_X12_stop (x1 : Int32) (x2 : Int32) (M : Mem) : Prop := (((P_X6_has 8 x1 M)) ∧ (¬ (pI (P_X12_isStop x1 M)) = x2))
noncomputable def m_X12_stop (x1 : Int32) (x2 : Int32) (M : Mem) : Mem := (iT ((P_X6_has 8 x1 M)) (iT ((pI (P_X12_isStop x1 M)) = x2) M (uI M 455 (x1).toNatClampNeg (vp_nar .boolean x2))) M)
def q_X12_stop (x1 : Int32) (x2 : Int32) (M : Mem) : Prop := ((P_X6_has 8 x1 M) → ((q_X12_isStop x1 M) ∧ (¬ (pI (P_X12_isStop x1 M)) = x2 → (vp_in x1 100))))
theorem c_X12_stop {x1 : Int32} {x2 : Int32} {M : Mem} {K : RT} (hW : Wf M) (hp : q_X12_stop x1 x2 M) (h : K (some (.int (pI (P_X12_stop x1 x2 M)))) (m_X12_stop x1 x2 M)) : sp_X12_stop [.ref 0, .int x1, .int x2] M K := by
  refine wX12_stop hW  ?_
  unfold P_X12_stop at h
  unfold q_X12_stop at hp
  unfold m_X12_stop at h
  refine ⟨fun q0 => ?_, fun q0 => ?_⟩
  · skip
    try simp only [iT_f q0] at h
    exact pI_goF h (by simp only [eq_false q0, not_true_eq_false, not_false_eq_true, true_and, false_and, and_true, and_false, true_or, or_true, false_or, or_false, iff_self])
  · have hq0 := hp q0
    try simp only [iT_t q0] at h
    refine ⟨hq0.1, ?_⟩
    refine ⟨fun q1 => ?_, fun q1 => ?_⟩
    · have hq1 := hq0.2 q1
      try simp only [iT_f q1] at h
      refine ⟨hq1, ?_⟩
      exact pI_goT h (by simp only [eq_true q0, eq_false q1, not_true_eq_false, not_false_eq_true, true_and, false_and, and_true, and_false, true_or, or_true, false_or, or_false, iff_self])
    · skip
      try simp only [iT_t q1] at h
      exact pI_goF h (by simp only [eq_true q0, eq_true q1, not_true_eq_false, not_false_eq_true, true_and, false_and, and_true, and_false, true_or, or_true, false_or, or_false, iff_self])
theorem Wf_m_X12_stop (x1 : Int32) (x2 : Int32) {M : Mem} (hW : Wf M) : Wf (m_X12_stop x1 x2 M) := by
  unfold m_X12_stop
  try unfold iT
  split
  · skip
    try unfold iT
    split
    · skip
      exact hW
    · skip
      exact hW
  · skip
    exact hW
set_option maxRecDepth 100000 in
theorem eX12_watch {G : Nat → KT} {K : RT} (hc : cloX12_watch G K wT) {x1 : Int32} {x2 : Int32} {x3 : Int32} {M : Mem} (hW : Wf M) (h : (x1 < 0 → K (some (.int (0 : Int32))) M) ∧ (¬ x1 < 0 → (((8 : Int32) ≤ x1 → K (some (.int (0 : Int32))) M) ∧ (¬ (8 : Int32) ≤ x1 → ((x2 < 0 → K (some (.int (0 : Int32))) M) ∧ (¬ x2 < 0 → ((x2 < (64 : Int32) → ((vp_in x1 8) ∧ ((((gL M 456 (x1).toNatClampNeg) &&& ((1 : Int64) <<< (x2.toInt64 &&& 63))) = (0 : Int64) → ((¬ (0 : Int32) = x3 → ((vp_in x1 8) ∧ ((vp_in x1 8) ∧ K (some (.int (1 : Int32))) (uL M 456 (x1).toNatClampNeg ((gL M 456 (x1).toNatClampNeg) ^^^ ((1 : Int64) <<< (x2.toInt64 &&& 63))))))) ∧ ((0 : Int32) = x3 → K (some (.int (0 : Int32))) M))) ∧ (¬ ((gL M 456 (x1).toNatClampNeg) &&& ((1 : Int64) <<< (x2.toInt64 &&& 63))) = (0 : Int64) → ((¬ (1 : Int32) = x3 → ((vp_in x1 8) ∧ ((vp_in x1 8) ∧ K (some (.int (1 : Int32))) (uL M 456 (x1).toNatClampNeg ((gL M 456 (x1).toNatClampNeg) ^^^ ((1 : Int64) <<< (x2.toInt64 &&& 63))))))) ∧ ((1 : Int32) = x3 → K (some (.int (0 : Int32))) M)))))) ∧ (¬ x2 < (64 : Int32) → K (some (.int (0 : Int32))) M)))))))) : G 0 [some (.ref 0), some (.int x1), some (.int x2), some (.int x3), none, none] [] M :=
  (hc.1 _ _ _ (i_iload rfl (i_if_lt (fun q1156 => (hc.2.2.2.2.1 _ _ _ (i_ic (i_zret (by decide) hW.1 (h.1 q1156))))) (fun q1156 => (hc.2.1 _ _ _ (i_iload rfl (i_ic (i_icmp_ge (fun q1157 => (hc.2.2.2.2.1 _ _ _ (i_ic (i_zret (by decide) hW.1 ((h.2 q1156).1 q1157))))) (fun q1157 => (hc.2.2.1 _ _ _ (i_iload rfl (i_if_lt (fun q1158 => (hc.2.2.2.2.1 _ _ _ (i_ic (i_zret (by decide) hW.1 (((h.2 q1156).2 q1157).1 q1158))))) (fun q1158 => (hc.2.2.2.1 _ _ _ (i_iload rfl (i_ic (i_icmp_lt (fun q1159 => (hc.2.2.2.2.2.1 _ _ _ (i_lc (i_iload rfl (i_lshl (i_lstore (Nat.le_of_ble_eq_true rfl) (i_aload rfl (i_getR (okS hW Sk_0) (nv_0_9 hW) (i_iload rfl (i_lald hW Ss_456 ((((h.2 q1156).2 q1157).2 q1158).1 q1159).1 (i_lload rfl (i_land (i_lc (i_lcmp (i_lcmp_eq (fun q1160 => (hc.2.2.2.2.2.2.2.1 _ _ _ (i_ic (hc.2.2.2.2.2.2.2.2.1 _ _ _ (i_iload rfl (i_icmp_ne (fun q1161 => (hc.2.2.2.2.2.2.2.2.2.2 _ _ _ (i_aload rfl (i_getR (okS hW Sk_0) (nv_0_9 hW) (i_iload rfl (i_dup2 rfl rfl (i_lald hW Ss_456 ((((((h.2 q1156).2 q1157).2 q1158).1 q1159).2.1 q1160).1 q1161).1 (i_lload rfl (i_lxor (i_last hW Ss_456 ((((((h.2 q1156).2 q1157).2 q1158).1 q1159).2.1 q1160).1 q1161).2.1 (i_ic (i_zret (by decide) hW.1 ((((((h.2 q1156).2 q1157).2 q1158).1 q1159).2.1 q1160).1 q1161).2.2)))))))))))) (fun q1161 => (hc.2.2.2.2.2.2.2.2.2.1 _ _ _ (i_ic (i_zret (by decide) hW.1 ((((((h.2 q1156).2 q1157).2 q1158).1 q1159).2.1 q1160).2 q1161))))))))))) (fun q1160 => (hc.2.2.2.2.2.2.1 _ _ _ (i_ic (hc.2.2.2.2.2.2.2.2.1 _ _ _ (i_iload rfl (i_icmp_ne (fun q1162 => (hc.2.2.2.2.2.2.2.2.2.2 _ _ _ (i_aload rfl (i_getR (okS hW Sk_0) (nv_0_9 hW) (i_iload rfl (i_dup2 rfl rfl (i_lald hW Ss_456 ((((((h.2 q1156).2 q1157).2 q1158).1 q1159).2.2 q1160).1 q1162).1 (i_lload rfl (i_lxor (i_last hW Ss_456 ((((((h.2 q1156).2 q1157).2 q1158).1 q1159).2.2 q1160).1 q1162).2.1 (i_ic (i_zret (by decide) hW.1 ((((((h.2 q1156).2 q1157).2 q1158).1 q1159).2.2 q1160).1 q1162).2.2)))))))))))) (fun q1162 => (hc.2.2.2.2.2.2.2.2.2.1 _ _ _ (i_ic (i_zret (by decide) hW.1 ((((((h.2 q1156).2 q1157).2 q1158).1 q1159).2.2 q1160).2 q1162)))))))))))))))))))))))))) (fun q1159 => (hc.2.2.2.2.1 _ _ _ (i_ic (i_zret (by decide) hW.1 ((((h.2 q1156).2 q1157).2 q1158).2 q1159))))))))))))))))))))))
theorem wX12_watch {x1 : Int32} {x2 : Int32} {x3 : Int32} {M : Mem} {K : RT} (hW : Wf M) (h : (x1 < 0 → K (some (.int (0 : Int32))) M) ∧ (¬ x1 < 0 → (((8 : Int32) ≤ x1 → K (some (.int (0 : Int32))) M) ∧ (¬ (8 : Int32) ≤ x1 → ((x2 < 0 → K (some (.int (0 : Int32))) M) ∧ (¬ x2 < 0 → ((x2 < (64 : Int32) → ((vp_in x1 8) ∧ ((((gL M 456 (x1).toNatClampNeg) &&& ((1 : Int64) <<< (x2.toInt64 &&& 63))) = (0 : Int64) → ((¬ (0 : Int32) = x3 → ((vp_in x1 8) ∧ ((vp_in x1 8) ∧ K (some (.int (1 : Int32))) (uL M 456 (x1).toNatClampNeg ((gL M 456 (x1).toNatClampNeg) ^^^ ((1 : Int64) <<< (x2.toInt64 &&& 63))))))) ∧ ((0 : Int32) = x3 → K (some (.int (0 : Int32))) M))) ∧ (¬ ((gL M 456 (x1).toNatClampNeg) &&& ((1 : Int64) <<< (x2.toInt64 &&& 63))) = (0 : Int64) → ((¬ (1 : Int32) = x3 → ((vp_in x1 8) ∧ ((vp_in x1 8) ∧ K (some (.int (1 : Int32))) (uL M 456 (x1).toNatClampNeg ((gL M 456 (x1).toNatClampNeg) ^^^ ((1 : Int64) <<< (x2.toInt64 &&& 63))))))) ∧ ((1 : Int32) = x3 → K (some (.int (0 : Int32))) M)))))) ∧ (¬ x2 < (64 : Int32) → K (some (.int (0 : Int32))) M)))))))) : sp_X12_watch [.ref 0, .int x1, .int x2, .int x3] M K := by
  refine ⟨Nat.le_of_ble_eq_true rfl, fun G hc => ?_⟩
  rw [hW.1] at hc
  exact eX12_watch hc hW  h
def P_X12_watch (x1 : Int32) (x2 : Int32) (x3 : Int32) (M : Mem) : Prop := ((¬ x1 < 0) ∧ ((¬ (8 : Int32) ≤ x1) ∧ ((¬ x2 < 0) ∧ ((x2 < (64 : Int32)) ∧ (((((gL M 456 (x1).toNatClampNeg) &&& ((1 : Int64) <<< (x2.toInt64 &&& 63))) = (0 : Int64)) ∧ (¬ (0 : Int32) = x3)) ∨ ((¬ ((gL M 456 (x1).toNatClampNeg) &&& ((1 : Int64) <<< (x2.toInt64 &&& 63))) = (0 : Int64)) ∧ (¬ (1 : Int32) = x3)))))))
noncomputable def m_X12_watch (x1 : Int32) (x2 : Int32) (x3 : Int32) (M : Mem) : Mem := (if x1 < 0 then M else (if (8 : Int32) ≤ x1 then M else (if x2 < 0 then M else (if x2 < (64 : Int32) then (if ((gL M 456 (x1).toNatClampNeg) &&& ((1 : Int64) <<< (x2.toInt64 &&& 63))) = (0 : Int64) then (if (0 : Int32) = x3 then M else (uL M 456 (x1).toNatClampNeg ((gL M 456 (x1).toNatClampNeg) ^^^ ((1 : Int64) <<< (x2.toInt64 &&& 63))))) else (if (1 : Int32) = x3 then M else (uL M 456 (x1).toNatClampNeg ((gL M 456 (x1).toNatClampNeg) ^^^ ((1 : Int64) <<< (x2.toInt64 &&& 63)))))) else M))))
def q_X12_watch (x1 : Int32) (x2 : Int32) (x3 : Int32) (M : Mem) : Prop := (¬ x1 < 0 → (¬ (8 : Int32) ≤ x1 → (¬ x2 < 0 → (x2 < (64 : Int32) → ((vp_in x1 8) ∧ ((((gL M 456 (x1).toNatClampNeg) &&& ((1 : Int64) <<< (x2.toInt64 &&& 63))) = (0 : Int64) → (¬ (0 : Int32) = x3 → ((vp_in x1 8) ∧ (vp_in x1 8)))) ∧ (¬ ((gL M 456 (x1).toNatClampNeg) &&& ((1 : Int64) <<< (x2.toInt64 &&& 63))) = (0 : Int64) → (¬ (1 : Int32) = x3 → ((vp_in x1 8) ∧ (vp_in x1 8))))))))))
theorem c_X12_watch {x1 : Int32} {x2 : Int32} {x3 : Int32} {M : Mem} {K : RT} (hW : Wf M) (hp : q_X12_watch x1 x2 x3 M) (h : K (some (.int (pI (P_X12_watch x1 x2 x3 M)))) (m_X12_watch x1 x2 x3 M)) : sp_X12_watch [.ref 0, .int x1, .int x2, .int x3] M K := by
  refine wX12_watch hW  ?_
  unfold P_X12_watch at h
  unfold q_X12_watch at hp
  unfold m_X12_watch at h
  refine ⟨fun q0 => ?_, fun q0 => ?_⟩
  · skip
    try simp only [if_pos q0] at h
    exact pI_goF h (by simp only [eq_true q0, not_true_eq_false, not_false_eq_true, true_and, false_and, and_true, and_false, true_or, or_true, false_or, or_false, iff_self])
  · have hq0 := hp q0
    try simp only [if_neg q0] at h
    refine ⟨fun q1 => ?_, fun q1 => ?_⟩
    · skip
      try simp only [if_pos q1] at h
      exact pI_goF h (by simp only [eq_false q0, eq_true q1, not_true_eq_false, not_false_eq_true, true_and, false_and, and_true, and_false, true_or, or_true, false_or, or_false, iff_self])
    · have hq1 := hq0 q1
      try simp only [if_neg q1] at h
      refine ⟨fun q2 => ?_, fun q2 => ?_⟩
      · skip
        try simp only [if_pos q2] at h
        exact pI_goF h (by simp only [eq_false q0, eq_false q1, eq_true q2, not_true_eq_false, not_false_eq_true, true_and, false_and, and_true, and_false, true_or, or_true, false_or, or_false, iff_self])
      · have hq2 := hq1 q2
        try simp only [if_neg q2] at h
        refine ⟨fun q3 => ?_, fun q3 => ?_⟩
        · have hq3 := hq2 q3
          try simp only [if_pos q3] at h
          refine ⟨hq3.1, ?_⟩
          refine ⟨fun q4 => ?_, fun q4 => ?_⟩
          · have hq4 := hq3.2.1 q4
            try simp only [if_pos q4] at h
            refine ⟨fun q5 => ?_, fun q5 => ?_⟩
            · have hq5 := hq4 q5
              try simp only [if_neg q5] at h
              refine ⟨hq5.1, ?_⟩
              refine ⟨hq5.2, ?_⟩
              exact pI_goT h (by simp only [eq_false q0, eq_false q1, eq_false q2, eq_true q3, eq_true q4, eq_false q5, not_true_eq_false, not_false_eq_true, true_and, false_and, and_true, and_false, true_or, or_true, false_or, or_false, iff_self])
            · skip
              try simp only [if_pos q5] at h
              exact pI_goF h (by simp only [eq_false q0, eq_false q1, eq_false q2, eq_true q3, eq_true q4, eq_true q5, not_true_eq_false, not_false_eq_true, true_and, false_and, and_true, and_false, true_or, or_true, false_or, or_false, iff_self])
          · have hq4 := hq3.2.2 q4
            try simp only [if_neg q4] at h
            refine ⟨fun q5 => ?_, fun q5 => ?_⟩
            · have hq5 := hq4 q5
              try simp only [if_neg q5] at h
              refine ⟨hq5.1, ?_⟩
              refine ⟨hq5.2, ?_⟩
              exact pI_goT h (by simp only [eq_false q0, eq_false q1, eq_false q2, eq_true q3, eq_false q4, eq_false q5, not_true_eq_false, not_false_eq_true, true_and, false_and, and_true, and_false, true_or, or_true, false_or, or_false, iff_self])
            · skip
              try simp only [if_pos q5] at h
              exact pI_goF h (by simp only [eq_false q0, eq_false q1, eq_false q2, eq_true q3, eq_false q4, eq_true q5, not_true_eq_false, not_false_eq_true, true_and, false_and, and_true, and_false, true_or, or_true, false_or, or_false, iff_self])
        · skip
          try simp only [if_neg q3] at h
          exact pI_goF h (by simp only [eq_false q0, eq_false q1, eq_false q2, eq_false q3, not_true_eq_false, not_false_eq_true, true_and, false_and, and_true, and_false, true_or, or_true, false_or, or_false, iff_self])
theorem Wf_m_X12_watch (x1 : Int32) (x2 : Int32) (x3 : Int32) {M : Mem} (hW : Wf M) : Wf (m_X12_watch x1 x2 x3 M) := by
  unfold m_X12_watch
  split
  · skip
    exact hW
  · skip
    split
    · skip
      exact hW
    · skip
      split
      · skip
        exact hW
      · skip
        split
        · skip
          split
          · skip
            split
            · skip
              exact hW
            · skip
              exact hW
          · skip
            split
            · skip
              exact hW
            · skip
              exact hW
        · skip
          exact hW
set_option maxRecDepth 100000 in
theorem eX12_trace {G : Nat → KT} {K : RT} (hc : cloX12_trace G K wT) {x1 : Int32} {x2 : Int32} {M : Mem} (hW : Wf M) (h : (x1 < 0 → K (some (.int (-1 : Int32))) M) ∧ (¬ x1 < 0 → (((gI M 10 0) ≤ x1 → K (some (.int (-1 : Int32))) M) ∧ (¬ (gI M 10 0) ≤ x1 → ((x2 < 0 → K (some (.int (-1 : Int32))) M) ∧ (¬ x2 < 0 → ((x2 ≤ (1 : Int32) → ((¬ x2 = 0 → ((vp_in (f_X11_slot x1 M) 64) ∧ K (some (.int (gI M 12 (f_X11_slot x1 M).toNatClampNeg))) M)) ∧ (x2 = 0 → ((vp_in (f_X11_slot x1 M) 64) ∧ K (some (.int (gI M 11 (f_X11_slot x1 M).toNatClampNeg))) M)))) ∧ (¬ x2 ≤ (1 : Int32) → K (some (.int (-1 : Int32))) M)))))))) : G 0 [some (.ref 0), some (.int x1), some (.int x2), none, none] [] M :=
  (hc.1 _ _ _ (i_aload rfl (i_getR (okS hW Sk_0) (nv_0_1 hW) (i_getR (okS hW Sk_7) (nv_7_1 hW) (i_astore (Nat.le_of_ble_eq_true rfl) (i_iload rfl (i_if_lt (fun q1163 => (hc.2.2.2.2.1 _ _ _ (i_ic (i_iret hW.1 (h.1 q1163))))) (fun q1163 => (hc.2.1 _ _ _ (i_iload rfl (i_aload rfl (i_getI (okS hW Sk_10) (i_icmp_ge (fun q1164 => (hc.2.2.2.2.1 _ _ _ (i_ic (i_iret hW.1 ((h.2 q1163).1 q1164))))) (fun q1164 => (hc.2.2.1 _ _ _ (i_iload rfl (i_if_lt (fun q1165 => (hc.2.2.2.2.1 _ _ _ (i_ic (i_iret hW.1 (((h.2 q1163).2 q1164).1 q1165))))) (fun q1165 => (hc.2.2.2.1 _ _ _ (i_iload rfl (i_ic (i_icmp_le (fun q1166 => (hc.2.2.2.2.2.1 _ _ _ (i_aload rfl (i_iload rfl (i_callV2 (Nat.le_of_ble_eq_true rfl) (okS hW Sk_10) (c_X11_slot hW  (i_rI (i_istore (Nat.le_of_ble_eq_true rfl) (i_iload rfl (i_if_ne (fun q1167 => (hc.2.2.2.2.2.2.2.1 _ _ _ (i_aload rfl (i_getR (okS hW Sk_10) (nv_10_2 hW) (i_iload rfl (i_iald hW Ss_12 (((((h.2 q1163).2 q1164).2 q1165).1 q1166).1 q1167).1 (hc.2.2.2.2.2.2.2.2 _ _ _ (i_iret hW.1 (((((h.2 q1163).2 q1164).2 q1165).1 q1166).1 q1167).2)))))))) (fun q1167 => (hc.2.2.2.2.2.2.1 _ _ _ (i_aload rfl (i_getR (okS hW Sk_10) (nv_10_1 hW) (i_iload rfl (i_iald hW Ss_11 (((((h.2 q1163).2 q1164).2 q1165).1 q1166).2 q1167).1 (hc.2.2.2.2.2.2.2.2 _ _ _ (i_iret hW.1 (((((h.2 q1163).2 q1164).2 q1165).1 q1166).2 q1167).2)))))))))))))))))) (fun q1166 => (hc.2.2.2.2.1 _ _ _ (i_ic (i_iret hW.1 ((((h.2 q1163).2 q1164).2 q1165).2 q1166)))))))))))))))))))))))))))
theorem wX12_trace {x1 : Int32} {x2 : Int32} {M : Mem} {K : RT} (hW : Wf M) (h : (x1 < 0 → K (some (.int (-1 : Int32))) M) ∧ (¬ x1 < 0 → (((gI M 10 0) ≤ x1 → K (some (.int (-1 : Int32))) M) ∧ (¬ (gI M 10 0) ≤ x1 → ((x2 < 0 → K (some (.int (-1 : Int32))) M) ∧ (¬ x2 < 0 → ((x2 ≤ (1 : Int32) → ((¬ x2 = 0 → ((vp_in (f_X11_slot x1 M) 64) ∧ K (some (.int (gI M 12 (f_X11_slot x1 M).toNatClampNeg))) M)) ∧ (x2 = 0 → ((vp_in (f_X11_slot x1 M) 64) ∧ K (some (.int (gI M 11 (f_X11_slot x1 M).toNatClampNeg))) M)))) ∧ (¬ x2 ≤ (1 : Int32) → K (some (.int (-1 : Int32))) M)))))))) : sp_X12_trace [.ref 0, .int x1, .int x2] M K := by
  refine ⟨Nat.le_of_ble_eq_true rfl, fun G hc => ?_⟩
  rw [hW.1] at hc
  exact eX12_trace hc hW  h
noncomputable def f_X12_trace (x1 : Int32) (x2 : Int32) (M : Mem) : Int32 := (if x1 < 0 then (-1 : Int32) else (if (gI M 10 0) ≤ x1 then (-1 : Int32) else (if x2 < 0 then (-1 : Int32) else (if x2 ≤ (1 : Int32) then (if x2 = 0 then (gI M 11 (f_X11_slot x1 M).toNatClampNeg) else (gI M 12 (f_X11_slot x1 M).toNatClampNeg)) else (-1 : Int32)))))
def q_X12_trace (x1 : Int32) (x2 : Int32) (M : Mem) : Prop := (¬ x1 < 0 → (¬ (gI M 10 0) ≤ x1 → (¬ x2 < 0 → (x2 ≤ (1 : Int32) → ((¬ x2 = 0 → (vp_in (f_X11_slot x1 M) 64)) ∧ (x2 = 0 → (vp_in (f_X11_slot x1 M) 64)))))))
theorem c_X12_trace {x1 : Int32} {x2 : Int32} {M : Mem} {K : RT} (hW : Wf M) (hp : q_X12_trace x1 x2 M) (h : K (some (.int (f_X12_trace x1 x2 M))) M) : sp_X12_trace [.ref 0, .int x1, .int x2] M K := by
  refine wX12_trace hW  ?_
  unfold f_X12_trace at h
  unfold q_X12_trace at hp
  refine ⟨fun q0 => ?_, fun q0 => ?_⟩
  · skip
    try simp only [if_pos q0] at h
    first | exact h | contradiction
  · have hq0 := hp q0
    try simp only [if_neg q0] at h
    refine ⟨fun q1 => ?_, fun q1 => ?_⟩
    · skip
      try simp only [if_pos q1] at h
      first | exact h | contradiction
    · have hq1 := hq0 q1
      try simp only [if_neg q1] at h
      refine ⟨fun q2 => ?_, fun q2 => ?_⟩
      · skip
        try simp only [if_pos q2] at h
        first | exact h | contradiction
      · have hq2 := hq1 q2
        try simp only [if_neg q2] at h
        refine ⟨fun q3 => ?_, fun q3 => ?_⟩
        · have hq3 := hq2 q3
          try simp only [if_pos q3] at h
          refine ⟨fun q4 => ?_, fun q4 => ?_⟩
          · have hq4 := hq3.1 q4
            try simp only [if_neg q4] at h
            refine ⟨hq4, ?_⟩
            first | exact h | contradiction
          · have hq4 := hq3.2 q4
            try simp only [if_pos q4] at h
            refine ⟨hq4, ?_⟩
            first | exact h | contradiction
        · skip
          try simp only [if_neg q3] at h
          first | exact h | contradiction
def RX12_keep_11_6 (G : Nat → KT) (K : RT) : KT := (w_aload 0 (w_getf 9 7 3 (w_iload 1 (w_ic 1 (w_zast (w_ic 1 (w_zret wT K)))))))
set_option maxRecDepth 100000 in
theorem eX12_keep {G : Nat → KT} {K : RT} (hc : cloX12_keep G K wT) {x1 : Int32} {M : Mem} (hW : Wf M) (h : (x1 < 0 → K (some (.int (0 : Int32))) M) ∧ (¬ x1 < 0 → ((x1 < (4 : Int32) → ((vp_in x1 4) ∧ sp_X10_copyFrom [.ref (457 + 37 * (x1).toNatClampNeg), .ref 405] M (fun v M' => RX12_keep_11_6 G K [some (.ref 0), some (.int x1)] (v.toList ++ []) M'))) ∧ (¬ x1 < (4 : Int32) → K (some (.int (0 : Int32))) M)))) : G 0 [some (.ref 0), some (.int x1)] [] M :=
  (hc.1 _ _ _ (i_iload rfl (i_if_lt (fun q1172 => (hc.2.2.1 _ _ _ (i_ic (i_zret (by decide) hW.1 (h.1 q1172))))) (fun q1172 => (hc.2.1 _ _ _ (i_iload rfl (i_ic (i_icmp_lt (fun q1173 => (hc.2.2.2 _ _ _ (i_aload rfl (i_getR (okS hW Sk_0) (nv_0_6 hW) (i_iload rfl (i_aald hW Ss_453 ((h.2 q1172).1 q1173).1 (nvKept hW (vp_lt ((h.2 q1172).1 q1173).1)) (i_aload rfl (i_getR (okS hW Sk_0) (nv_0_3 hW) (i_callV2 (Nat.le_of_ble_eq_true rfl) (okS hW (SKept (vp_lt ((h.2 q1172).1 q1173).1))) ((h.2 q1172).1 q1173).2))))))))) (fun q1173 => (hc.2.2.1 _ _ _ (i_ic (i_zret (by decide) hW.1 ((h.2 q1172).2 q1173)))))))))))))
set_option maxRecDepth 100000 in
theorem rX12_keep_11_6 {G : Nat → KT} {K : RT} (hc : cloX12_keep G K wT) {x1 : Int32} {M : Mem} (hW : Wf M) (h : (vp_in x1 4) ∧ K (some (.int (1 : Int32))) (uI M 454 (x1).toNatClampNeg (1 : Int32))) : RX12_keep_11_6 G K [some (.ref 0), some (.int x1)] (Option.toList none ++ []) M :=
  (i_rN (i_aload rfl (i_getR (okS hW Sk_0) (nv_0_7 hW) (i_iload rfl (i_ic (i_zast hW Ss_454 h.1 (i_ic (i_zret (by decide) hW.1 h.2))))))))
theorem wX12_keep {x1 : Int32} {M : Mem} {K : RT} (hW : Wf M) (h : ∀ {G : Nat → KT}, cloX12_keep G K wT → (x1 < 0 → K (some (.int (0 : Int32))) M) ∧ (¬ x1 < 0 → ((x1 < (4 : Int32) → ((vp_in x1 4) ∧ sp_X10_copyFrom [.ref (457 + 37 * (x1).toNatClampNeg), .ref 405] M (fun v M' => RX12_keep_11_6 G K [some (.ref 0), some (.int x1)] (v.toList ++ []) M'))) ∧ (¬ x1 < (4 : Int32) → K (some (.int (0 : Int32))) M)))) : sp_X12_keep [.ref 0, .int x1] M K := by
  refine ⟨Nat.le_of_ble_eq_true rfl, fun G hc => ?_⟩
  rw [hW.1] at hc
  exact eX12_keep hc hW  (h hc)
set_option maxRecDepth 100000 in
theorem eX12_isThere {G : Nat → KT} {K : RT} (hc : cloX12_isThere G K wT) {x1 : Int32} {M : Mem} (hW : Wf M) (h : (x1 = (-1 : Int32) → K (some (.int (1 : Int32))) M) ∧ (¬ x1 = (-1 : Int32) → ((x1 < 0 → K (some (.int (0 : Int32))) M) ∧ (¬ x1 < 0 → (((4 : Int32) ≤ x1 → K (some (.int (0 : Int32))) M) ∧ (¬ (4 : Int32) ≤ x1 → ((vp_in x1 4) ∧ (((gI M 454 (x1).toNatClampNeg) = 0 → K (some (.int (0 : Int32))) M) ∧ (¬ (gI M 454 (x1).toNatClampNeg) = 0 → K (some (.int (1 : Int32))) M))))))))) : G 0 [some (.ref 0), some (.int x1)] [] M :=
  (hc.1 _ _ _ (i_iload rfl (i_ic (i_icmp_eq (fun q1174 => (hc.2.2.2.2.1 _ _ _ (i_ic (hc.2.2.2.2.2.2 _ _ _ (i_zret (by decide) hW.1 (h.1 q1174)))))) (fun q1174 => (hc.2.1 _ _ _ (i_iload rfl (i_if_lt (fun q1175 => (hc.2.2.2.2.2.1 _ _ _ (i_ic (hc.2.2.2.2.2.2 _ _ _ (i_zret (by decide) hW.1 ((h.2 q1174).1 q1175)))))) (fun q1175 => (hc.2.2.1 _ _ _ (i_iload rfl (i_ic (i_icmp_ge (fun q1176 => (hc.2.2.2.2.2.1 _ _ _ (i_ic (hc.2.2.2.2.2.2 _ _ _ (i_zret (by decide) hW.1 (((h.2 q1174).2 q1175).1 q1176)))))) (fun q1176 => (hc.2.2.2.1 _ _ _ (i_aload rfl (i_getR (okS hW Sk_0) (nv_0_7 hW) (i_iload rfl (i_zald hW Ss_454 (((h.2 q1174).2 q1175).2 q1176).1 (i_if_eq (fun q1177 => (hc.2.2.2.2.2.1 _ _ _ (i_ic (hc.2.2.2.2.2.2 _ _ _ (i_zret (by decide) hW.1 ((((h.2 q1174).2 q1175).2 q1176).2.1 q1177)))))) (fun q1177 => (hc.2.2.2.2.1 _ _ _ (i_ic (hc.2.2.2.2.2.2 _ _ _ (i_zret (by decide) hW.1 ((((h.2 q1174).2 q1175).2 q1176).2.2 q1177))))))))))))))))))))))))))
theorem wX12_isThere {x1 : Int32} {M : Mem} {K : RT} (hW : Wf M) (h : (x1 = (-1 : Int32) → K (some (.int (1 : Int32))) M) ∧ (¬ x1 = (-1 : Int32) → ((x1 < 0 → K (some (.int (0 : Int32))) M) ∧ (¬ x1 < 0 → (((4 : Int32) ≤ x1 → K (some (.int (0 : Int32))) M) ∧ (¬ (4 : Int32) ≤ x1 → ((vp_in x1 4) ∧ (((gI M 454 (x1).toNatClampNeg) = 0 → K (some (.int (0 : Int32))) M) ∧ (¬ (gI M 454 (x1).toNatClampNeg) = 0 → K (some (.int (1 : Int32))) M))))))))) : sp_X12_isThere [.ref 0, .int x1] M K := by
  refine ⟨Nat.le_of_ble_eq_true rfl, fun G hc => ?_⟩
  rw [hW.1] at hc
  exact eX12_isThere hc hW  h
def P_X12_isThere (x1 : Int32) (M : Mem) : Prop := ((x1 = (-1 : Int32)) ∨ ((¬ x1 < 0) ∧ ((¬ (4 : Int32) ≤ x1) ∧ (¬ (gI M 454 (x1).toNatClampNeg) = 0))))
def q_X12_isThere (x1 : Int32) (M : Mem) : Prop := (¬ x1 = (-1 : Int32) → (¬ x1 < 0 → (¬ (4 : Int32) ≤ x1 → (vp_in x1 4))))
theorem c_X12_isThere {x1 : Int32} {M : Mem} {K : RT} (hW : Wf M) (hp : q_X12_isThere x1 M) (h : K (some (.int (pI (P_X12_isThere x1 M)))) M) : sp_X12_isThere [.ref 0, .int x1] M K := by
  refine wX12_isThere hW  ?_
  unfold P_X12_isThere at h
  unfold q_X12_isThere at hp
  refine ⟨fun q0 => ?_, fun q0 => ?_⟩
  · skip
    exact pI_goT h (by simp only [eq_true q0, not_true_eq_false, not_false_eq_true, true_and, false_and, and_true, and_false, true_or, or_true, false_or, or_false, iff_self])
  · have hq0 := hp q0
    refine ⟨fun q1 => ?_, fun q1 => ?_⟩
    · skip
      exact pI_goF h (by simp only [eq_false q0, eq_true q1, not_true_eq_false, not_false_eq_true, true_and, false_and, and_true, and_false, true_or, or_true, false_or, or_false, iff_self])
    · have hq1 := hq0 q1
      refine ⟨fun q2 => ?_, fun q2 => ?_⟩
      · skip
        exact pI_goF h (by simp only [eq_false q0, eq_false q1, eq_true q2, not_true_eq_false, not_false_eq_true, true_and, false_and, and_true, and_false, true_or, or_true, false_or, or_false, iff_self])
      · have hq2 := hq1 q2
        refine ⟨hq2, ?_⟩
        refine ⟨fun q3 => ?_, fun q3 => ?_⟩
        · skip
          exact pI_goF h (by simp only [eq_false q0, eq_false q1, eq_false q2, eq_true q3, not_true_eq_false, not_false_eq_true, true_and, false_and, and_true, and_false, true_or, or_true, false_or, or_false, iff_self])
        · skip
          exact pI_goT h (by simp only [eq_false q0, eq_false q1, eq_false q2, eq_false q3, not_true_eq_false, not_false_eq_true, true_and, false_and, and_true, and_false, true_or, or_true, false_or, or_false, iff_self])
set_option maxRecDepth 100000 in
theorem eX12_stateOf {G : Nat → KT} {K : RT} (hc : cloX12_stateOf G K wT) {x1 : Int32} {M : Mem} (hW : Wf M) (h : (x1 < 0 → K (some (.ref 405)) M) ∧ (¬ x1 < 0 → (((4 : Int32) ≤ x1 → K (some (.ref 405)) M) ∧ (¬ (4 : Int32) ≤ x1 → ((vp_in x1 4) ∧ K (some (.ref (457 + 37 * (x1).toNatClampNeg))) M))))) : G 0 [some (.ref 0), some (.int x1)] [] M :=
  (hc.1 _ _ _ (i_iload rfl (i_if_lt (fun q1180 => (hc.2.2.2.1 _ _ _ (i_aload rfl (i_getR (okS hW Sk_0) (nv_0_3 hW) (hc.2.2.2.2 _ _ _ (i_aret hW.1 (h.1 q1180))))))) (fun q1180 => (hc.2.1 _ _ _ (i_iload rfl (i_ic (i_icmp_ge (fun q1181 => (hc.2.2.2.1 _ _ _ (i_aload rfl (i_getR (okS hW Sk_0) (nv_0_3 hW) (hc.2.2.2.2 _ _ _ (i_aret hW.1 ((h.2 q1180).1 q1181))))))) (fun q1181 => (hc.2.2.1 _ _ _ (i_aload rfl (i_getR (okS hW Sk_0) (nv_0_6 hW) (i_iload rfl (i_aald hW Ss_453 ((h.2 q1180).2 q1181).1 (nvKept hW (vp_lt ((h.2 q1180).2 q1181).1)) (hc.2.2.2.2 _ _ _ (i_aret hW.1 ((h.2 q1180).2 q1181).2))))))))))))))))
theorem wX12_stateOf {x1 : Int32} {M : Mem} {K : RT} (hW : Wf M) (h : (x1 < 0 → K (some (.ref 405)) M) ∧ (¬ x1 < 0 → (((4 : Int32) ≤ x1 → K (some (.ref 405)) M) ∧ (¬ (4 : Int32) ≤ x1 → ((vp_in x1 4) ∧ K (some (.ref (457 + 37 * (x1).toNatClampNeg))) M))))) : sp_X12_stateOf [.ref 0, .int x1] M K := by
  refine ⟨Nat.le_of_ble_eq_true rfl, fun G hc => ?_⟩
  rw [hW.1] at hc
  exact eX12_stateOf hc hW  h
def RX12_differs_18_2 (G : Nat → KT) (K : RT) : KT := (w_aload 0 (w_iload 2 (w_callV 9 2 sp_X12_stateOf (w_callV 7 2 sp_X10_firstDifference (w_iret wT K)))))
def RX12_differs_18_5 (G : Nat → KT) (K : RT) : KT := (w_callV 7 2 sp_X10_firstDifference (w_iret wT K))
def RX12_differs_18_6 (G : Nat → KT) (K : RT) : KT := (w_iret wT K)
set_option maxRecDepth 100000 in
theorem eX12_differs {G : Nat → KT} {K : RT} (hc : cloX12_differs G K wT) {x1 : Int32} {x2 : Int32} {M : Mem} (hW : Wf M) (h : (q_X12_isThere x1 M) ∧ ((¬ (P_X12_isThere x1 M) → K (some (.int (-1 : Int32))) M) ∧ ((P_X12_isThere x1 M) → ((q_X12_isThere x2 M) ∧ (((P_X12_isThere x2 M) → sp_X12_stateOf [.ref 0, .int x1] M (fun v M' => RX12_differs_18_2 G K [some (.ref 0), some (.int x1), some (.int x2)] (v.toList ++ []) M')) ∧ (¬ (P_X12_isThere x2 M) → K (some (.int (-1 : Int32))) M)))))) : G 0 [some (.ref 0), some (.int x1), some (.int x2)] [] M :=
  (hc.1 _ _ _ (i_aload rfl (i_iload rfl (i_callV2 (Nat.le_of_ble_eq_true rfl) (okS hW Sk_0) (c_X12_isThere hW  h.1 (i_rI (i_bI_eq (fun q1204 => (hc.2.2.1 _ _ _ (i_ic (i_iret hW.1 (h.2.1 q1204))))) (fun q1204 => (hc.2.1 _ _ _ (i_aload rfl (i_iload rfl (i_callV2 (Nat.le_of_ble_eq_true rfl) (okS hW Sk_0) (c_X12_isThere hW  (h.2.2 q1204).1 (i_rI (i_bI_ne (fun q1205 => (hc.2.2.2 _ _ _ (i_aload rfl (i_iload rfl (i_callV2 (Nat.le_of_ble_eq_true rfl) (okS hW Sk_0) ((h.2.2 q1204).2.1 q1205)))))) (fun q1205 => (hc.2.2.1 _ _ _ (i_ic (i_iret hW.1 ((h.2.2 q1204).2.2 q1205))))))))))))))))))))
set_option maxRecDepth 100000 in
theorem rX12_differs_18_2 {G : Nat → KT} {K : RT} (hc : cloX12_differs G K wT) {o1 : Option Value} {x2 : Int32} {y : Nat} {M : Mem} (hW : Wf M) (hy : (Sh y).1 = 7) (h : sp_X12_stateOf [.ref 0, .int x2] M (fun v M' => RX12_differs_18_5 G K [some (.ref 0), o1, some (.int x2)] (v.toList ++ [.ref y]) M')) : RX12_differs_18_2 G K [some (.ref 0), o1, some (.int x2)] (Option.toList (some (.ref y)) ++ []) M :=
  (i_rR (i_aload rfl (i_iload rfl (i_callV2 (Nat.le_of_ble_eq_true rfl) (okS hW Sk_0) h))))
set_option maxRecDepth 100000 in
theorem rX12_differs_18_5 {G : Nat → KT} {K : RT} (hc : cloX12_differs G K wT) {o0 : Option Value} {o1 : Option Value} {o2 : Option Value} {s0 : Nat} {y : Nat} {M : Mem} (hW : Wf M) (hs0 : (Sh s0).1 = 7) (hy : (Sh y).1 = 7) (h : sp_X10_firstDifference [.ref s0, .ref y] M (fun v M' => RX12_differs_18_6 G K [o0, o1, o2] (v.toList ++ []) M')) : RX12_differs_18_5 G K [o0, o1, o2] (Option.toList (some (.ref y)) ++ [.ref s0]) M :=
  (i_rR (i_callV2 (Nat.le_of_ble_eq_true rfl) (okS hW hs0) h))
set_option maxRecDepth 100000 in
theorem rX12_differs_18_6 {G : Nat → KT} {K : RT} (hc : cloX12_differs G K wT) {o0 : Option Value} {o1 : Option Value} {o2 : Option Value} {y : Int32} {M : Mem} (hW : Wf M) (h : K (some (.int y)) M) : RX12_differs_18_6 G K [o0, o1, o2] (Option.toList (some (.int y)) ++ []) M :=
  (i_rI (i_iret hW.1 h))
theorem wX12_differs {x1 : Int32} {x2 : Int32} {M : Mem} {K : RT} (hW : Wf M) (h : ∀ {G : Nat → KT}, cloX12_differs G K wT → (q_X12_isThere x1 M) ∧ ((¬ (P_X12_isThere x1 M) → K (some (.int (-1 : Int32))) M) ∧ ((P_X12_isThere x1 M) → ((q_X12_isThere x2 M) ∧ (((P_X12_isThere x2 M) → sp_X12_stateOf [.ref 0, .int x1] M (fun v M' => RX12_differs_18_2 G K [some (.ref 0), some (.int x1), some (.int x2)] (v.toList ++ []) M')) ∧ (¬ (P_X12_isThere x2 M) → K (some (.int (-1 : Int32))) M)))))) : sp_X12_differs [.ref 0, .int x1, .int x2] M K := by
  refine ⟨Nat.le_of_ble_eq_true rfl, fun G hc => ?_⟩
  rw [hW.1] at hc
  exact eX12_differs hc hW  (h hc)
set_option maxRecDepth 100000 in
theorem eX12_stopsSet {G : Nat → KT} {K : RT} (hc : cloX12_stopsSet G K wT) {M : Mem} (hW : Wf M) (h : G 4 [some (.ref 0), some (.int (0 : Int32)), some (.int (0 : Int32))] [] M) : G 0 [some (.ref 0), none, none] [] M :=
  (hc.1 _ _ _ (i_ic (i_istore (Nat.le_of_ble_eq_true rfl) (i_ic (i_istore (Nat.le_of_ble_eq_true rfl) h)))))
set_option maxRecDepth 100000 in
theorem eX12_stopsSet_4 {G : Nat → KT} {K : RT} (hc : cloX12_stopsSet G K wT) {x1 : Int32} {x2 : Int32} {M : Mem} (hW : Wf M) (h : ((100 : Int32) ≤ x2 → K (some (.int x1)) M) ∧ (¬ (100 : Int32) ≤ x2 → ((vp_in x2 100) ∧ (((gI M 455 (x2).toNatClampNeg) = 0 → G 4 [some (.ref 0), some (.int (x1 + (0 : Int32))), some (.int (x2 + (1 : Int32)))] [] M) ∧ (¬ (gI M 455 (x2).toNatClampNeg) = 0 → G 4 [some (.ref 0), some (.int (x1 + (1 : Int32))), some (.int (x2 + (1 : Int32)))] [] M))))) : G 4 [some (.ref 0), some (.int x1), some (.int x2)] [] M :=
  (hc.2.1 _ _ _ (i_iload rfl (i_ic (i_icmp_ge (fun q1208 => (hc.2.2.2.2.2.2 _ _ _ (i_iload rfl (i_iret hW.1 (h.1 q1208))))) (fun q1208 => (hc.2.2.1 _ _ _ (i_iload rfl (i_aload rfl (i_getR (okS hW Sk_0) (nv_0_8 hW) (i_iload rfl (i_zald hW Ss_455 (h.2 q1208).1 (i_if_eq (fun q1209 => (hc.2.2.2.2.1 _ _ _ (i_ic (hc.2.2.2.2.2.1 _ _ _ (i_iadd (i_istore (Nat.le_of_ble_eq_true rfl) (i_iinc rfl ((h.2 q1208).2.1 q1209)))))))) (fun q1209 => (hc.2.2.2.1 _ _ _ (i_ic (hc.2.2.2.2.2.1 _ _ _ (i_iadd (i_istore (Nat.le_of_ble_eq_true rfl) (i_iinc rfl ((h.2 q1208).2.2 q1209))))))))))))))))))))
theorem wX12_stopsSet {M : Mem} {K : RT} (hW : Wf M) (h : ∀ {G : Nat → KT}, cloX12_stopsSet G K wT → G 4 [some (.ref 0), some (.int (0 : Int32)), some (.int (0 : Int32))] [] M) : sp_X12_stopsSet [.ref 0] M K := by
  refine ⟨Nat.le_of_ble_eq_true rfl, fun G hc => ?_⟩
  rw [hW.1] at hc
  exact eX12_stopsSet hc hW  (h hc)
set_option maxRecDepth 100000 in
theorem eX12_watchesSet {G : Nat → KT} {K : RT} (hc : cloX12_watchesSet G K wT) {M : Mem} (hW : Wf M) (h : G 4 [some (.ref 0), some (.int (0 : Int32)), some (.int (0 : Int32))] [] M) : G 0 [some (.ref 0), none, none] [] M :=
  (hc.1 _ _ _ (i_ic (i_istore (Nat.le_of_ble_eq_true rfl) (i_ic (i_istore (Nat.le_of_ble_eq_true rfl) h)))))
set_option maxRecDepth 100000 in
theorem eX12_watchesSet_4 {G : Nat → KT} {K : RT} (hc : cloX12_watchesSet G K wT) {x1 : Int32} {x2 : Int32} {M : Mem} (hW : Wf M) (h : ((8 : Int32) ≤ x2 → K (some (.int x1)) M) ∧ (¬ (8 : Int32) ≤ x2 → ((vp_in x2 8) ∧ (∀ y1 : Int32, y1 = (x1 + (f_J13_bitCount_95d88 (gL M 456 (x2).toNatClampNeg))) → G 4 [some (.ref 0), some (.int y1), some (.int (x2 + (1 : Int32)))] [] M)))) : G 4 [some (.ref 0), some (.int x1), some (.int x2)] [] M :=
  (hc.2.1 _ _ _ (i_iload rfl (i_ic (i_icmp_ge (fun q1211 => (hc.2.2.2 _ _ _ (i_iload rfl (i_iret hW.1 (h.1 q1211))))) (fun q1211 => (hc.2.2.1 _ _ _ (i_iload rfl (i_aload rfl (i_getR (okS hW Sk_0) (nv_0_9 hW) (i_iload rfl (i_lald hW Ss_456 (h.2 q1211).1 (i_callS1 (Nat.le_of_ble_eq_true rfl) (c_J13_bitCount_95d88 hW  (i_rI (i_iadd (i_istore (Nat.le_of_ble_eq_true rfl) (i_iinc rfl ((h.2 q1211).2 _ rfl))))))))))))))))))
theorem wX12_watchesSet {M : Mem} {K : RT} (hW : Wf M) (h : ∀ {G : Nat → KT}, cloX12_watchesSet G K wT → G 4 [some (.ref 0), some (.int (0 : Int32)), some (.int (0 : Int32))] [] M) : sp_X12_watchesSet [.ref 0] M K := by
  refine ⟨Nat.le_of_ble_eq_true rfl, fun G hc => ?_⟩
  rw [hW.1] at hc
  exact eX12_watchesSet hc hW  (h hc)
def RX12_count_88_2 (G : Nat → KT) (K : RT) : KT := (w_iret wT K)
def RX12_count_139_1 (G : Nat → KT) (K : RT) : KT := (w_iret wT K)
def RX12_count_144_1 (G : Nat → KT) (K : RT) : KT := (w_iret wT K)
set_option maxRecDepth 100000 in
theorem eX12_count {G : Nat → KT} {K : RT} (hc : cloX12_count G K wT) {x1 : Int32} {M : Mem} (hW : Wf M) (h : (x1 = 0 → K (some (.int (gI M 8 0))) M) ∧ (¬ x1 = 0 → ((x1 = 1 → K (some (.int (gI M 7 4))) M) ∧ (¬ x1 = 1 → ((x1 = 2 → K (some (.int (gI M 7 5))) M) ∧ (¬ x1 = 2 → ((x1 = 3 → sp_X10_elements [.ref 405] M (fun v M' => RX12_count_88_2 G K [some (.ref 0), some (.int x1)] (v.toList ++ []) M')) ∧ (¬ x1 = 3 → ((x1 = 4 → K (some (.int (gI M 10 0))) M) ∧ (¬ x1 = 4 → ((x1 = 5 → K (some (.int (gI M 7 2))) M) ∧ (¬ x1 = 5 → ((x1 = 6 → K (some (.int (gI M 7 3))) M) ∧ (¬ x1 = 6 → ((x1 = 7 → (((gI M 7 6) = 0 → K (some (.int (0 : Int32))) M) ∧ (¬ (gI M 7 6) = 0 → K (some (.int (1 : Int32))) M))) ∧ (¬ x1 = 7 → ((x1 = 8 → sp_X12_stopsSet [.ref 0] M (fun v M' => RX12_count_139_1 G K [some (.ref 0), some (.int x1)] (v.toList ++ []) M')) ∧ (¬ x1 = 8 → ((x1 = 9 → sp_X12_watchesSet [.ref 0] M (fun v M' => RX12_count_144_1 G K [some (.ref 0), some (.int x1)] (v.toList ++ []) M')) ∧ (¬ x1 = 9 → ((x1 = 10 → K (some (.int (gI M 8 1))) M) ∧ (¬ x1 = 10 → ((x1 = 11 → K (some (.int (gI M 1 0))) M) ∧ (¬ x1 = 11 → K (some (.int (-1 : Int32))) M)))))))))))))))))))))))) : G 0 [some (.ref 0), some (.int x1)] [] M :=
  (hc.1 _ _ _ (i_iload rfl (And.intro (fun q1225 => (hc.2.1 _ _ _ (i_aload rfl (i_getR (okS hW Sk_0) (nv_0_2 hW) (i_getI (okS hW Sk_8) (i_iret hW.1 (h.1 q1225))))))) (fun q1225 => (And.intro (fun q1226 => (hc.2.2.1 _ _ _ (i_aload rfl (i_getR (okS hW Sk_0) (nv_0_1 hW) (i_getI (okS hW Sk_7) (i_iret hW.1 ((h.2 q1225).1 q1226))))))) (fun q1226 => (And.intro (fun q1227 => (hc.2.2.2.1 _ _ _ (i_aload rfl (i_getR (okS hW Sk_0) (nv_0_1 hW) (i_getI (okS hW Sk_7) (i_iret hW.1 (((h.2 q1225).2 q1226).1 q1227))))))) (fun q1227 => (And.intro (fun q1228 => (hc.2.2.2.2.1 _ _ _ (i_aload rfl (i_getR (okS hW Sk_0) (nv_0_3 hW) (i_callV1 (Nat.le_of_ble_eq_true rfl) (okS hW Sk_405) ((((h.2 q1225).2 q1226).2 q1227).1 q1228)))))) (fun q1228 => (And.intro (fun q1229 => (hc.2.2.2.2.2.1 _ _ _ (i_aload rfl (i_getR (okS hW Sk_0) (nv_0_1 hW) (i_getR (okS hW Sk_7) (nv_7_1 hW) (i_getI (okS hW Sk_10) (i_iret hW.1 (((((h.2 q1225).2 q1226).2 q1227).2 q1228).1 q1229)))))))) (fun q1229 => (And.intro (fun q1230 => (hc.2.2.2.2.2.2.1 _ _ _ (i_aload rfl (i_getR (okS hW Sk_0) (nv_0_1 hW) (i_getI (okS hW Sk_7) (i_iret hW.1 ((((((h.2 q1225).2 q1226).2 q1227).2 q1228).2 q1229).1 q1230))))))) (fun q1230 => (And.intro (fun q1231 => (hc.2.2.2.2.2.2.2.1 _ _ _ (i_aload rfl (i_getR (okS hW Sk_0) (nv_0_1 hW) (i_getI (okS hW Sk_7) (i_iret hW.1 (((((((h.2 q1225).2 q1226).2 q1227).2 q1228).2 q1229).2 q1230).1 q1231))))))) (fun q1231 => (And.intro (fun q1232 => (hc.2.2.2.2.2.2.2.2.1 _ _ _ (i_aload rfl (i_getR (okS hW Sk_0) (nv_0_1 hW) (i_getI4 (okS hW Sk_7) (i_if_eq (fun q1233 => (hc.2.2.2.2.2.2.2.2.2.2.1 _ _ _ (i_ic (hc.2.2.2.2.2.2.2.2.2.2.2.1 _ _ _ (i_iret hW.1 (((((((((h.2 q1225).2 q1226).2 q1227).2 q1228).2 q1229).2 q1230).2 q1231).1 q1232).1 q1233)))))) (fun q1233 => (hc.2.2.2.2.2.2.2.2.2.1 _ _ _ (i_ic (hc.2.2.2.2.2.2.2.2.2.2.2.1 _ _ _ (i_iret hW.1 (((((((((h.2 q1225).2 q1226).2 q1227).2 q1228).2 q1229).2 q1230).2 q1231).1 q1232).2 q1233)))))))))))) (fun q1232 => (And.intro (fun q1234 => (hc.2.2.2.2.2.2.2.2.2.2.2.2.1 _ _ _ (i_aload rfl (i_callV1 (Nat.le_of_ble_eq_true rfl) (okS hW Sk_0) (((((((((h.2 q1225).2 q1226).2 q1227).2 q1228).2 q1229).2 q1230).2 q1231).2 q1232).1 q1234))))) (fun q1234 => (And.intro (fun q1235 => (hc.2.2.2.2.2.2.2.2.2.2.2.2.2.1 _ _ _ (i_aload rfl (i_callV1 (Nat.le_of_ble_eq_true rfl) (okS hW Sk_0) ((((((((((h.2 q1225).2 q1226).2 q1227).2 q1228).2 q1229).2 q1230).2 q1231).2 q1232).2 q1234).1 q1235))))) (fun q1235 => (And.intro (fun q1236 => (hc.2.2.2.2.2.2.2.2.2.2.2.2.2.2.1 _ _ _ (i_aload rfl (i_getR (okS hW Sk_0) (nv_0_2 hW) (i_getI (okS hW Sk_8) (i_iret hW.1 (((((((((((h.2 q1225).2 q1226).2 q1227).2 q1228).2 q1229).2 q1230).2 q1231).2 q1232).2 q1234).2 q1235).1 q1236))))))) (fun q1236 => (And.intro (fun q1237 => (hc.2.2.2.2.2.2.2.2.2.2.2.2.2.2.2.1 _ _ _ (i_aload rfl (i_getR (okS hW Sk_0) (nv_0_0 hW) (i_getI (okS hW Sk_1) (i_iret hW.1 ((((((((((((h.2 q1225).2 q1226).2 q1227).2 q1228).2 q1229).2 q1230).2 q1231).2 q1232).2 q1234).2 q1235).2 q1236).1 q1237))))))) (fun q1237 => (hc.2.2.2.2.2.2.2.2.2.2.2.2.2.2.2.2 _ _ _ (i_ic (i_iret hW.1 ((((((((((((h.2 q1225).2 q1226).2 q1227).2 q1228).2 q1229).2 q1230).2 q1231).2 q1232).2 q1234).2 q1235).2 q1236).2 q1237))))))))))))))))))))))))))))))
set_option maxRecDepth 100000 in
theorem rX12_count_88_2 {G : Nat → KT} {K : RT} (hc : cloX12_count G K wT) {o0 : Option Value} {o1 : Option Value} {y : Int32} {M : Mem} (hW : Wf M) (h : K (some (.int y)) M) : RX12_count_88_2 G K [o0, o1] (Option.toList (some (.int y)) ++ []) M :=
  (i_rI (i_iret hW.1 h))
set_option maxRecDepth 100000 in
theorem rX12_count_139_1 {G : Nat → KT} {K : RT} (hc : cloX12_count G K wT) {o0 : Option Value} {o1 : Option Value} {y : Int32} {M : Mem} (hW : Wf M) (h : K (some (.int y)) M) : RX12_count_139_1 G K [o0, o1] (Option.toList (some (.int y)) ++ []) M :=
  (i_rI (i_iret hW.1 h))
set_option maxRecDepth 100000 in
theorem rX12_count_144_1 {G : Nat → KT} {K : RT} (hc : cloX12_count G K wT) {o0 : Option Value} {o1 : Option Value} {y : Int32} {M : Mem} (hW : Wf M) (h : K (some (.int y)) M) : RX12_count_144_1 G K [o0, o1] (Option.toList (some (.int y)) ++ []) M :=
  (i_rI (i_iret hW.1 h))
theorem wX12_count {x1 : Int32} {M : Mem} {K : RT} (hW : Wf M) (h : ∀ {G : Nat → KT}, cloX12_count G K wT → (x1 = 0 → K (some (.int (gI M 8 0))) M) ∧ (¬ x1 = 0 → ((x1 = 1 → K (some (.int (gI M 7 4))) M) ∧ (¬ x1 = 1 → ((x1 = 2 → K (some (.int (gI M 7 5))) M) ∧ (¬ x1 = 2 → ((x1 = 3 → sp_X10_elements [.ref 405] M (fun v M' => RX12_count_88_2 G K [some (.ref 0), some (.int x1)] (v.toList ++ []) M')) ∧ (¬ x1 = 3 → ((x1 = 4 → K (some (.int (gI M 10 0))) M) ∧ (¬ x1 = 4 → ((x1 = 5 → K (some (.int (gI M 7 2))) M) ∧ (¬ x1 = 5 → ((x1 = 6 → K (some (.int (gI M 7 3))) M) ∧ (¬ x1 = 6 → ((x1 = 7 → (((gI M 7 6) = 0 → K (some (.int (0 : Int32))) M) ∧ (¬ (gI M 7 6) = 0 → K (some (.int (1 : Int32))) M))) ∧ (¬ x1 = 7 → ((x1 = 8 → sp_X12_stopsSet [.ref 0] M (fun v M' => RX12_count_139_1 G K [some (.ref 0), some (.int x1)] (v.toList ++ []) M')) ∧ (¬ x1 = 8 → ((x1 = 9 → sp_X12_watchesSet [.ref 0] M (fun v M' => RX12_count_144_1 G K [some (.ref 0), some (.int x1)] (v.toList ++ []) M')) ∧ (¬ x1 = 9 → ((x1 = 10 → K (some (.int (gI M 8 1))) M) ∧ (¬ x1 = 10 → ((x1 = 11 → K (some (.int (gI M 1 0))) M) ∧ (¬ x1 = 11 → K (some (.int (-1 : Int32))) M)))))))))))))))))))))))) : sp_X12_count [.ref 0, .int x1] M K := by
  refine ⟨Nat.le_of_ble_eq_true rfl, fun G hc => ?_⟩
  rw [hW.1] at hc
  exact eX12_count hc hW  (h hc)
def RX12_startAnew_21_5 (G : Nat → KT) (K : RT) : KT := (w_vret wT K)
set_option maxRecDepth 100000 in
theorem eX12_startAnew {G : Nat → KT} {K : RT} (hc : cloX12_startAnew G K wT) {M : Mem} (hW : Wf M) (h : G 2 [some (.ref 0), some (.int (0 : Int32))] [] M) : G 0 [some (.ref 0), none] [] M :=
  (hc.1 _ _ _ (i_ic (i_istore (Nat.le_of_ble_eq_true rfl) h)))
set_option maxRecDepth 100000 in
theorem eX12_startAnew_2 {G : Nat → KT} {K : RT} (hc : cloX12_startAnew G K wT) {x1 : Int32} {M : Mem} (hW : Wf M) (h : ((100 : Int32) ≤ x1 → sp_X5_startOver [.ref 7] (m_X1_forget  M) (fun v M' => RX12_startAnew_21_5 G K [some (.ref 0), some (.int x1)] (v.toList ++ []) M')) ∧ (¬ (100 : Int32) ≤ x1 → ((vp_in x1 100) ∧ G 2 [some (.ref 0), some (.int (x1 + (1 : Int32)))] [] (uI M 455 (x1).toNatClampNeg (0 : Int32))))) : G 2 [some (.ref 0), some (.int x1)] [] M :=
  (hc.2.1 _ _ _ (i_iload rfl (i_ic (i_icmp_ge (fun q253 => (hc.2.2.2 _ _ _ (i_aload rfl (i_getR (okS hW Sk_0) (nv_0_5 hW) (i_callV1 (Nat.le_of_ble_eq_true rfl) (okS hW Sk_449) (c_X1_forget hW  (i_rN (i_aload rfl (i_getR (okS (Wf_m_X1_forget (M := M)  hW) Sk_0) (nv_0_1 (Wf_m_X1_forget (M := M)  hW)) (i_callV1 (Nat.le_of_ble_eq_true rfl) (okS (Wf_m_X1_forget (M := M)  hW) Sk_7) (h.1 q253))))))))))) (fun q253 => (hc.2.2.1 _ _ _ (i_aload rfl (i_getR (okS hW Sk_0) (nv_0_8 hW) (i_iload rfl (i_ic (i_zast hW Ss_455 (h.2 q253).1 (i_iinc rfl (h.2 q253).2))))))))))))
set_option maxRecDepth 100000 in
theorem rX12_startAnew_21_5 {G : Nat → KT} {K : RT} (hc : cloX12_startAnew G K wT) {o0 : Option Value} {o1 : Option Value} {M : Mem} (hW : Wf M) (h : K none M) : RX12_startAnew_21_5 G K [o0, o1] (Option.toList none ++ []) M :=
  (i_rN (i_vret hW.1 h))
theorem wX12_startAnew {M : Mem} {K : RT} (hW : Wf M) (h : ∀ {G : Nat → KT}, cloX12_startAnew G K wT → G 2 [some (.ref 0), some (.int (0 : Int32))] [] M) : sp_X12_startAnew [.ref 0] M K := by
  refine ⟨Nat.le_of_ble_eq_true rfl, fun G hc => ?_⟩
  rw [hW.1] at hc
  exact eX12_startAnew hc hW  (h hc)
def RX12_begin_0_2 (G : Nat → KT) (K : RT) : KT := (w_vret wT K)
set_option maxRecDepth 100000 in
theorem eX12_begin {G : Nat → KT} {K : RT} (hc : cloX12_begin G K wT) {M : Mem} (hW : Wf M) (h : sp_X5_startOver [.ref 7] M (fun v M' => RX12_begin_0_2 G K [some (.ref 0)] (v.toList ++ []) M')) : G 0 [some (.ref 0)] [] M :=
  (hc _ _ _ (i_aload rfl (i_getR (okS hW Sk_0) (nv_0_1 hW) (i_callV1 (Nat.le_of_ble_eq_true rfl) (okS hW Sk_7) h))))
set_option maxRecDepth 100000 in
theorem rX12_begin_0_2 {G : Nat → KT} {K : RT} (hc : cloX12_begin G K wT) {o0 : Option Value} {M : Mem} (hW : Wf M) (h : K none M) : RX12_begin_0_2 G K [o0] (Option.toList none ++ []) M :=
  (i_rN (i_vret hW.1 h))
theorem wX12_begin {M : Mem} {K : RT} (hW : Wf M) (h : ∀ {G : Nat → KT}, cloX12_begin G K wT → sp_X5_startOver [.ref 7] M (fun v M' => RX12_begin_0_2 G K [some (.ref 0)] (v.toList ++ []) M')) : sp_X12_begin [.ref 0] M K := by
  refine ⟨Nat.le_of_ble_eq_true rfl, fun G hc => ?_⟩
  rw [hW.1] at hc
  exact eX12_begin hc hW  (h hc)
def RX12_restore_9_9 (G : Nat → KT) (K : RT) : KT := (w_ic 1 (w_zret wT K))
set_option maxRecDepth 100000 in
theorem eX12_restore {G : Nat → KT} {K : RT} (hc : cloX12_restore G K wT) {M : Mem} (hW : Wf M) (h : (¬ (gI M 0 10) = 0 → ((q_X6_copyFrom 8 447 M) ∧ sp_X12_startAnew [.ref 0] (uI (m_X6_copyFrom 8 447 M) 0 10 (0 : Int32)) (fun v M' => RX12_restore_9_9 G K [some (.ref 0)] (v.toList ++ []) M'))) ∧ ((gI M 0 10) = 0 → K (some (.int (0 : Int32))) M)) : G 0 [some (.ref 0)] [] M :=
  (hc.1 _ _ _ (i_aload rfl (i_getI4 (okS hW Sk_0) (i_if_ne (fun q419 => (hc.2.2 _ _ _ (i_aload rfl (i_getR (okS hW Sk_0) (nv_0_2 hW) (i_aload rfl (i_getR (okS hW Sk_0) (nv_0_4 hW) (i_callV2 (Nat.le_of_ble_eq_true rfl) (okS hW Sk_8) (c_X6_copyFrom hW Sk_8 Sk_447 (h.1 q419).1 (i_rN (i_aload rfl (i_ic (i_putZ (okS (Wf_m_X6_copyFrom (M := M) 8 447 hW) Sk_0) (by decide) (i_aload rfl (i_callV1 (Nat.le_of_ble_eq_true rfl) (okS (Wf_m_X6_copyFrom (M := M) 8 447 hW) Sk_0) (h.1 q419).2)))))))))))))) (fun q419 => (hc.2.1 _ _ _ (i_ic (i_zret (by decide) hW.1 (h.2 q419)))))))))
set_option maxRecDepth 100000 in
theorem rX12_restore_9_9 {G : Nat → KT} {K : RT} (hc : cloX12_restore G K wT) {o0 : Option Value} {M : Mem} (hW : Wf M) (h : K (some (.int (1 : Int32))) M) : RX12_restore_9_9 G K [o0] (Option.toList none ++ []) M :=
  (i_rN (i_ic (i_zret (by decide) hW.1 h)))
theorem wX12_restore {M : Mem} {K : RT} (hW : Wf M) (h : ∀ {G : Nat → KT}, cloX12_restore G K wT → (¬ (gI M 0 10) = 0 → ((q_X6_copyFrom 8 447 M) ∧ sp_X12_startAnew [.ref 0] (uI (m_X6_copyFrom 8 447 M) 0 10 (0 : Int32)) (fun v M' => RX12_restore_9_9 G K [some (.ref 0)] (v.toList ++ []) M'))) ∧ ((gI M 0 10) = 0 → K (some (.int (0 : Int32))) M)) : sp_X12_restore [.ref 0] M K := by
  refine ⟨Nat.le_of_ble_eq_true rfl, fun G hc => ?_⟩
  rw [hW.1] at hc
  exact eX12_restore hc hW  (h hc)
set_option maxRecDepth 100000 in
theorem eX12_code {G : Nat → KT} {K : RT} {X : Mem → Prop} (hc : cloX12_code G K X wT) {x1 : Int32} {x2 : Int32} {M : Mem} (hW : Wf M) (h : (¬ (P_X6_has 8 x1 M) → X M) ∧ ((P_X6_has 8 x1 M) → ((x2 < 0 → X M) ∧ (¬ x2 < 0 → ((x2 < (6 : Int32) → ((q_X6_cell 8 x1 x2 M) ∧ K (some (.long (f_X6_cell 8 x1 x2 M))) M)) ∧ (¬ x2 < (6 : Int32) → X M)))))) : G 0 [some (.ref 0), some (.int x1), some (.int x2)] [] M :=
  (hc.1 _ _ _ (i_aload rfl (i_getR (okS hW Sk_0) (nv_0_2 hW) (i_iload rfl (i_callV2 (Nat.le_of_ble_eq_true rfl) (okS hW Sk_8) (c_X6_has hW Sk_8 (i_rI (i_bI_eq (fun q265 => (hc.2.2.2.1 _ _ _ (i_throw (Nat.le_of_ble_eq_true rfl) hW.1 (h.1 q265)))) (fun q265 => (hc.2.1 _ _ _ (i_iload rfl (i_if_lt (fun q266 => (hc.2.2.2.1 _ _ _ (i_throw (Nat.le_of_ble_eq_true rfl) hW.1 ((h.2 q265).1 q266)))) (fun q266 => (hc.2.2.1 _ _ _ (i_iload rfl (i_ic (i_icmp_lt (fun q267 => (hc.2.2.2.2 _ _ _ (i_aload rfl (i_getR (okS hW Sk_0) (nv_0_2 hW) (i_iload rfl (i_iload rfl (i_callV3 (Nat.le_of_ble_eq_true rfl) (okS hW Sk_8) (c_X6_cell hW Sk_8 (((h.2 q265).2 q266).1 q267).1 (i_rJ (i_lret hW.1 (((h.2 q265).2 q266).1 q267).2)))))))))) (fun q267 => (hc.2.2.2.1 _ _ _ (i_throw (Nat.le_of_ble_eq_true rfl) hW.1 (((h.2 q265).2 q266).2 q267)))))))))))))))))))))
theorem wX12_code {x1 : Int32} {x2 : Int32} {M : Mem} {K : RT} {X : Mem → Prop} (hW : Wf M) (h : (¬ (P_X6_has 8 x1 M) → X M) ∧ ((P_X6_has 8 x1 M) → ((x2 < 0 → X M) ∧ (¬ x2 < 0 → ((x2 < (6 : Int32) → ((q_X6_cell 8 x1 x2 M) ∧ K (some (.long (f_X6_cell 8 x1 x2 M))) M)) ∧ (¬ x2 < (6 : Int32) → X M)))))) : sp_X12_code [.ref 0, .int x1, .int x2] M K X := by
  refine ⟨Nat.le_of_ble_eq_true rfl, fun G hc => ?_⟩
  rw [hW.1] at hc
  exact eX12_code hc hW  h
def RX12_slim_0_2 (G : Nat → KT) (K : RT) : KT := (w_istore 1 (w_iload 1 (w_if_le (G 17) (G 12))))
def RX12_slim_17_1 (G : Nat → KT) (K : RT) : KT := (w_iload 1 (w_iret wT K))
set_option maxRecDepth 100000 in
theorem eX12_slim {G : Nat → KT} {K : RT} (hc : cloX12_slim G K wT) {M : Mem} (hW : Wf M) (h : sp_X6_slimAll [.ref 8] M (fun v M' => RX12_slim_0_2 G K [some (.ref 0), none] (v.toList ++ []) M')) : G 0 [some (.ref 0), none] [] M :=
  (hc.1 _ _ _ (i_aload rfl (i_getR (okS hW Sk_0) (nv_0_2 hW) (i_callV1 (Nat.le_of_ble_eq_true rfl) (okS hW Sk_8) h))))
set_option maxRecDepth 100000 in
theorem rX12_slim_0_2 {G : Nat → KT} {K : RT} (hc : cloX12_slim G K wT) {o1 : Option Value} {y : Int32} {M : Mem} (hW : Wf M) (h : (y ≤ 0 → sp_X12_startAnew [.ref 0] M (fun v M' => RX12_slim_17_1 G K [some (.ref 0), some (.int y)] (v.toList ++ []) M')) ∧ (¬ y ≤ 0 → sp_X12_startAnew [.ref 0] (uI M 0 10 (1 : Int32)) (fun v M' => RX12_slim_17_1 G K [some (.ref 0), some (.int y)] (v.toList ++ []) M'))) : RX12_slim_0_2 G K [some (.ref 0), o1] (Option.toList (some (.int y)) ++ []) M :=
  (i_rI (i_istore (Nat.le_of_ble_eq_true rfl) (i_iload rfl (i_if_le (fun q417 => (hc.2.2 _ _ _ (i_aload rfl (i_callV1 (Nat.le_of_ble_eq_true rfl) (okS hW Sk_0) (h.1 q417))))) (fun q417 => (hc.2.1 _ _ _ (i_aload rfl (i_ic (i_putZ (okS hW Sk_0) (by decide) (hc.2.2 _ _ _ (i_aload rfl (i_callV1 (Nat.le_of_ble_eq_true rfl) (okS hW Sk_0) (h.2 q417)))))))))))))
set_option maxRecDepth 100000 in
theorem rX12_slim_17_1 {G : Nat → KT} {K : RT} (hc : cloX12_slim G K wT) {o0 : Option Value} {x1 : Int32} {M : Mem} (hW : Wf M) (h : K (some (.int x1)) M) : RX12_slim_17_1 G K [o0, some (.int x1)] (Option.toList none ++ []) M :=
  (i_rN (i_iload rfl (i_iret hW.1 h)))
theorem wX12_slim {M : Mem} {K : RT} (hW : Wf M) (h : ∀ {G : Nat → KT}, cloX12_slim G K wT → sp_X6_slimAll [.ref 8] M (fun v M' => RX12_slim_0_2 G K [some (.ref 0), none] (v.toList ++ []) M')) : sp_X12_slim [.ref 0] M K := by
  refine ⟨Nat.le_of_ble_eq_true rfl, fun G hc => ?_⟩
  rw [hW.1] at hc
  exact eX12_slim hc hW  (h hc)
end C07
