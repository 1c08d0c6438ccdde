section OPS
set_option maxRecDepth 100000 in
theorem eX4_isRegister {G : Nat → KT} {K : RT} (hc : cloX4_isRegister G K wT) {x0 : Int32} {M : Mem} (hW : Wf M) (h : (x0 < (97 : Int32) → K (some (.int (0 : Int32))) M) ∧ (¬ x0 < (97 : Int32) → (((122 : Int32) < x0 → K (some (.int (0 : Int32))) M) ∧ (¬ (122 : Int32) < x0 → K (some (.int (1 : Int32))) M)))) : G 0 [some (.int x0)] [] M :=
  (hc.1 _ _ _ (i_iload rfl (i_ic (i_icmp_lt (fun q323 => (hc.2.2.2.1 _ _ _ (i_ic (hc.2.2.2.2 _ _ _ (i_zret (by decide) hW.1 (h.1 q323)))))) (fun q323 => (hc.2.1 _ _ _ (i_iload rfl (i_ic (i_icmp_gt (fun q324 => (hc.2.2.2.1 _ _ _ (i_ic (hc.2.2.2.2 _ _ _ (i_zret (by decide) hW.1 ((h.2 q323).1 q324)))))) (fun q324 => (hc.2.2.1 _ _ _ (i_ic (hc.2.2.2.2 _ _ _ (i_zret (by decide) hW.1 ((h.2 q323).2 q324)))))))))))))))
theorem wX4_isRegister {x0 : Int32} {M : Mem} {K : RT} (hW : Wf M) (h : (x0 < (97 : Int32) → K (some (.int (0 : Int32))) M) ∧ (¬ x0 < (97 : Int32) → (((122 : Int32) < x0 → K (some (.int (0 : Int32))) M) ∧ (¬ (122 : Int32) < x0 → K (some (.int (1 : Int32))) M)))) : sp_X4_isRegister [.int x0] M K := by
  refine ⟨Nat.le_of_ble_eq_true rfl, fun G hc => ?_⟩
  rw [hW.1] at hc
  exact eX4_isRegister hc hW  h
def P_X4_isRegister (x0 : Int32) : Prop := ((¬ x0 < (97 : Int32)) ∧ (¬ (122 : Int32) < x0))
theorem c_X4_isRegister {x0 : Int32} {M : Mem} {K : RT} (hW : Wf M) (h : K (some (.int (pI (P_X4_isRegister x0)))) M) : sp_X4_isRegister [.int x0] M K := by
  refine wX4_isRegister hW  ?_
  unfold P_X4_isRegister at h
  refine ⟨fun q0 => ?_, fun q0 => ?_⟩
  · skip
    exact pI_goF h (by simp only [eq_true q0, not_true_eq_false, not_false_eq_true, true_and, false_and, and_true, and_false, true_or, or_true, false_or, or_false, iff_self])
  · skip
    refine ⟨fun q1 => ?_, fun q1 => ?_⟩
    · skip
      exact pI_goF h (by simp only [eq_false q0, eq_true q1, not_true_eq_false, not_false_eq_true, true_and, false_and, and_true, and_false, true_or, or_true, false_or, or_false, iff_self])
    · skip
      exact pI_goT h (by simp only [eq_false q0, eq_false q1, not_true_eq_false, not_false_eq_true, true_and, false_and, and_true, and_false, true_or, or_true, false_or, or_false, iff_self])
set_option maxRecDepth 100000 in
theorem eX4_isShared {G : Nat → KT} {K : RT} (hc : cloX4_isShared G K wT) {x0 : Int32} {M : Mem} (hW : Wf M) (h : (x0 = (107 : Int32) → K (some (.int (1 : Int32))) M) ∧ (¬ x0 = (107 : Int32) → ((x0 = (119 : Int32) → K (some (.int (1 : Int32))) M) ∧ (¬ x0 = (119 : Int32) → ((¬ x0 = (114 : Int32) → K (some (.int (0 : Int32))) M) ∧ (x0 = (114 : Int32) → K (some (.int (1 : Int32))) M)))))) : G 0 [some (.int x0)] [] M :=
  (hc.1 _ _ _ (i_iload rfl (i_ic (i_icmp_eq (fun q329 => (hc.2.2.2.1 _ _ _ (i_ic (hc.2.2.2.2.2 _ _ _ (i_zret (by decide) hW.1 (h.1 q329)))))) (fun q329 => (hc.2.1 _ _ _ (i_iload rfl (i_ic (i_icmp_eq (fun q330 => (hc.2.2.2.1 _ _ _ (i_ic (hc.2.2.2.2.2 _ _ _ (i_zret (by decide) hW.1 ((h.2 q329).1 q330)))))) (fun q330 => (hc.2.2.1 _ _ _ (i_iload rfl (i_ic (i_icmp_ne (fun q331 => (hc.2.2.2.2.1 _ _ _ (i_ic (hc.2.2.2.2.2 _ _ _ (i_zret (by decide) hW.1 (((h.2 q329).2 q330).1 q331)))))) (fun q331 => (hc.2.2.2.1 _ _ _ (i_ic (hc.2.2.2.2.2 _ _ _ (i_zret (by decide) hW.1 (((h.2 q329).2 q330).2 q331))))))))))))))))))))
theorem wX4_isShared {x0 : Int32} {M : Mem} {K : RT} (hW : Wf M) (h : (x0 = (107 : Int32) → K (some (.int (1 : Int32))) M) ∧ (¬ x0 = (107 : Int32) → ((x0 = (119 : Int32) → K (some (.int (1 : Int32))) M) ∧ (¬ x0 = (119 : Int32) → ((¬ x0 = (114 : Int32) → K (some (.int (0 : Int32))) M) ∧ (x0 = (114 : Int32) → K (some (.int (1 : Int32))) M)))))) : sp_X4_isShared [.int x0] M K := by
  refine ⟨Nat.le_of_ble_eq_true rfl, fun G hc => ?_⟩
  rw [hW.1] at hc
  exact eX4_isShared hc hW  h
def P_X4_isShared (x0 : Int32) : Prop := ((x0 = (107 : Int32)) ∨ ((x0 = (119 : Int32)) ∨ (x0 = (114 : Int32))))
theorem c_X4_isShared {x0 : Int32} {M : Mem} {K : RT} (hW : Wf M) (h : K (some (.int (pI (P_X4_isShared x0)))) M) : sp_X4_isShared [.int x0] M K := by
  refine wX4_isShared hW  ?_
  unfold P_X4_isShared at h
  refine ⟨fun q0 => ?_, fun q0 => ?_⟩
  · skip
    exact pI_goT h (by simp only [eq_true q0, not_true_eq_false, not_false_eq_true, true_and, false_and, and_true, and_false, true_or, or_true, false_or, or_false, iff_self])
  · skip
    refine ⟨fun q1 => ?_, fun q1 => ?_⟩
    · skip
      exact pI_goT h (by simp only [eq_false q0, eq_true q1, not_true_eq_false, not_false_eq_true, true_and, false_and, and_true, and_false, true_or, or_true, false_or, or_false, iff_self])
    · skip
      refine ⟨fun q2 => ?_, fun q2 => ?_⟩
      · skip
        exact pI_goF h (by simp only [eq_false q0, eq_false q1, eq_false q2, not_true_eq_false, not_false_eq_true, true_and, false_and, and_true, and_false, true_or, or_true, false_or, or_false, iff_self])
      · skip
        exact pI_goT h (by simp only [eq_false q0, eq_false q1, eq_true q2, not_true_eq_false, not_false_eq_true, true_and, false_and, and_true, and_false, true_or, or_true, false_or, or_false, iff_self])
set_option maxRecDepth 100000 in
theorem eX4_kinds {G : Nat → KT} {K : RT} (hc : cloX4_kinds G K wT) {x0 : Int32} {M : Mem} (hW : Wf M) (h : (x0 = 104 → K (some (.int (31 : Int32))) M) ∧ (¬ x0 = 104 → ((x0 = 105 → K (some (.int (8 : Int32))) M) ∧ (¬ x0 = 105 → ((x0 = 114 → K (some (.int (96 : Int32))) M) ∧ (¬ x0 = 114 → ((x0 = 119 → K (some (.int (31 : Int32))) M) ∧ (¬ x0 = 119 → K (some (.int (127 : Int32))) M)))))))) : G 0 [some (.int x0)] [] M :=
  (hc.1 _ _ _ (i_iload rfl (And.intro (fun q325 => (hc.2.1 _ _ _ (i_ic (i_iret hW.1 (h.1 q325))))) (fun q325 => (And.intro (fun q326 => (hc.2.2.2.1 _ _ _ (i_ic (i_iret hW.1 ((h.2 q325).1 q326))))) (fun q326 => (And.intro (fun q327 => (hc.2.2.1 _ _ _ (i_ic (i_iret hW.1 (((h.2 q325).2 q326).1 q327))))) (fun q327 => (And.intro (fun q328 => (hc.2.1 _ _ _ (i_ic (i_iret hW.1 ((((h.2 q325).2 q326).2 q327).1 q328))))) (fun q328 => (hc.2.2.2.2 _ _ _ (i_ic (i_iret hW.1 ((((h.2 q325).2 q326).2 q327).2 q328))))))))))))))
theorem wX4_kinds {x0 : Int32} {M : Mem} {K : RT} (hW : Wf M) (h : (x0 = 104 → K (some (.int (31 : Int32))) M) ∧ (¬ x0 = 104 → ((x0 = 105 → K (some (.int (8 : Int32))) M) ∧ (¬ x0 = 105 → ((x0 = 114 → K (some (.int (96 : Int32))) M) ∧ (¬ x0 = 114 → ((x0 = 119 → K (some (.int (31 : Int32))) M) ∧ (¬ x0 = 119 → K (some (.int (127 : Int32))) M)))))))) : sp_X4_kinds [.int x0] M K := by
  refine ⟨Nat.le_of_ble_eq_true rfl, fun G hc => ?_⟩
  rw [hW.1] at hc
  exact eX4_kinds hc hW  h
noncomputable def f_X4_kinds (x0 : Int32) : Int32 := (if x0 = 104 then (31 : Int32) else (if x0 = 105 then (8 : Int32) else (if x0 = 114 then (96 : Int32) else (if x0 = 119 then (31 : Int32) else (127 : Int32)))))
theorem c_X4_kinds {x0 : Int32} {M : Mem} {K : RT} (hW : Wf M) (h : K (some (.int (f_X4_kinds x0))) M) : sp_X4_kinds [.int x0] M K := by
  refine wX4_kinds hW  ?_
  unfold f_X4_kinds at h
  refine ⟨fun q0 => ?_, fun q0 => ?_⟩
  · skip
    try simp only [if_pos q0] at h
    first | exact h | contradiction
  · skip
    try simp only [if_neg q0] at h
    refine ⟨fun q1 => ?_, fun q1 => ?_⟩
    · skip
      try simp only [if_pos q1] at h
      first | exact h | contradiction
    · skip
      try simp only [if_neg q1] at h
      refine ⟨fun q2 => ?_, fun q2 => ?_⟩
      · skip
        try simp only [if_pos q2] at h
        first | exact h | contradiction
      · skip
        try simp only [if_neg q2] at h
        refine ⟨fun q3 => ?_, fun q3 => ?_⟩
        · skip
          try simp only [if_pos q3] at h
          first | exact h | contradiction
        · skip
          try simp only [if_neg q3] at h
          first | exact h | contradiction
set_option maxRecDepth 100000 in
theorem eX4_storesLanes {G : Nat → KT} {K : RT} (hc : cloX4_storesLanes G K wT) {x0 : Nat} {M : Mem} (hW : Wf M) (hx0 : isOp x0) (h : (x0 = 100027 → K (some (.int (1 : Int32))) M) ∧ (¬ x0 = 100027 → ((¬ x0 = 100029 → K (some (.int (0 : Int32))) M) ∧ (x0 = 100029 → K (some (.int (1 : Int32))) M)))) : G 0 [some (.ref x0)] [] M :=
  (hc.1 _ _ _ (i_aload rfl (i_gets (i_acmp_eq hx0 (isOp_lit (by decide)) (fun q467 => (hc.2.2.1 _ _ _ (i_ic (hc.2.2.2.2 _ _ _ (i_zret (by decide) hW.1 (h.1 q467)))))) (fun q467 => (hc.2.1 _ _ _ (i_aload rfl (i_gets (i_acmp_ne hx0 (isOp_lit (by decide)) (fun q468 => (hc.2.2.2.1 _ _ _ (i_ic (hc.2.2.2.2 _ _ _ (i_zret (by decide) hW.1 ((h.2 q467).1 q468)))))) (fun q468 => (hc.2.2.1 _ _ _ (i_ic (hc.2.2.2.2 _ _ _ (i_zret (by decide) hW.1 ((h.2 q467).2 q468)))))))))))))))
theorem wX4_storesLanes {x0 : Nat} {M : Mem} {K : RT} (hW : Wf M) (hx0 : isOp x0) (h : (x0 = 100027 → K (some (.int (1 : Int32))) M) ∧ (¬ x0 = 100027 → ((¬ x0 = 100029 → K (some (.int (0 : Int32))) M) ∧ (x0 = 100029 → K (some (.int (1 : Int32))) M)))) : sp_X4_storesLanes [.ref x0] M K := by
  refine ⟨Nat.le_of_ble_eq_true rfl, fun G hc => ?_⟩
  rw [hW.1] at hc
  exact eX4_storesLanes hc hW hx0 h
def P_X4_storesLanes (x0 : Nat) : Prop := ((x0 = 100027) ∨ (x0 = 100029))
theorem c_X4_storesLanes {x0 : Nat} {M : Mem} {K : RT} (hW : Wf M) (hx0 : isOp x0) (h : K (some (.int (pI (P_X4_storesLanes x0)))) M) : sp_X4_storesLanes [.ref x0] M K := by
  refine wX4_storesLanes hW hx0 ?_
  unfold P_X4_storesLanes at h
  refine ⟨fun q0 => ?_, fun q0 => ?_⟩
  · skip
    exact pI_goT h (by simp only [eq_true q0, not_true_eq_false, not_false_eq_true, true_and, false_and, and_true, and_false, true_or, or_true, false_or, or_false, iff_self])
  · skip
    refine ⟨fun q1 => ?_, fun q1 => ?_⟩
    · skip
      exact pI_goF h (by simp only [eq_false q0, eq_false q1, not_true_eq_false, not_false_eq_true, true_and, false_and, and_true, and_false, true_or, or_true, false_or, or_false, iff_self])
    · skip
      exact pI_goT h (by simp only [eq_false q0, eq_true q1, not_true_eq_false, not_false_eq_true, true_and, false_and, and_true, and_false, true_or, or_true, false_or, or_false, iff_self])
def RX4_letter_15_3 (G : Nat → KT) (K : RT) : KT := (G 28)
set_option maxRecDepth 100000 in
theorem eX4_letter {G : Nat → KT} {K : RT} (hc : cloX4_letter G K wT) {x0 : Nat} {x1 : Int32} {M : Mem} (hW : Wf M) (hx0 : isOp x0) (h : (x1 < 0 → K (some (.int (32 : Int32))) M) ∧ (¬ x1 < 0 → (((f_J0_length_8abf5 (100200 + oIx.getD (x0 - 100000) 0)) ≤ x1 → K (some (.int (32 : Int32))) M) ∧ (¬ (f_J0_length_8abf5 (100200 + oIx.getD (x0 - 100000) 0)) ≤ x1 → sp_J0_charAt_5068e [.ref (100200 + oIx.getD (x0 - 100000) 0), .int x1] M (fun v M' => RX4_letter_15_3 G K [some (.ref x0), some (.int x1)] (v.toList ++ []) M'))))) : G 0 [some (.ref x0), some (.int x1)] [] M :=
  (hc.1 _ _ _ (i_iload rfl (i_if_lt (fun q107 => (hc.2.2.2.1 _ _ _ (i_ic (hc.2.2.2.2 _ _ _ (i_cret (by decide) hW.1 (h.1 q107)))))) (fun q107 => (hc.2.1 _ _ _ (i_iload rfl (i_aload rfl (i_opoperands hx0 (i_callT1 (Nat.le_of_ble_eq_true rfl) (oTx hx0) (c_J0_length_8abf5 hW (oTx hx0) (i_rI (i_icmp_ge (fun q108 => (hc.2.2.2.1 _ _ _ (i_ic (hc.2.2.2.2 _ _ _ (i_cret (by decide) hW.1 ((h.2 q107).1 q108)))))) (fun q108 => (hc.2.2.1 _ _ _ (i_aload rfl (i_opoperands hx0 (i_iload rfl (i_callT2 (Nat.le_of_ble_eq_true rfl) (oTx hx0) ((h.2 q107).2 q108)))))))))))))))))))
set_option maxRecDepth 100000 in
theorem rX4_letter_15_3 {G : Nat → KT} {K : RT} (hc : cloX4_letter G K wT) {o0 : Option Value} {o1 : Option Value} {y : Int32} {M : Mem} (hW : Wf M) (h : (0 ≤ y ∧ y < 65536) ∧ K (some (.int y)) M) : RX4_letter_15_3 G K [o0, o1] (Option.toList (some (.int y)) ++ []) M :=
  (i_rI (hc.2.2.2.2 _ _ _ (i_cret h.1 hW.1 h.2)))
theorem wX4_letter {x0 : Nat} {x1 : Int32} {M : Mem} {K : RT} (hW : Wf M) (hx0 : isOp x0) (h : ∀ {G : Nat → KT}, cloX4_letter G K wT → (x1 < 0 → K (some (.int (32 : Int32))) M) ∧ (¬ x1 < 0 → (((f_J0_length_8abf5 (100200 + oIx.getD (x0 - 100000) 0)) ≤ x1 → K (some (.int (32 : Int32))) M) ∧ (¬ (f_J0_length_8abf5 (100200 + oIx.getD (x0 - 100000) 0)) ≤ x1 → sp_J0_charAt_5068e [.ref (100200 + oIx.getD (x0 - 100000) 0), .int x1] M (fun v M' => RX4_letter_15_3 G K [some (.ref x0), some (.int x1)] (v.toList ++ []) M'))))) : sp_X4_letter [.ref x0, .int x1] M K := by
  refine ⟨Nat.le_of_ble_eq_true rfl, fun G hc => ?_⟩
  rw [hW.1] at hc
  exact eX4_letter hc hW hx0 (h hc)
def RX4_leadCell_0_3 (G : Nat → KT) (K : RT) : KT := (w_ic 1 (w_iadd (w_iret wT K)))
set_option maxRecDepth 100000 in
theorem eX4_leadCell {G : Nat → KT} {K : RT} (hc : cloX4_leadCell G K wT) {x0 : Nat} {M : Mem} (hW : Wf M) (hx0 : isOp x0) (h : sp_J0_indexOf_0f7a4 [.ref (100200 + oIx.getD (x0 - 100000) 0), .int (76 : Int32)] M (fun v M' => RX4_leadCell_0_3 G K [some (.ref x0)] (v.toList ++ []) M')) : G 0 [some (.ref x0)] [] M :=
  (hc _ _ _ (i_aload rfl (i_opoperands hx0 (i_ic (i_callT2 (Nat.le_of_ble_eq_true rfl) (oTx hx0) h)))))
set_option maxRecDepth 100000 in
theorem rX4_leadCell_0_3 {G : Nat → KT} {K : RT} (hc : cloX4_leadCell G K wT) {o0 : Option Value} {y : Int32} {M : Mem} (hW : Wf M) (h : K (some (.int (y + (1 : Int32)))) M) : RX4_leadCell_0_3 G K [o0] (Option.toList (some (.int y)) ++ []) M :=
  (i_rI (i_ic (i_iadd (i_iret hW.1 h))))
theorem wX4_leadCell {x0 : Nat} {M : Mem} {K : RT} (hW : Wf M) (hx0 : isOp x0) (h : ∀ {G : Nat → KT}, cloX4_leadCell G K wT → sp_J0_indexOf_0f7a4 [.ref (100200 + oIx.getD (x0 - 100000) 0), .int (76 : Int32)] M (fun v M' => RX4_leadCell_0_3 G K [some (.ref x0)] (v.toList ++ []) M')) : sp_X4_leadCell [.ref x0] M K := by
  refine ⟨Nat.le_of_ble_eq_true rfl, fun G hc => ?_⟩
  rw [hW.1] at hc
  exact eX4_leadCell hc hW hx0 (h hc)
def RX4_target_10_2 (G : Nat → KT) (K : RT) : KT := (w_callS 1 sp_X4_isRegister (w_if_eq (G 26) (G 21)))
def RX4_target_26_2 (G : Nat → KT) (K : RT) : KT := (G 31)
set_option maxRecDepth 100000 in
theorem eX4_target {G : Nat → KT} {K : RT} (hc : cloX4_target G K wT) {x0 : Nat} {M : Mem} (hW : Wf M) (hx0 : isOp x0) (h : (¬ (P_X4_storesLanes x0) → sp_X4_letter [.ref x0, .int (0 : Int32)] M (fun v M' => RX4_target_10_2 G K [some (.ref x0)] (v.toList ++ []) M')) ∧ ((P_X4_storesLanes x0) → K (some (.int (65 : Int32))) M)) : G 0 [some (.ref x0)] [] M :=
  (hc.1 _ _ _ (i_aload rfl (i_callE1 (Nat.le_of_ble_eq_true rfl) hx0 (c_X4_storesLanes hW hx0 (i_rI (i_bI_eq (fun q471 => (hc.2.2.1 _ _ _ (i_aload rfl (i_ic (i_callE2 (Nat.le_of_ble_eq_true rfl) hx0 (h.1 q471)))))) (fun q471 => (hc.2.1 _ _ _ (i_ic (i_cret (by decide) hW.1 (h.2 q471)))))))))))
set_option maxRecDepth 100000 in
theorem rX4_target_10_2 {G : Nat → KT} {K : RT} (hc : cloX4_target G K wT) {x0 : Nat} {y : Int32} {M : Mem} (hW : Wf M) (hx0 : isOp x0) (h : (¬ (P_X4_isRegister y) → sp_X4_letter [.ref x0, .int (0 : Int32)] M (fun v M' => RX4_target_26_2 G K [some (.ref x0)] (v.toList ++ []) M')) ∧ ((P_X4_isRegister y) → K (some (.int (86 : Int32))) M)) : RX4_target_10_2 G K [some (.ref x0)] (Option.toList (some (.int y)) ++ []) M :=
  (i_rI (i_callS1 (Nat.le_of_ble_eq_true rfl) (c_X4_isRegister hW  (i_rI (i_bI_eq (fun q472 => (hc.2.2.2.2.1 _ _ _ (i_aload rfl (i_ic (i_callE2 (Nat.le_of_ble_eq_true rfl) hx0 (h.1 q472)))))) (fun q472 => (hc.2.2.2.1 _ _ _ (i_ic (hc.2.2.2.2.2 _ _ _ (i_cret (by decide) hW.1 (h.2 q472)))))))))))
set_option maxRecDepth 100000 in
theorem rX4_target_26_2 {G : Nat → KT} {K : RT} (hc : cloX4_target G K wT) {o0 : Option Value} {y : Int32} {M : Mem} (hW : Wf M) (h : (0 ≤ y ∧ y < 65536) ∧ K (some (.int y)) M) : RX4_target_26_2 G K [o0] (Option.toList (some (.int y)) ++ []) M :=
  (i_rI (hc.2.2.2.2.2 _ _ _ (i_cret h.1 hW.1 h.2)))
theorem wX4_target {x0 : Nat} {M : Mem} {K : RT} (hW : Wf M) (hx0 : isOp x0) (h : ∀ {G : Nat → KT}, cloX4_target G K wT → (¬ (P_X4_storesLanes x0) → sp_X4_letter [.ref x0, .int (0 : Int32)] M (fun v M' => RX4_target_10_2 G K [some (.ref x0)] (v.toList ++ []) M')) ∧ ((P_X4_storesLanes x0) → K (some (.int (65 : Int32))) M)) : sp_X4_target [.ref x0] M K := by
  refine ⟨Nat.le_of_ble_eq_true rfl, fun G hc => ?_⟩
  rw [hW.1] at hc
  exact eX4_target hc hW hx0 (h hc)
def RX4_makesLanes_7_2 (G : Nat → KT) (K : RT) : KT := (w_callS 1 sp_X4_isRegister (w_if_eq (G 29) (G 18)))
set_option maxRecDepth 100000 in
theorem eX4_makesLanes {G : Nat → KT} {K : RT} (hc : cloX4_makesLanes G K wT) {x0 : Nat} {M : Mem} (hW : Wf M) (hx0 : isOp x0) (h : ((Int32.ofNat (mkT.getD (x0 - 100000) 0)) = 0 → K (some (.int (0 : Int32))) M) ∧ (¬ (Int32.ofNat (mkT.getD (x0 - 100000) 0)) = 0 → sp_X4_letter [.ref x0, .int (0 : Int32)] M (fun v M' => RX4_makesLanes_7_2 G K [some (.ref x0)] (v.toList ++ []) M'))) : G 0 [some (.ref x0)] [] M :=
  (hc.1 _ _ _ (i_aload rfl (i_opmasked hx0 (i_if_eq (fun q480 => (hc.2.2.2.2.1 _ _ _ (i_ic (hc.2.2.2.2.2 _ _ _ (i_zret (by decide) hW.1 (h.1 q480)))))) (fun q480 => (hc.2.1 _ _ _ (i_aload rfl (i_ic (i_callE2 (Nat.le_of_ble_eq_true rfl) hx0 (h.2 q480))))))))))
set_option maxRecDepth 100000 in
theorem rX4_makesLanes_7_2 {G : Nat → KT} {K : RT} (hc : cloX4_makesLanes G K wT) {x0 : Nat} {y : Int32} {M : Mem} (hW : Wf M) (hx0 : isOp x0) (h : (¬ (P_X4_isRegister y) → K (some (.int (0 : Int32))) M) ∧ ((P_X4_isRegister y) → (((P_X4_storesLanes x0) → K (some (.int (0 : Int32))) M) ∧ (¬ (P_X4_storesLanes x0) → K (some (.int (1 : Int32))) M)))) : RX4_makesLanes_7_2 G K [some (.ref x0)] (Option.toList (some (.int y)) ++ []) M :=
  (i_rI (i_callS1 (Nat.le_of_ble_eq_true rfl) (c_X4_isRegister hW  (i_rI (i_bI_eq (fun q481 => (hc.2.2.2.2.1 _ _ _ (i_ic (hc.2.2.2.2.2 _ _ _ (i_zret (by decide) hW.1 (h.1 q481)))))) (fun q481 => (hc.2.2.1 _ _ _ (i_aload rfl (i_callE1 (Nat.le_of_ble_eq_true rfl) hx0 (c_X4_storesLanes hW hx0 (i_rI (i_bI_ne (fun q482 => (hc.2.2.2.2.1 _ _ _ (i_ic (hc.2.2.2.2.2 _ _ _ (i_zret (by decide) hW.1 ((h.2 q481).1 q482)))))) (fun q482 => (hc.2.2.2.1 _ _ _ (i_ic (hc.2.2.2.2.2 _ _ _ (i_zret (by decide) hW.1 ((h.2 q481).2 q482))))))))))))))))))
theorem wX4_makesLanes {x0 : Nat} {M : Mem} {K : RT} (hW : Wf M) (hx0 : isOp x0) (h : ∀ {G : Nat → KT}, cloX4_makesLanes G K wT → ((Int32.ofNat (mkT.getD (x0 - 100000) 0)) = 0 → K (some (.int (0 : Int32))) M) ∧ (¬ (Int32.ofNat (mkT.getD (x0 - 100000) 0)) = 0 → sp_X4_letter [.ref x0, .int (0 : Int32)] M (fun v M' => RX4_makesLanes_7_2 G K [some (.ref x0)] (v.toList ++ []) M'))) : sp_X4_makesLanes [.ref x0] M K := by
  refine ⟨Nat.le_of_ble_eq_true rfl, fun G hc => ?_⟩
  rw [hW.1] at hc
  exact eX4_makesLanes hc hW hx0 (h hc)
theorem getD_any {l : List Nat} {k a b : Nat} (h : k < l.length) : l.getD k a = l.getD k b := by
  rw [List.getD_eq_getElem?_getD, List.getD_eq_getElem?_getD, List.getElem?_eq_getElem h]; rfl
def opL (o : Nat) : List Nat := tI (100200 + oIx.getD o 0)
def letN (o k : Nat) : Nat := (opL o).getD k 32
def leadN (o : Nat) : Nat := if o = 59 ∨ o = 65 then 1 else if 60 ≤ o ∧ o ≤ 63 then 3 else if o = 64 then 2 else 0
def tgN (o : Nat) : Nat := if o = 27 ∨ o = 29 then 65 else if 97 ≤ letN o 0 ∧ letN o 0 ≤ 122 then 86 else letN o 0
theorem op_all : ∀ o ∈ List.range 68, ixJ (opL o) 76 + 1 = nI (leadN o) ∧ ((mkT.getD o 0 = 1 ∧ (97 ≤ letN o 0 ∧ letN o 0 ≤ 122) ∧ ¬ (o = 27 ∨ o = 29)) ↔ (o ∈ MKL ∨ o = 39)) ∧ (mkT.getD o 0 = 0 ∨ mkT.getD o 0 = 1) ∧ (opL o).length ≤ 4 ∧ (o < 46 → 2 ≤ (opL o).length) := by decide +kernel
theorem isOp_n {o : Nat} (h : o < 68) : isOp (100000 + o) := ⟨by omega, by omega⟩
theorem op_c {o : Nat} : 100000 + o - 100000 = o := by omega
theorem opLen_f {o : Nat} (h : o < 68) : f_J0_length_8abf5 (100200 + oIx.getD (100000 + o - 100000) 0) = nI (opL o).length := by
  rw [c_len (oTx (isOp_n h)), op_c]; rfl
theorem opLen4 {o : Nat} (h : o < 68) : (opL o).length ≤ 4 := (op_all o (List.mem_range.mpr h)).2.2.2.1
theorem letN_lt {o k : Nat} (h : o < 68) : letN o k < 128 := by
  unfold letN
  rcases Nat.lt_or_ge k (opL o).length with q | q
  · have := tI_lt (oTx (isOp_n h)) (i := k)
    rw [op_c] at this
    rw [getD_any (b := 0) q]
    exact this
  · rw [List.getD_eq_getElem?_getD, List.getElem?_eq_none q]; decide
theorem isReg_n {c : Nat} (h : c < 128) : P_X4_isRegister (nI c) ↔ 97 ≤ c ∧ c ≤ 122 := by
  unfold P_X4_isRegister
  rw [show (97 : Int32) = nI 97 from rfl, show (122 : Int32) = nI 122 from rfl, nI_ltI (by omega) (by omega), nI_ltI (by omega) (by omega)]
  omega
theorem stores_n {o : Nat} : P_X4_storesLanes (100000 + o) ↔ o = 27 ∨ o = 29 := by
  unfold P_X4_storesLanes
  omega
theorem c_letter {o k : Nat} {M : Mem} {K : RT} (hW : Wf M) (ho : o < 68) (hk : k < 100) (h : K (some (.int (nI (letN o k)))) M) : sp_X4_letter [.ref (100000 + o), .int (nI k)] M K := by
  have hl := opLen4 ho
  refine wX4_letter hW (isOp_n ho) (fun {G} hc => ⟨fun q => absurd q (nI_pos (by omega)), fun _ => ⟨fun q => ?_, fun q => ?_⟩⟩)
  · rw [opLen_f ho, nI_leI (by omega) (by omega)] at q
    have e : letN o k = 32 := by unfold letN; rw [List.getD_eq_getElem?_getD, List.getElem?_eq_none q]; rfl
    rw [e] at h
    exact h
  · rw [opLen_f ho, nI_leI (by omega) (by omega)] at q
    have hlt := letN_lt (k := k) ho
    rw [op_c]
    have tx := oTx (isOp_n ho)
    rw [op_c] at tx
    refine c_charAt hW tx (Nat.not_le.mp q) ?_
    have e : (tI (100200 + oIx.getD o 0)).getD k 0 = letN o k := by
      exact getD_any (Nat.not_le.mp q)
    rw [e]
    exact rX4_letter_15_3 hc hW ⟨⟨nI_pos' (by omega), nI_lt (b := 65536) (by omega) (by decide)⟩, h⟩
theorem c_leadCell {o : Nat} {M : Mem} {K : RT} (hW : Wf M) (ho : o < 68) (h : K (some (.int (nI (leadN o)))) M) : sp_X4_leadCell [.ref (100000 + o)] M K := by
  refine wX4_leadCell hW (isOp_n ho) (fun {G} hc => ?_)
  rw [op_c]
  have tx := oTx (isOp_n ho)
  rw [op_c] at tx
  refine c_indexOf (c := 76) hW tx (by decide) (rX4_leadCell_0_3 hc hW ?_)
  have e : ixJ (tI (100200 + oIx.getD o 0)) 76 + 1 = nI (leadN o) := (op_all o (List.mem_range.mpr ho)).1
  rw [e]
  exact h
theorem c_target {o : Nat} {M : Mem} {K : RT} (hW : Wf M) (ho : o < 68) (h : K (some (.int (nI (tgN o)))) M) : sp_X4_target [.ref (100000 + o)] M K := by
  have hlt := letN_lt (k := 0) ho
  refine wX4_target hW (isOp_n ho) (fun {G} hc => ?_)
  rw [stores_n]
  refine ⟨fun q => c_letter (k := 0) hW ho (by decide) (rX4_target_10_2 hc hW (isOp_n ho) ?_), fun q => ?_⟩
  · rw [isReg_n hlt]
    refine ⟨fun q2 => c_letter (k := 0) hW ho (by decide) (rX4_target_26_2 hc hW ⟨⟨nI_pos' (by omega), nI_lt (b := 65536) (by omega) (by decide)⟩, ?_⟩), fun q2 => ?_⟩
    · have e : tgN o = letN o 0 := by unfold tgN; rw [if_neg q, if_neg q2]
      rw [e] at h; exact h
    · have e : tgN o = 86 := by unfold tgN; rw [if_neg q, if_pos q2]
      rw [e] at h; exact h
  · have e : tgN o = 65 := by unfold tgN; rw [if_pos q]
    rw [e] at h; exact h
theorem c_makesLanes {o : Nat} {M : Mem} {K : RT} (hW : Wf M) (ho : o < 68) (h : ((o ∈ MKL ∨ o = 39) → K (some (.int 1)) M) ∧ (¬ (o ∈ MKL ∨ o = 39) → K (some (.int 0)) M)) : sp_X4_makesLanes [.ref (100000 + o)] M K := by
  have hlt := letN_lt (k := 0) ho
  have ha := op_all o (List.mem_range.mpr ho)
  refine wX4_makesLanes hW (isOp_n ho) (fun {G} hc => ?_)
  rw [op_c]
  have hm : Int32.ofNat (mkT.getD o 0) = 0 ↔ mkT.getD o 0 = 0 := by
    rcases ha.2.2.1 with e | e <;> (rw [e]; decide)
  rw [hm]
  refine ⟨fun q => h.2 (fun z => ?_), fun q => c_letter (k := 0) hW ho (by decide) (rX4_makesLanes_7_2 hc hW (isOp_n ho) ?_)⟩
  · have := (ha.2.1.mpr z).1
    omega
  · rw [isReg_n hlt, stores_n]
    refine ⟨fun q2 => h.2 (fun z => q2 (ha.2.1.mpr z).2.1), fun q2 => ⟨fun q3 => h.2 (fun z => (ha.2.1.mpr z).2.2 q3), fun q3 => h.1 (ha.2.1.mp ⟨by rcases ha.2.2.1 with e | e <;> omega, q2, q3⟩)⟩⟩
end OPS
