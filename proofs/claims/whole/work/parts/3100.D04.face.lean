section D04
set_option maxRecDepth 100000 in
theorem eX13_fault {G : Nat → KT} {K : RT} (hc : cloX13_fault G K wT) {x1 : Int32} {M : Mem} (hW : Wf M) (h : (¬ x1 = 0 → ((¬ x1 = (1 : Int32) → ((¬ x1 = (2 : Int32) → K (some (.int (0 : Int32))) (uI M 605 2 (0 : Int32))) ∧ (x1 = (2 : Int32) → K (some (.int (gI M 605 50))) (uI M 605 2 (0 : Int32))))) ∧ (x1 = (1 : Int32) → K (some (.int (gI M 605 49))) (uI M 605 2 (0 : Int32))))) ∧ (x1 = 0 → K (some (.int (gI M 605 48))) (uI M 605 2 (0 : Int32)))) : G 0 [some (.ref 605), some (.int x1)] [] M :=
  (hc.1 _ _ _ (i_aload rfl (i_ic (i_putI (okS hW Sk_605) (i_iload rfl (i_if_ne (fun q2183 => (hc.2.2.1 _ _ _ (i_iload rfl (i_ic (i_icmp_ne (fun q2184 => (hc.2.2.2.2.1 _ _ _ (i_iload rfl (i_ic (i_icmp_ne (fun q2185 => (hc.2.2.2.2.2.2.1 _ _ _ (i_ic (hc.2.2.2.2.2.2.2 _ _ _ (i_iret hW.1 (((h.1 q2183).1 q2184).1 q2185)))))) (fun q2185 => (hc.2.2.2.2.2.1 _ _ _ (i_aload rfl (i_getIE (okS hW Sk_605) (rI_k (by decide)) (hc.2.2.2.2.2.2.2 _ _ _ (i_iret hW.1 (((h.1 q2183).1 q2184).2 q2185)))))))))))) (fun q2184 => (hc.2.2.2.1 _ _ _ (i_aload rfl (i_getIE (okS hW Sk_605) (rI_k (by decide)) (hc.2.2.2.2.2.2.2 _ _ _ (i_iret hW.1 ((h.1 q2183).2 q2184)))))))))))) (fun q2183 => (hc.2.1 _ _ _ (i_aload rfl (i_getIE (okS hW Sk_605) (rI_k (by decide)) (hc.2.2.2.2.2.2.2 _ _ _ (i_iret hW.1 (h.2 q2183)))))))))))))
theorem wX13_fault {x1 : Int32} {M : Mem} {K : RT} (hW : Wf M) (h : (¬ x1 = 0 → ((¬ x1 = (1 : Int32) → ((¬ x1 = (2 : Int32) → K (some (.int (0 : Int32))) (uI M 605 2 (0 : Int32))) ∧ (x1 = (2 : Int32) → K (some (.int (gI M 605 50))) (uI M 605 2 (0 : Int32))))) ∧ (x1 = (1 : Int32) → K (some (.int (gI M 605 49))) (uI M 605 2 (0 : Int32))))) ∧ (x1 = 0 → K (some (.int (gI M 605 48))) (uI M 605 2 (0 : Int32)))) : sp_X13_fault [.ref 605, .int x1] M K := by
  refine ⟨Nat.le_of_ble_eq_true rfl, fun G hc => ?_⟩
  rw [hW.1] at hc
  exact eX13_fault hc hW  h
noncomputable def f_X13_fault (x1 : Int32) (M : Mem) : Int32 := (if x1 = 0 then (gI M 605 48) else (if x1 = (1 : Int32) then (gI M 605 49) else (if x1 = (2 : Int32) then (gI M 605 50) else (0 : Int32))))
noncomputable def m_X13_fault (x1 : Int32) (M : Mem) : Mem := (uI M 605 2 (0 : Int32))
theorem c_X13_fault {x1 : Int32} {M : Mem} {K : RT} (hW : Wf M) (h : K (some (.int (f_X13_fault x1 M))) (m_X13_fault x1 M)) : sp_X13_fault [.ref 605, .int x1] M K := by
  refine wX13_fault hW  ?_
  unfold f_X13_fault m_X13_fault at h
  refine ⟨fun q0 => ?_, fun q0 => ?_⟩
  · skip
    try simp only [if_neg q0] at h
    refine ⟨fun q1 => ?_, fun q1 => ?_⟩
    · skip
      try simp only [if_neg q1] at h
      refine ⟨fun q2 => ?_, fun q2 => ?_⟩
      · skip
        try simp only [if_neg q2] at h
        first | exact h | contradiction
      · skip
        try simp only [if_pos q2] at h
        first | exact h | contradiction
    · skip
      try simp only [if_pos q1] at h
      first | exact h | contradiction
  · skip
    try simp only [if_pos q0] at h
    first | exact h | contradiction
theorem Wf_m_X13_fault (x1 : Int32) {M : Mem} (hW : Wf M) : Wf (m_X13_fault x1 M) := by
  unfold m_X13_fault
  exact hW
set_option maxRecDepth 100000 in
theorem eX13_elements {G : Nat → KT} {K : RT} (hc : cloX13_elements G K wT) {M : Mem} (hW : Wf M) (h : G 4 [some (.ref 605), some (.int (0 : Int32)), some (.int (0 : Int32))] [] M) : G 0 [some (.ref 605), none, none] [] M :=
  (hc.1 _ _ _ (i_ic (i_istore (Nat.le_of_ble_eq_true rfl) (i_ic (i_istore (Nat.le_of_ble_eq_true rfl) h)))))
set_option maxRecDepth 100000 in
theorem eX13_elements_4 {G : Nat → KT} {K : RT} (hc : cloX13_elements G K wT) {x1 : Int32} {x2 : Int32} {M : Mem} (hW : Wf M) (h : ((8 : Int32) ≤ x2 → K (some (.int x1)) M) ∧ (¬ (8 : Int32) ≤ x2 → ((vp_in x2 8) ∧ G 4 [some (.ref 605), some (.int (x1 + (gI M 629 (x2).toNatClampNeg))), some (.int (x2 + (1 : Int32)))] [] M))) : G 4 [some (.ref 605), some (.int x1), some (.int x2)] [] M :=
  (hc.2.1 _ _ _ (i_iload rfl (i_ic (i_icmp_ge (fun q2187 => (hc.2.2.2 _ _ _ (i_iload rfl (i_iret hW.1 (h.1 q2187))))) (fun q2187 => (hc.2.2.1 _ _ _ (i_iload rfl (i_aload rfl (i_getR (okS hW Sk_605) (nv_605_39 hW) (i_iload rfl (i_iald hW Ss_629 (h.2 q2187).1 (i_iadd (i_istore (Nat.le_of_ble_eq_true rfl) (i_iinc rfl (h.2 q2187).2))))))))))))))
theorem wX13_elements {M : Mem} {K : RT} (hW : Wf M) (h : ∀ {G : Nat → KT}, cloX13_elements G K wT → G 4 [some (.ref 605), some (.int (0 : Int32)), some (.int (0 : Int32))] [] M) : sp_X13_elements [.ref 605] M K := by
  refine ⟨Nat.le_of_ble_eq_true rfl, fun G hc => ?_⟩
  rw [hW.1] at hc
  exact eX13_elements hc hW  (h hc)
def RX13_memory_61_1 (G : Nat → KT) (K : RT) : KT := (w_iload 2 (w_iadd (w_ic 400 (w_icmp_le (G 76) (G 73)))))
set_option maxRecDepth 100000 in
theorem eX13_memory {G : Nat → KT} {K : RT} (hc : cloX13_memory G K wT) {x1 : Int32} {x2 : Int32} {M : Mem} (hW : Wf M) (h : (¬ (P_X13_in (x1.toInt64) (0 : Int64) (6 : Int64)) → K (some (.int (-1 : Int32))) (uI M 605 2 (0 : Int32))) ∧ ((P_X13_in (x1.toInt64) (0 : Int64) (6 : Int64)) → (((P_X13_in (x2.toInt64) (0 : Int64) (64 : Int64)) → G 33 [some (.ref 605), some (.int x1), some (.int x2), some (.int (0 : Int32)), none] [] (uI M 605 2 (0 : Int32))) ∧ (¬ (P_X13_in (x2.toInt64) (0 : Int64) (64 : Int64)) → K (some (.int (-1 : Int32))) (uI M 605 2 (0 : Int32)))))) : G 0 [some (.ref 605), some (.int x1), some (.int x2), none, none] [] M :=
  (hc.1 _ _ _ (i_aload rfl (i_ic (i_putI (okS hW Sk_605) (i_iload rfl (i_i2l (i_lc (i_lc (i_callS3 (Nat.le_of_ble_eq_true rfl) (c_X13_in hW  (i_rI (i_bI_eq (fun q2195 => (hc.2.2.1 _ _ _ (i_ic (i_iret hW.1 (h.1 q2195))))) (fun q2195 => (hc.2.1 _ _ _ (i_iload rfl (i_i2l (i_lc (i_lc (i_callS3 (Nat.le_of_ble_eq_true rfl) (c_X13_in hW  (i_rI (i_bI_ne (fun q2196 => (hc.2.2.2.1 _ _ _ (i_ic (i_istore (Nat.le_of_ble_eq_true rfl) ((h.2 q2195).1 q2196))))) (fun q2196 => (hc.2.2.1 _ _ _ (i_ic (i_iret hW.1 ((h.2 q2195).2 q2196)))))))))))))))))))))))))))
set_option maxRecDepth 100000 in
theorem eX13_memory_33 {G : Nat → KT} {K : RT} (hc : cloX13_memory G K wT) {x1 : Int32} {x2 : Int32} {x3 : Int32} {o4 : Option Value} {M : Mem} (hW : Wf M) (h : ((8 : Int32) ≤ x3 → G 55 [some (.ref 605), some (.int x1), some (.int x2), some (.int x3), o4] [] M) ∧ (¬ (8 : Int32) ≤ x3 → ((vp_in x3 8) ∧ (((gI M 628 (x3).toNatClampNeg) = (-1 : Int32) → G 55 [some (.ref 605), some (.int x1), some (.int x2), some (.int x3), o4] [] M) ∧ (¬ (gI M 628 (x3).toNatClampNeg) = (-1 : Int32) → G 33 [some (.ref 605), some (.int x1), some (.int x2), some (.int (x3 + (1 : Int32))), o4] [] M))))) : G 33 [some (.ref 605), some (.int x1), some (.int x2), some (.int x3), o4] [] M :=
  (hc.2.2.2.2.1 _ _ _ (i_iload rfl (i_ic (i_icmp_ge (fun q2197 => (h.1 q2197)) (fun q2197 => (hc.2.2.2.2.2.1 _ _ _ (i_aload rfl (i_getR (okS hW Sk_605) (nv_605_38 hW) (i_iload rfl (i_iald hW Ss_628 (h.2 q2197).1 (i_ic (i_icmp_eq (fun q2198 => ((h.2 q2197).2.1 q2198)) (fun q2198 => (hc.2.2.2.2.2.2.1 _ _ _ (i_iinc rfl ((h.2 q2197).2.2 q2198))))))))))))))))
set_option maxRecDepth 100000 in
theorem eX13_memory_55 {G : Nat → KT} {K : RT} (hc : cloX13_memory G K wT) {x1 : Int32} {x2 : Int32} {x3 : Int32} {o4 : Option Value} {M : Mem} (hW : Wf M) (h : (x3 = (8 : Int32) → K (some (.int (-2 : Int32))) M) ∧ (¬ x3 = (8 : Int32) → sp_X13_elements [.ref 605] M (fun v M' => RX13_memory_61_1 G K [some (.ref 605), some (.int x1), some (.int x2), some (.int x3), o4] (v.toList ++ []) M'))) : G 55 [some (.ref 605), some (.int x1), some (.int x2), some (.int x3), o4] [] M :=
  (hc.2.2.2.2.2.2.2.1 _ _ _ (i_iload rfl (i_ic (i_icmp_eq (fun q2199 => (hc.2.2.2.2.2.2.2.2.2.1 _ _ _ (i_ic (i_iret hW.1 (h.1 q2199))))) (fun q2199 => (hc.2.2.2.2.2.2.2.2.1 _ _ _ (i_aload rfl (i_callV1 (Nat.le_of_ble_eq_true rfl) (okS hW Sk_605) (h.2 q2199)))))))))
set_option maxRecDepth 100000 in
theorem eX13_memory_93 {G : Nat → KT} {K : RT} (hc : cloX13_memory G K wT) {o1 : Option Value} {o2 : Option Value} {x3 : Int32} {x4 : Int32} {M : Mem} (hW : Wf M) (h : ((64 : Int32) ≤ x4 → K (some (.int x3)) (uI M 605 59 (0 : Int32))) ∧ (¬ (64 : Int32) ≤ x4 → ((q_X13_lay (((256 : Int32) + ((64 : Int32) * x3)) + x4) (0 : Int64) FP.dconst0) ∧ G 93 [some (.ref 605), o1, o2, some (.int x3), some (.int (x4 + (1 : Int32)))] [] (m_X13_lay (((256 : Int32) + ((64 : Int32) * x3)) + x4) (0 : Int64) FP.dconst0 M)))) : G 93 [some (.ref 605), o1, o2, some (.int x3), some (.int x4)] [] M :=
  (hc.2.2.2.2.2.2.2.2.2.2.2.1 _ _ _ (i_iload rfl (i_ic (i_icmp_ge (fun q2200 => (hc.2.2.2.2.2.2.2.2.2.2.2.2.2 _ _ _ (i_aload rfl (i_ic (i_putI (okS hW Sk_605) (i_iload rfl (i_iret hW.1 (h.1 q2200)))))))) (fun q2200 => (hc.2.2.2.2.2.2.2.2.2.2.2.2.1 _ _ _ (i_aload rfl (i_ic (i_ic (i_iload rfl (i_imul (i_iadd (i_iload rfl (i_iadd (i_lc (i_dconst0 (i_callV4 (Nat.le_of_ble_eq_true rfl) (okS hW Sk_605) (c_X13_lay hW  (h.2 q2200).1 (i_rN (i_iinc rfl (h.2 q2200).2))))))))))))))))))))
set_option maxRecDepth 100000 in
theorem rX13_memory_61_1 {G : Nat → KT} {K : RT} (hc : cloX13_memory G K wT) {x1 : Int32} {x2 : Int32} {x3 : Int32} {o4 : Option Value} {y : Int32} {M : Mem} (hW : Wf M) (h : ((y + x2) ≤ (400 : Int32) → ((vp_in x3 8) ∧ ((vp_in x3 8) ∧ G 93 [some (.ref 605), some (.int x1), some (.int x2), some (.int x3), some (.int (0 : Int32))] [] (uI (uI M 628 (x3).toNatClampNeg x1) 629 (x3).toNatClampNeg x2)))) ∧ (¬ (y + x2) ≤ (400 : Int32) → K (some (.int (-2 : Int32))) M)) : RX13_memory_61_1 G K [some (.ref 605), some (.int x1), some (.int x2), some (.int x3), o4] (Option.toList (some (.int y)) ++ []) M :=
  (i_rI (i_iload rfl (i_iadd (i_ic (i_icmp_le (fun q2201 => (hc.2.2.2.2.2.2.2.2.2.2.1 _ _ _ (i_aload rfl (i_getR (okS hW Sk_605) (nv_605_38 hW) (i_iload rfl (i_iload rfl (i_iast hW Ss_628 (h.1 q2201).1 (i_aload rfl (i_getR (okS hW Sk_605) (nv_605_39 hW) (i_iload rfl (i_iload rfl (i_iast hW Ss_629 (h.1 q2201).2.1 (i_ic (i_istore (Nat.le_of_ble_eq_true rfl) (h.1 q2201).2.2)))))))))))))) (fun q2201 => (hc.2.2.2.2.2.2.2.2.2.1 _ _ _ (i_ic (i_iret hW.1 (h.2 q2201))))))))))
theorem wX13_memory {x1 : Int32} {x2 : Int32} {M : Mem} {K : RT} (hW : Wf M) (h : ∀ {G : Nat → KT}, cloX13_memory G K wT → (¬ (P_X13_in (x1.toInt64) (0 : Int64) (6 : Int64)) → K (some (.int (-1 : Int32))) (uI M 605 2 (0 : Int32))) ∧ ((P_X13_in (x1.toInt64) (0 : Int64) (6 : Int64)) → (((P_X13_in (x2.toInt64) (0 : Int64) (64 : Int64)) → G 33 [some (.ref 605), some (.int x1), some (.int x2), some (.int (0 : Int32)), none] [] (uI M 605 2 (0 : Int32))) ∧ (¬ (P_X13_in (x2.toInt64) (0 : Int64) (64 : Int64)) → K (some (.int (-1 : Int32))) (uI M 605 2 (0 : Int32)))))) : sp_X13_memory [.ref 605, .int x1, .int x2] M K := by
  refine ⟨Nat.le_of_ble_eq_true rfl, fun G hc => ?_⟩
  rw [hW.1] at hc
  exact eX13_memory hc hW  (h hc)
set_option maxRecDepth 100000 in
theorem eX13_isArray {G : Nat → KT} {K : RT} (hc : cloX13_isArray G K wT) {x1 : Int32} {M : Mem} (hW : Wf M) (h : (¬ (P_X13_in (x1.toInt64) (0 : Int64) (7 : Int64)) → K (some (.int (0 : Int32))) M) ∧ ((P_X13_in (x1.toInt64) (0 : Int64) (7 : Int64)) → ((vp_in x1 8) ∧ (((gI M 628 (x1).toNatClampNeg) = (-1 : Int32) → K (some (.int (0 : Int32))) M) ∧ (¬ (gI M 628 (x1).toNatClampNeg) = (-1 : Int32) → K (some (.int (1 : Int32))) M))))) : G 0 [some (.ref 605), some (.int x1)] [] M :=
  (hc.1 _ _ _ (i_iload rfl (i_i2l (i_lc (i_lc (i_callS3 (Nat.le_of_ble_eq_true rfl) (c_X13_in hW  (i_rI (i_bI_eq (fun q2202 => (hc.2.2.2.1 _ _ _ (i_ic (hc.2.2.2.2 _ _ _ (i_zret (by decide) hW.1 (h.1 q2202)))))) (fun q2202 => (hc.2.1 _ _ _ (i_aload rfl (i_getR (okS hW Sk_605) (nv_605_38 hW) (i_iload rfl (i_iald hW Ss_628 (h.2 q2202).1 (i_ic (i_icmp_eq (fun q2203 => (hc.2.2.2.1 _ _ _ (i_ic (hc.2.2.2.2 _ _ _ (i_zret (by decide) hW.1 ((h.2 q2202).2.1 q2203)))))) (fun q2203 => (hc.2.2.1 _ _ _ (i_ic (hc.2.2.2.2 _ _ _ (i_zret (by decide) hW.1 ((h.2 q2202).2.2 q2203)))))))))))))))))))))))
theorem wX13_isArray {x1 : Int32} {M : Mem} {K : RT} (hW : Wf M) (h : (¬ (P_X13_in (x1.toInt64) (0 : Int64) (7 : Int64)) → K (some (.int (0 : Int32))) M) ∧ ((P_X13_in (x1.toInt64) (0 : Int64) (7 : Int64)) → ((vp_in x1 8) ∧ (((gI M 628 (x1).toNatClampNeg) = (-1 : Int32) → K (some (.int (0 : Int32))) M) ∧ (¬ (gI M 628 (x1).toNatClampNeg) = (-1 : Int32) → K (some (.int (1 : Int32))) M))))) : sp_X13_isArray [.ref 605, .int x1] M K := by
  refine ⟨Nat.le_of_ble_eq_true rfl, fun G hc => ?_⟩
  rw [hW.1] at hc
  exact eX13_isArray hc hW  h
def P_X13_isArray (x1 : Int32) (M : Mem) : Prop := (((P_X13_in (x1.toInt64) (0 : Int64) (7 : Int64))) ∧ (¬ (gI M 628 (x1).toNatClampNeg) = (-1 : Int32)))
def q_X13_isArray (x1 : Int32) (M : Mem) : Prop := ((P_X13_in (x1.toInt64) (0 : Int64) (7 : Int64)) → (vp_in x1 8))
theorem c_X13_isArray {x1 : Int32} {M : Mem} {K : RT} (hW : Wf M) (hp : q_X13_isArray x1 M) (h : K (some (.int (pI (P_X13_isArray x1 M)))) M) : sp_X13_isArray [.ref 605, .int x1] M K := by
  refine wX13_isArray hW  ?_
  unfold P_X13_isArray at h
  unfold q_X13_isArray at hp
  refine ⟨fun q0 => ?_, fun q0 => ?_⟩
  · skip
    exact pI_goF h (by simp only [eq_false q0, not_true_eq_false, not_false_eq_true, true_and, false_and, and_true, and_false, true_or, or_true, false_or, or_false, iff_self])
  · have hq0 := hp q0
    refine ⟨hq0, ?_⟩
    refine ⟨fun q1 => ?_, fun q1 => ?_⟩
    · skip
      exact pI_goF h (by simp only [eq_true q0, eq_true q1, not_true_eq_false, not_false_eq_true, true_and, false_and, and_true, and_false, true_or, or_true, false_or, or_false, iff_self])
    · skip
      exact pI_goT h (by simp only [eq_true q0, eq_false q1, not_true_eq_false, not_false_eq_true, true_and, false_and, and_true, and_false, true_or, or_true, false_or, or_false, iff_self])
set_option maxRecDepth 100000 in
theorem eX13_free {G : Nat → KT} {K : RT} (hc : cloX13_free G K wT) {x1 : Int32} {M : Mem} (hW : Wf M) (h : (q_X13_isArray x1 (uI M 605 2 (0 : Int32))) ∧ (((P_X13_isArray x1 (uI M 605 2 (0 : Int32))) → ((vp_in x1 8) ∧ ((vp_in x1 8) ∧ K (some (.int (1 : Int32))) (uI (uI (uI (uI M 605 2 (0 : Int32)) 628 (x1).toNatClampNeg (-1 : Int32)) 629 (x1).toNatClampNeg (0 : Int32)) 605 59 (0 : Int32))))) ∧ (¬ (P_X13_isArray x1 (uI M 605 2 (0 : Int32))) → K (some (.int (0 : Int32))) (uI M 605 2 (0 : Int32))))) : G 0 [some (.ref 605), some (.int x1)] [] M :=
  (hc.1 _ _ _ (i_aload rfl (i_ic (i_putI (okS hW Sk_605) (i_aload rfl (i_iload rfl (i_callV2 (Nat.le_of_ble_eq_true rfl) (okS hW Sk_605) (c_X13_isArray hW  h.1 (i_rI (i_bI_ne (fun q2204 => (hc.2.2 _ _ _ (i_aload rfl (i_getR (okS hW Sk_605) (nv_605_38 hW) (i_iload rfl (i_ic (i_iast hW Ss_628 (h.2.1 q2204).1 (i_aload rfl (i_getR (okS hW Sk_605) (nv_605_39 hW) (i_iload rfl (i_ic (i_iast hW Ss_629 (h.2.1 q2204).2.1 (i_aload rfl (i_ic (i_putI (okS hW Sk_605) (i_ic (i_zret (by decide) hW.1 (h.2.1 q2204).2.2))))))))))))))))) (fun q2204 => (hc.2.1 _ _ _ (i_ic (i_zret (by decide) hW.1 (h.2.2 q2204)))))))))))))))
theorem wX13_free {x1 : Int32} {M : Mem} {K : RT} (hW : Wf M) (h : (q_X13_isArray x1 (uI M 605 2 (0 : Int32))) ∧ (((P_X13_isArray x1 (uI M 605 2 (0 : Int32))) → ((vp_in x1 8) ∧ ((vp_in x1 8) ∧ K (some (.int (1 : Int32))) (uI (uI (uI (uI M 605 2 (0 : Int32)) 628 (x1).toNatClampNeg (-1 : Int32)) 629 (x1).toNatClampNeg (0 : Int32)) 605 59 (0 : Int32))))) ∧ (¬ (P_X13_isArray x1 (uI M 605 2 (0 : Int32))) → K (some (.int (0 : Int32))) (uI M 605 2 (0 : Int32))))) : sp_X13_free [.ref 605, .int x1] M K := by
  refine ⟨Nat.le_of_ble_eq_true rfl, fun G hc => ?_⟩
  rw [hW.1] at hc
  exact eX13_free hc hW  h
def P_X13_free (x1 : Int32) (M : Mem) : Prop := ((P_X13_isArray x1 (uI M 605 2 (0 : Int32))))
noncomputable def m_X13_free (x1 : Int32) (M : Mem) : Mem := (iT ((P_X13_isArray x1 (uI M 605 2 (0 : Int32)))) (uI (uI (uI (uI M 605 2 (0 : Int32)) 628 (x1).toNatClampNeg (-1 : Int32)) 629 (x1).toNatClampNeg (0 : Int32)) 605 59 (0 : Int32)) (uI M 605 2 (0 : Int32)))
def q_X13_free (x1 : Int32) (M : Mem) : Prop := ((q_X13_isArray x1 (uI M 605 2 (0 : Int32))) ∧ ((P_X13_isArray x1 (uI M 605 2 (0 : Int32))) → ((vp_in x1 8) ∧ (vp_in x1 8))))
theorem c_X13_free {x1 : Int32} {M : Mem} {K : RT} (hW : Wf M) (hp : q_X13_free x1 M) (h : K (some (.int (pI (P_X13_free x1 M)))) (m_X13_free x1 M)) : sp_X13_free [.ref 605, .int x1] M K := by
  refine wX13_free hW  ?_
  unfold P_X13_free at h
  unfold q_X13_free at hp
  unfold m_X13_free at h
  refine ⟨hp.1, ?_⟩
  refine ⟨fun q0 => ?_, fun q0 => ?_⟩
  · have hq0 := hp.2 q0
    try simp only [iT_t q0] at h
    refine ⟨hq0.1, ?_⟩
    refine ⟨hq0.2, ?_⟩
    exact pI_goT h (by simp only [eq_true q0, not_true_eq_false, not_false_eq_true, true_and, false_and, and_true, and_false, true_or, or_true, false_or, or_false, iff_self])
  · skip
    try simp only [iT_f q0] at h
    exact pI_goF h (by simp only [eq_false q0, not_true_eq_false, not_false_eq_true, true_and, false_and, and_true, and_false, true_or, or_true, false_or, or_false, iff_self])
theorem Wf_m_X13_free (x1 : Int32) {M : Mem} (hW : Wf M) : Wf (m_X13_free x1 M) := by
  unfold m_X13_free
  try unfold iT
  split
  · skip
    exact hW
  · skip
    exact hW
def RX13_resize_27_1 (G : Nat → KT) (K : RT) : KT := (w_aload 0 (w_getf 10 39 3 (w_iload 1 (w_iald (w_isub (w_iload 2 (w_iadd (w_ic 400 (w_icmp_le (G 49) (G 46))))))))))
set_option maxRecDepth 100000 in
theorem eX13_resize {G : Nat → KT} {K : RT} (hc : cloX13_resize G K wT) {x1 : Int32} {x2 : Int32} {M : Mem} (hW : Wf M) (h : (q_X13_isArray x1 (uI M 605 2 (0 : Int32))) ∧ ((¬ (P_X13_isArray x1 (uI M 605 2 (0 : Int32))) → K (some (.int (-1 : Int32))) (uI M 605 2 (0 : Int32))) ∧ ((P_X13_isArray x1 (uI M 605 2 (0 : Int32))) → (((P_X13_in (x2.toInt64) (0 : Int64) (64 : Int64)) → sp_X13_elements [.ref 605] (uI M 605 2 (0 : Int32)) (fun v M' => RX13_resize_27_1 G K [some (.ref 605), some (.int x1), some (.int x2), none, none] (v.toList ++ []) M')) ∧ (¬ (P_X13_in (x2.toInt64) (0 : Int64) (64 : Int64)) → K (some (.int (-1 : Int32))) (uI M 605 2 (0 : Int32))))))) : G 0 [some (.ref 605), some (.int x1), some (.int x2), none, none] [] M :=
  (hc.1 _ _ _ (i_aload rfl (i_ic (i_putI (okS hW Sk_605) (i_aload rfl (i_iload rfl (i_callV2 (Nat.le_of_ble_eq_true rfl) (okS hW Sk_605) (c_X13_isArray hW  h.1 (i_rI (i_bI_eq (fun q2210 => (hc.2.2.1 _ _ _ (i_ic (i_iret hW.1 (h.2.1 q2210))))) (fun q2210 => (hc.2.1 _ _ _ (i_iload rfl (i_i2l (i_lc (i_lc (i_callS3 (Nat.le_of_ble_eq_true rfl) (c_X13_in hW  (i_rI (i_bI_ne (fun q2211 => (hc.2.2.2.1 _ _ _ (i_aload rfl (i_callV1 (Nat.le_of_ble_eq_true rfl) (okS hW Sk_605) ((h.2.2 q2210).1 q2211))))) (fun q2211 => (hc.2.2.1 _ _ _ (i_ic (i_iret hW.1 ((h.2.2 q2210).2 q2211)))))))))))))))))))))))))
set_option maxRecDepth 100000 in
theorem eX13_resize_68 {G : Nat → KT} {K : RT} (hc : cloX13_resize G K wT) {x1 : Int32} {x2 : Int32} {x3 : Int32} {x4 : Int32} {M : Mem} (hW : Wf M) (h : ((64 : Int32) ≤ x4 → ((vp_in x1 8) ∧ K (some (.int x3)) (uI (uI M 629 (x1).toNatClampNeg x2) 605 59 (0 : Int32)))) ∧ (¬ (64 : Int32) ≤ x4 → ((q_X13_lay (((256 : Int32) + ((64 : Int32) * x1)) + x4) (0 : Int64) FP.dconst0) ∧ G 68 [some (.ref 605), some (.int x1), some (.int x2), some (.int x3), some (.int (x4 + (1 : Int32)))] [] (m_X13_lay (((256 : Int32) + ((64 : Int32) * x1)) + x4) (0 : Int64) FP.dconst0 M)))) : G 68 [some (.ref 605), some (.int x1), some (.int x2), some (.int x3), some (.int x4)] [] M :=
  (hc.2.2.2.2.2.2.2.2.2.1 _ _ _ (i_iload rfl (i_ic (i_icmp_ge (fun q2212 => (hc.2.2.2.2.2.2.2.2.2.2.2 _ _ _ (i_aload rfl (i_getR (okS hW Sk_605) (nv_605_39 hW) (i_iload rfl (i_iload rfl (i_iast hW Ss_629 (h.1 q2212).1 (i_aload rfl (i_ic (i_putI (okS hW Sk_605) (i_iload rfl (i_iret hW.1 (h.1 q2212).2)))))))))))) (fun q2212 => (hc.2.2.2.2.2.2.2.2.2.2.1 _ _ _ (i_aload rfl (i_ic (i_ic (i_iload rfl (i_imul (i_iadd (i_iload rfl (i_iadd (i_lc (i_dconst0 (i_callV4 (Nat.le_of_ble_eq_true rfl) (okS hW Sk_605) (c_X13_lay hW  (h.2 q2212).1 (i_rN (i_iinc rfl (h.2 q2212).2))))))))))))))))))))
set_option maxRecDepth 100000 in
theorem rX13_resize_27_1 {G : Nat → KT} {K : RT} (hc : cloX13_resize G K wT) {x1 : Int32} {x2 : Int32} {o3 : Option Value} {o4 : Option Value} {y : Int32} {M : Mem} (hW : Wf M) (h : (vp_in x1 8) ∧ ((((y - (gI M 629 (x1).toNatClampNeg)) + x2) ≤ (400 : Int32) → ((vp_in x1 8) ∧ (((gI M 629 (x1).toNatClampNeg) ≤ x2 → G 68 [some (.ref 605), some (.int x1), some (.int x2), some (.int (gI M 629 (x1).toNatClampNeg)), some (.int (gI M 629 (x1).toNatClampNeg))] [] M) ∧ (¬ (gI M 629 (x1).toNatClampNeg) ≤ x2 → G 68 [some (.ref 605), some (.int x1), some (.int x2), some (.int (gI M 629 (x1).toNatClampNeg)), some (.int x2)] [] M)))) ∧ (¬ ((y - (gI M 629 (x1).toNatClampNeg)) + x2) ≤ (400 : Int32) → K (some (.int (-2 : Int32))) M))) : RX13_resize_27_1 G K [some (.ref 605), some (.int x1), some (.int x2), o3, o4] (Option.toList (some (.int y)) ++ []) M :=
  (i_rI (i_aload rfl (i_getR (okS hW Sk_605) (nv_605_39 hW) (i_iload rfl (i_iald hW Ss_629 h.1 (i_isub (i_iload rfl (i_iadd (i_ic (i_icmp_le (fun q2213 => (hc.2.2.2.2.2.1 _ _ _ (i_aload rfl (i_getR (okS hW Sk_605) (nv_605_39 hW) (i_iload rfl (i_iald hW Ss_629 (h.2.1 q2213).1 (i_istore (Nat.le_of_ble_eq_true rfl) (i_iload rfl (i_iload rfl (i_icmp_ge (fun q2214 => (hc.2.2.2.2.2.2.2.1 _ _ _ (i_iload rfl (hc.2.2.2.2.2.2.2.2.1 _ _ _ (i_istore (Nat.le_of_ble_eq_true rfl) ((h.2.1 q2213).2.1 q2214)))))) (fun q2214 => (hc.2.2.2.2.2.2.1 _ _ _ (i_iload rfl (hc.2.2.2.2.2.2.2.2.1 _ _ _ (i_istore (Nat.le_of_ble_eq_true rfl) ((h.2.1 q2213).2.2 q2214)))))))))))))))) (fun q2213 => (hc.2.2.2.2.1 _ _ _ (i_ic (i_iret hW.1 (h.2.2 q2213)))))))))))))))
theorem wX13_resize {x1 : Int32} {x2 : Int32} {M : Mem} {K : RT} (hW : Wf M) (h : ∀ {G : Nat → KT}, cloX13_resize G K wT → (q_X13_isArray x1 (uI M 605 2 (0 : Int32))) ∧ ((¬ (P_X13_isArray x1 (uI M 605 2 (0 : Int32))) → K (some (.int (-1 : Int32))) (uI M 605 2 (0 : Int32))) ∧ ((P_X13_isArray x1 (uI M 605 2 (0 : Int32))) → (((P_X13_in (x2.toInt64) (0 : Int64) (64 : Int64)) → sp_X13_elements [.ref 605] (uI M 605 2 (0 : Int32)) (fun v M' => RX13_resize_27_1 G K [some (.ref 605), some (.int x1), some (.int x2), none, none] (v.toList ++ []) M')) ∧ (¬ (P_X13_in (x2.toInt64) (0 : Int64) (64 : Int64)) → K (some (.int (-1 : Int32))) (uI M 605 2 (0 : Int32))))))) : sp_X13_resize [.ref 605, .int x1, .int x2] M K := by
  refine ⟨Nat.le_of_ble_eq_true rfl, fun G hc => ?_⟩
  rw [hW.1] at hc
  exact eX13_resize hc hW  (h hc)
set_option maxRecDepth 100000 in
theorem eX13_isElement {G : Nat → KT} {K : RT} (hc : cloX13_isElement G K wT) {x1 : Int32} {x2 : Int32} {M : Mem} (hW : Wf M) (h : (q_X13_isArray x1 M) ∧ ((¬ (P_X13_isArray x1 M) → K (some (.int (0 : Int32))) M) ∧ ((P_X13_isArray x1 M) → ((vp_in x1 8) ∧ ((¬ (P_X13_in (x2.toInt64) (0 : Int64) (((gI M 629 (x1).toNatClampNeg).toInt64) - (1 : Int64))) → K (some (.int (0 : Int32))) M) ∧ ((P_X13_in (x2.toInt64) (0 : Int64) (((gI M 629 (x1).toNatClampNeg).toInt64) - (1 : Int64))) → K (some (.int (1 : Int32))) M)))))) : G 0 [some (.ref 605), some (.int x1), some (.int x2)] [] M :=
  (hc.1 _ _ _ (i_aload rfl (i_iload rfl (i_callV2 (Nat.le_of_ble_eq_true rfl) (okS hW Sk_605) (c_X13_isArray hW  h.1 (i_rI (i_bI_eq (fun q2215 => (hc.2.2.2.1 _ _ _ (i_ic (hc.2.2.2.2 _ _ _ (i_zret (by decide) hW.1 (h.2.1 q2215)))))) (fun q2215 => (hc.2.1 _ _ _ (i_iload rfl (i_i2l (i_lc (i_aload rfl (i_getR (okS hW Sk_605) (nv_605_39 hW) (i_iload rfl (i_iald hW Ss_629 (h.2.2 q2215).1 (i_i2l (i_lc (i_lsub (i_callS3 (Nat.le_of_ble_eq_true rfl) (c_X13_in hW  (i_rI (i_bI_eq (fun q2216 => (hc.2.2.2.1 _ _ _ (i_ic (hc.2.2.2.2 _ _ _ (i_zret (by decide) hW.1 ((h.2.2 q2215).2.1 q2216)))))) (fun q2216 => (hc.2.2.1 _ _ _ (i_ic (hc.2.2.2.2 _ _ _ (i_zret (by decide) hW.1 ((h.2.2 q2215).2.2 q2216)))))))))))))))))))))))))))))
theorem wX13_isElement {x1 : Int32} {x2 : Int32} {M : Mem} {K : RT} (hW : Wf M) (h : (q_X13_isArray x1 M) ∧ ((¬ (P_X13_isArray x1 M) → K (some (.int (0 : Int32))) M) ∧ ((P_X13_isArray x1 M) → ((vp_in x1 8) ∧ ((¬ (P_X13_in (x2.toInt64) (0 : Int64) (((gI M 629 (x1).toNatClampNeg).toInt64) - (1 : Int64))) → K (some (.int (0 : Int32))) M) ∧ ((P_X13_in (x2.toInt64) (0 : Int64) (((gI M 629 (x1).toNatClampNeg).toInt64) - (1 : Int64))) → K (some (.int (1 : Int32))) M)))))) : sp_X13_isElement [.ref 605, .int x1, .int x2] M K := by
  refine ⟨Nat.le_of_ble_eq_true rfl, fun G hc => ?_⟩
  rw [hW.1] at hc
  exact eX13_isElement hc hW  h
def P_X13_isElement (x1 : Int32) (x2 : Int32) (M : Mem) : Prop := (((P_X13_isArray x1 M)) ∧ ((P_X13_in (x2.toInt64) (0 : Int64) (((gI M 629 (x1).toNatClampNeg).toInt64) - (1 : Int64)))))
def q_X13_isElement (x1 : Int32) (x2 : Int32) (M : Mem) : Prop := ((q_X13_isArray x1 M) ∧ ((P_X13_isArray x1 M) → (vp_in x1 8)))
theorem c_X13_isElement {x1 : Int32} {x2 : Int32} {M : Mem} {K : RT} (hW : Wf M) (hp : q_X13_isElement x1 x2 M) (h : K (some (.int (pI (P_X13_isElement x1 x2 M)))) M) : sp_X13_isElement [.ref 605, .int x1, .int x2] M K := by
  refine wX13_isElement hW  ?_
  unfold P_X13_isElement at h
  unfold q_X13_isElement at hp
  refine ⟨hp.1, ?_⟩
  refine ⟨fun q0 => ?_, fun q0 => ?_⟩
  · skip
    exact pI_goF h (by simp only [eq_false q0, not_true_eq_false, not_false_eq_true, true_and, false_and, and_true, and_false, true_or, or_true, false_or, or_false, iff_self])
  · have hq0 := hp.2 q0
    refine ⟨hq0, ?_⟩
    refine ⟨fun q1 => ?_, fun q1 => ?_⟩
    · skip
      exact pI_goF h (by simp only [eq_true q0, eq_false q1, not_true_eq_false, not_false_eq_true, true_and, false_and, and_true, and_false, true_or, or_true, false_or, or_false, iff_self])
    · skip
      exact pI_goT h (by simp only [eq_true q0, eq_true q1, not_true_eq_false, not_false_eq_true, true_and, false_and, and_true, and_false, true_or, or_true, false_or, or_false, iff_self])
def RX13_poke_16_13 (G : Nat → KT) (K : RT) : KT := (w_aload 0 (w_ic 0 (w_putI 10 59 (w_ic 1 (w_zret wT K)))))
set_option maxRecDepth 100000 in
theorem eX13_poke {G : Nat → KT} {K : RT} (hc : cloX13_poke G K wT) {x1 : Int32} {x2 : Int32} {x3 : Int64} {M : Mem} (hW : Wf M) (h : (q_X13_isElement x1 x2 (uI M 605 2 (0 : Int32))) ∧ (((P_X13_isElement x1 x2 (uI M 605 2 (0 : Int32))) → ((vp_in x1 8) ∧ sp_X13_put [.ref 605, .int (((256 : Int32) + ((64 : Int32) * x1)) + x2), .int (gI M 628 (x1).toNatClampNeg), .long x3] (uI M 605 2 (0 : Int32)) (fun v M' => RX13_poke_16_13 G K [some (.ref 605), some (.int x1), some (.int x2), some (.long x3), none] (v.toList ++ []) M'))) ∧ (¬ (P_X13_isElement x1 x2 (uI M 605 2 (0 : Int32))) → K (some (.int (0 : Int32))) (uI M 605 2 (0 : Int32))))) : G 0 [some (.ref 605), some (.int x1), some (.int x2), some (.long x3), none] [] M :=
  (hc.1 _ _ _ (i_aload rfl (i_ic (i_putI (okS hW Sk_605) (i_aload rfl (i_iload rfl (i_iload rfl (i_callV3 (Nat.le_of_ble_eq_true rfl) (okS hW Sk_605) (c_X13_isElement hW  h.1 (i_rI (i_bI_ne (fun q2218 => (hc.2.2 _ _ _ (i_aload rfl (i_ic (i_ic (i_iload rfl (i_imul (i_iadd (i_iload rfl (i_iadd (i_aload rfl (i_getR (okS hW Sk_605) (nv_605_38 hW) (i_iload rfl (i_ialdE hW Ss_628 (rI_a (by decide)) (h.2.1 q2218).1 (i_lload rfl (i_callV4 (Nat.le_of_ble_eq_true rfl) (okS hW Sk_605) (h.2.1 q2218).2)))))))))))))))) (fun q2218 => (hc.2.1 _ _ _ (i_ic (i_zret (by decide) hW.1 (h.2.2 q2218))))))))))))))))
set_option maxRecDepth 100000 in
theorem rX13_poke_16_13 {G : Nat → KT} {K : RT} (hc : cloX13_poke G K wT) {o1 : Option Value} {o2 : Option Value} {o3 : Option Value} {o4 : Option Value} {M : Mem} (hW : Wf M) (h : K (some (.int (1 : Int32))) (uI M 605 59 (0 : Int32))) : RX13_poke_16_13 G K [some (.ref 605), o1, o2, o3, o4] (Option.toList none ++ []) M :=
  (i_rN (i_aload rfl (i_ic (i_putI (okS hW Sk_605) (i_ic (i_zret (by decide) hW.1 h))))))
theorem wX13_poke {x1 : Int32} {x2 : Int32} {x3 : Int64} {M : Mem} {K : RT} (hW : Wf M) (h : ∀ {G : Nat → KT}, cloX13_poke G K wT → (q_X13_isElement x1 x2 (uI M 605 2 (0 : Int32))) ∧ (((P_X13_isElement x1 x2 (uI M 605 2 (0 : Int32))) → ((vp_in x1 8) ∧ sp_X13_put [.ref 605, .int (((256 : Int32) + ((64 : Int32) * x1)) + x2), .int (gI M 628 (x1).toNatClampNeg), .long x3] (uI M 605 2 (0 : Int32)) (fun v M' => RX13_poke_16_13 G K [some (.ref 605), some (.int x1), some (.int x2), some (.long x3), none] (v.toList ++ []) M'))) ∧ (¬ (P_X13_isElement x1 x2 (uI M 605 2 (0 : Int32))) → K (some (.int (0 : Int32))) (uI M 605 2 (0 : Int32))))) : sp_X13_poke [.ref 605, .int x1, .int x2, .long x3] M K := by
  refine ⟨Nat.le_of_ble_eq_true rfl, fun G hc => ?_⟩
  rw [hW.1] at hc
  exact eX13_poke hc hW  (h hc)
set_option maxRecDepth 100000 in
theorem eX13_peek {G : Nat → KT} {K : RT} (hc : cloX13_peek G K wT) {x1 : Int32} {x2 : Int32} {M : Mem} (hW : Wf M) (h : (q_X13_isElement x1 x2 M) ∧ ((¬ (P_X13_isElement x1 x2 M) → K (some (.long (0 : Int64))) (uI M 605 2 (1 : Int32))) ∧ ((P_X13_isElement x1 x2 M) → ((q_X13_watchSum x1 x2 (uI M 605 2 (0 : Int32))) ∧ K (some (.long (f_X13_watchSum x1 x2 (uI M 605 2 (0 : Int32))))) (uI M 605 2 (0 : Int32)))))) : G 0 [some (.ref 605), some (.int x1), some (.int x2)] [] M :=
  (hc.1 _ _ _ (i_aload rfl (i_aload rfl (i_iload rfl (i_iload rfl (i_callV3 (Nat.le_of_ble_eq_true rfl) (okS hW Sk_605) (c_X13_isElement hW  h.1 (i_rI (i_bI_eq (fun q2219 => (hc.2.2.1 _ _ _ (i_ic (hc.2.2.2.1 _ _ _ (i_putI (okS hW Sk_605) (i_aload rfl (i_getIE (okS hW Sk_605) rI_eq (i_if_le (fun q => absurd q (by decide)) (fun _ => (hc.2.2.2.2.1 _ _ _ (i_lc (hc.2.2.2.2.2.2 _ _ _ (i_lret hW.1 (h.2.1 q2219)))))))))))))) (fun q2219 => (hc.2.1 _ _ _ (i_ic (hc.2.2.2.1 _ _ _ (i_putI (okS hW Sk_605) (i_aload rfl (i_getIE (okS hW Sk_605) rI_eq (i_if_le (fun _ => (hc.2.2.2.2.2.1 _ _ _ (i_aload rfl (i_iload rfl (i_iload rfl (i_callV3 (Nat.le_of_ble_eq_true rfl) (okS hW Sk_605) (c_X13_watchSum hW  (h.2.2 q2219).1 (i_rJ (hc.2.2.2.2.2.2 _ _ _ (i_lret hW.1 (h.2.2 q2219).2)))))))))) (fun q => absurd q (by decide)))))))))))))))))))
theorem wX13_peek {x1 : Int32} {x2 : Int32} {M : Mem} {K : RT} (hW : Wf M) (h : (q_X13_isElement x1 x2 M) ∧ ((¬ (P_X13_isElement x1 x2 M) → K (some (.long (0 : Int64))) (uI M 605 2 (1 : Int32))) ∧ ((P_X13_isElement x1 x2 M) → ((q_X13_watchSum x1 x2 (uI M 605 2 (0 : Int32))) ∧ K (some (.long (f_X13_watchSum x1 x2 (uI M 605 2 (0 : Int32))))) (uI M 605 2 (0 : Int32)))))) : sp_X13_peek [.ref 605, .int x1, .int x2] M K := by
  refine ⟨Nat.le_of_ble_eq_true rfl, fun G hc => ?_⟩
  rw [hW.1] at hc
  exact eX13_peek hc hW  h
noncomputable def f_X13_peek (x1 : Int32) (x2 : Int32) (M : Mem) : Int64 := (iT ((P_X13_isElement x1 x2 M)) (f_X13_watchSum x1 x2 (uI M 605 2 (0 : Int32))) (0 : Int64))
noncomputable def m_X13_peek (x1 : Int32) (x2 : Int32) (M : Mem) : Mem := (iT ((P_X13_isElement x1 x2 M)) (uI M 605 2 (0 : Int32)) (uI M 605 2 (1 : Int32)))
def q_X13_peek (x1 : Int32) (x2 : Int32) (M : Mem) : Prop := ((q_X13_isElement x1 x2 M) ∧ ((P_X13_isElement x1 x2 M) → (q_X13_watchSum x1 x2 (uI M 605 2 (0 : Int32)))))
theorem c_X13_peek {x1 : Int32} {x2 : Int32} {M : Mem} {K : RT} (hW : Wf M) (hp : q_X13_peek x1 x2 M) (h : K (some (.long (f_X13_peek x1 x2 M))) (m_X13_peek x1 x2 M)) : sp_X13_peek [.ref 605, .int x1, .int x2] M K := by
  refine wX13_peek hW  ?_
  unfold f_X13_peek m_X13_peek at h
  unfold q_X13_peek at hp
  refine ⟨hp.1, ?_⟩
  refine ⟨fun q0 => ?_, fun q0 => ?_⟩
  · skip
    try simp only [iT_f q0] at h
    first | exact h | contradiction
  · have hq0 := hp.2 q0
    try simp only [iT_t q0] at h
    refine ⟨hq0, ?_⟩
    first | exact h | contradiction
theorem Wf_m_X13_peek (x1 : Int32) (x2 : Int32) {M : Mem} (hW : Wf M) : Wf (m_X13_peek x1 x2 M) := by
  unfold m_X13_peek
  try unfold iT
  split
  · skip
    exact hW
  · skip
    exact hW
set_option maxRecDepth 100000 in
theorem eX13_array {G : Nat → KT} {K : RT} (hc : cloX13_array G K wT) {x1 : Int32} {x2 : Int32} {M : Mem} (hW : Wf M) (h : (¬ (P_X13_in (x1.toInt64) (0 : Int64) (7 : Int64)) → K (some (.int (-2 : Int32))) (uI M 605 2 (0 : Int32))) ∧ ((P_X13_in (x1.toInt64) (0 : Int64) (7 : Int64)) → (((P_X13_in (x2.toInt64) (0 : Int64) (1 : Int64)) → ((¬ x2 = 0 → ((vp_in x1 8) ∧ K (some (.int (gI M 629 (x1).toNatClampNeg))) (uI M 605 2 (0 : Int32)))) ∧ (x2 = 0 → ((vp_in x1 8) ∧ K (some (.int (gI M 628 (x1).toNatClampNeg))) (uI M 605 2 (0 : Int32)))))) ∧ (¬ (P_X13_in (x2.toInt64) (0 : Int64) (1 : Int64)) → K (some (.int (-2 : Int32))) (uI M 605 2 (0 : Int32)))))) : G 0 [some (.ref 605), some (.int x1), some (.int x2)] [] M :=
  (hc.1 _ _ _ (i_aload rfl (i_ic (i_putI (okS hW Sk_605) (i_iload rfl (i_i2l (i_lc (i_lc (i_callS3 (Nat.le_of_ble_eq_true rfl) (c_X13_in hW  (i_rI (i_bI_eq (fun q2220 => (hc.2.2.1 _ _ _ (i_ic (hc.2.2.2.2.2.2 _ _ _ (i_iret hW.1 (h.1 q2220)))))) (fun q2220 => (hc.2.1 _ _ _ (i_iload rfl (i_i2l (i_lc (i_lc (i_callS3 (Nat.le_of_ble_eq_true rfl) (c_X13_in hW  (i_rI (i_bI_ne (fun q2221 => (hc.2.2.2.1 _ _ _ (i_iload rfl (i_if_ne (fun q2222 => (hc.2.2.2.2.2.1 _ _ _ (i_aload rfl (i_getR (okS hW Sk_605) (nv_605_39 hW) (i_iload rfl (i_ialdE hW Ss_629 (rI_a (by decide)) (((h.2 q2220).1 q2221).1 q2222).1 (hc.2.2.2.2.2.2 _ _ _ (i_iret hW.1 (((h.2 q2220).1 q2221).1 q2222).2)))))))) (fun q2222 => (hc.2.2.2.2.1 _ _ _ (i_aload rfl (i_getR (okS hW Sk_605) (nv_605_38 hW) (i_iload rfl (i_ialdE hW Ss_628 (rI_a (by decide)) (((h.2 q2220).1 q2221).2 q2222).1 (hc.2.2.2.2.2.2 _ _ _ (i_iret hW.1 (((h.2 q2220).1 q2221).2 q2222).2)))))))))))) (fun q2221 => (hc.2.2.1 _ _ _ (i_ic (hc.2.2.2.2.2.2 _ _ _ (i_iret hW.1 ((h.2 q2220).2 q2221))))))))))))))))))))))))))))
theorem wX13_array {x1 : Int32} {x2 : Int32} {M : Mem} {K : RT} (hW : Wf M) (h : (¬ (P_X13_in (x1.toInt64) (0 : Int64) (7 : Int64)) → K (some (.int (-2 : Int32))) (uI M 605 2 (0 : Int32))) ∧ ((P_X13_in (x1.toInt64) (0 : Int64) (7 : Int64)) → (((P_X13_in (x2.toInt64) (0 : Int64) (1 : Int64)) → ((¬ x2 = 0 → ((vp_in x1 8) ∧ K (some (.int (gI M 629 (x1).toNatClampNeg))) (uI M 605 2 (0 : Int32)))) ∧ (x2 = 0 → ((vp_in x1 8) ∧ K (some (.int (gI M 628 (x1).toNatClampNeg))) (uI M 605 2 (0 : Int32)))))) ∧ (¬ (P_X13_in (x2.toInt64) (0 : Int64) (1 : Int64)) → K (some (.int (-2 : Int32))) (uI M 605 2 (0 : Int32)))))) : sp_X13_array [.ref 605, .int x1, .int x2] M K := by
  refine ⟨Nat.le_of_ble_eq_true rfl, fun G hc => ?_⟩
  rw [hW.1] at hc
  exact eX13_array hc hW  h
noncomputable def f_X13_array (x1 : Int32) (x2 : Int32) (M : Mem) : Int32 := (iT ((P_X13_in (x1.toInt64) (0 : Int64) (7 : Int64))) (iT ((P_X13_in (x2.toInt64) (0 : Int64) (1 : Int64))) (if x2 = 0 then (gI M 628 (x1).toNatClampNeg) else (gI M 629 (x1).toNatClampNeg)) (-2 : Int32)) (-2 : Int32))
noncomputable def m_X13_array (x1 : Int32) (x2 : Int32) (M : Mem) : Mem := (uI M 605 2 (0 : Int32))
def q_X13_array (x1 : Int32) (x2 : Int32) (M : Mem) : Prop := ((P_X13_in (x1.toInt64) (0 : Int64) (7 : Int64)) → ((P_X13_in (x2.toInt64) (0 : Int64) (1 : Int64)) → ((¬ x2 = 0 → (vp_in x1 8)) ∧ (x2 = 0 → (vp_in x1 8)))))
theorem c_X13_array {x1 : Int32} {x2 : Int32} {M : Mem} {K : RT} (hW : Wf M) (hp : q_X13_array x1 x2 M) (h : K (some (.int (f_X13_array x1 x2 M))) (m_X13_array x1 x2 M)) : sp_X13_array [.ref 605, .int x1, .int x2] M K := by
  refine wX13_array hW  ?_
  unfold f_X13_array m_X13_array at h
  unfold q_X13_array at hp
  refine ⟨fun q0 => ?_, fun q0 => ?_⟩
  · skip
    try simp only [iT_f q0] at h
    first | exact h | contradiction
  · have hq0 := hp q0
    try simp only [iT_t q0] at h
    refine ⟨fun q1 => ?_, fun q1 => ?_⟩
    · have hq1 := hq0 q1
      try simp only [iT_t q1] at h
      refine ⟨fun q2 => ?_, fun q2 => ?_⟩
      · have hq2 := hq1.1 q2
        try simp only [if_neg q2] at h
        refine ⟨hq2, ?_⟩
        first | exact h | contradiction
      · have hq2 := hq1.2 q2
        try simp only [if_pos q2] at h
        refine ⟨hq2, ?_⟩
        first | exact h | contradiction
    · skip
      try simp only [iT_f q1] at h
      first | exact h | contradiction
theorem Wf_m_X13_array (x1 : Int32) (x2 : Int32) {M : Mem} (hW : Wf M) : Wf (m_X13_array x1 x2 M) := by
  unfold m_X13_array
  exact hW
set_option maxRecDepth 100000 in
theorem eX13_scalar {G : Nat → KT} {K : RT} (hc : cloX13_scalar G K wT) {x1 : Int32} {x2 : Int64} {M : Mem} (hW : Wf M) (h : ((P_X13_in (x1.toInt64) (0 : Int64) (7 : Int64)) → ((vp_in x1 8) ∧ K (some (.int (1 : Int32))) (uI (uL (uI M 605 2 (0 : Int32)) 631 (x1).toNatClampNeg x2) 605 59 (0 : Int32)))) ∧ (¬ (P_X13_in (x1.toInt64) (0 : Int64) (7 : Int64)) → K (some (.int (0 : Int32))) (uI M 605 2 (0 : Int32)))) : G 0 [some (.ref 605), some (.int x1), some (.long x2), none] [] M :=
  (hc.1 _ _ _ (i_aload rfl (i_ic (i_putI (okS hW Sk_605) (i_iload rfl (i_i2l (i_lc (i_lc (i_callS3 (Nat.le_of_ble_eq_true rfl) (c_X13_in hW  (i_rI (i_bI_ne (fun q2223 => (hc.2.2 _ _ _ (i_aload rfl (i_getR (okS hW Sk_605) (nv_605_41 hW) (i_iload rfl (i_lload rfl (i_last hW Ss_631 (h.1 q2223).1 (i_aload rfl (i_ic (i_putI (okS hW Sk_605) (i_ic (i_zret (by decide) hW.1 (h.1 q2223).2)))))))))))) (fun q2223 => (hc.2.1 _ _ _ (i_ic (i_zret (by decide) hW.1 (h.2 q2223)))))))))))))))))
theorem wX13_scalar {x1 : Int32} {x2 : Int64} {M : Mem} {K : RT} (hW : Wf M) (h : ((P_X13_in (x1.toInt64) (0 : Int64) (7 : Int64)) → ((vp_in x1 8) ∧ K (some (.int (1 : Int32))) (uI (uL (uI M 605 2 (0 : Int32)) 631 (x1).toNatClampNeg x2) 605 59 (0 : Int32)))) ∧ (¬ (P_X13_in (x1.toInt64) (0 : Int64) (7 : Int64)) → K (some (.int (0 : Int32))) (uI M 605 2 (0 : Int32)))) : sp_X13_scalar [.ref 605, .int x1, .long x2] M K := by
  refine ⟨Nat.le_of_ble_eq_true rfl, fun G hc => ?_⟩
  rw [hW.1] at hc
  exact eX13_scalar hc hW  h
def P_X13_scalar (x1 : Int32) (x2 : Int64) : Prop := ((P_X13_in (x1.toInt64) (0 : Int64) (7 : Int64)))
noncomputable def m_X13_scalar (x1 : Int32) (x2 : Int64) (M : Mem) : Mem := (iT ((P_X13_in (x1.toInt64) (0 : Int64) (7 : Int64))) (uI (uL (uI M 605 2 (0 : Int32)) 631 (x1).toNatClampNeg x2) 605 59 (0 : Int32)) (uI M 605 2 (0 : Int32)))
def q_X13_scalar (x1 : Int32) (x2 : Int64) : Prop := ((P_X13_in (x1.toInt64) (0 : Int64) (7 : Int64)) → (vp_in x1 8))
theorem c_X13_scalar {x1 : Int32} {x2 : Int64} {M : Mem} {K : RT} (hW : Wf M) (hp : q_X13_scalar x1 x2) (h : K (some (.int (pI (P_X13_scalar x1 x2)))) (m_X13_scalar x1 x2 M)) : sp_X13_scalar [.ref 605, .int x1, .long x2] M K := by
  refine wX13_scalar hW  ?_
  unfold P_X13_scalar at h
  unfold q_X13_scalar at hp
  unfold m_X13_scalar at h
  refine ⟨fun q0 => ?_, fun q0 => ?_⟩
  · have hq0 := hp q0
    try simp only [iT_t q0] at h
    refine ⟨hq0, ?_⟩
    exact pI_goT h (by simp only [eq_true q0, not_true_eq_false, not_false_eq_true, true_and, false_and, and_true, and_false, true_or, or_true, false_or, or_false, iff_self])
  · skip
    try simp only [iT_f q0] at h
    exact pI_goF h (by simp only [eq_false q0, not_true_eq_false, not_false_eq_true, true_and, false_and, and_true, and_false, true_or, or_true, false_or, or_false, iff_self])
theorem Wf_m_X13_scalar (x1 : Int32) (x2 : Int64) {M : Mem} (hW : Wf M) : Wf (m_X13_scalar x1 x2 M) := by
  unfold m_X13_scalar
  try unfold iT
  split
  · skip
    exact hW
  · skip
    exact hW
set_option maxRecDepth 100000 in
theorem eX13_scalarOf {G : Nat → KT} {K : RT} (hc : cloX13_scalarOf G K wT) {x1 : Int32} {M : Mem} (hW : Wf M) (h : (¬ (P_X13_in (x1.toInt64) (0 : Int64) (7 : Int64)) → K (some (.long (0 : Int64))) (uI M 605 2 (1 : Int32))) ∧ ((P_X13_in (x1.toInt64) (0 : Int64) (7 : Int64)) → ((vp_in x1 8) ∧ K (some (.long (gL M 631 (x1).toNatClampNeg))) (uI M 605 2 (0 : Int32))))) : G 0 [some (.ref 605), some (.int x1)] [] M :=
  (hc.1 _ _ _ (i_aload rfl (i_iload rfl (i_i2l (i_lc (i_lc (i_callS3 (Nat.le_of_ble_eq_true rfl) (c_X13_in hW  (i_rI (i_bI_eq (fun q2224 => (hc.2.2.1 _ _ _ (i_ic (hc.2.2.2.1 _ _ _ (i_putI (okS hW Sk_605) (i_aload rfl (i_getIE (okS hW Sk_605) rI_eq (i_if_le (fun q => absurd q (by decide)) (fun _ => (hc.2.2.2.2.1 _ _ _ (i_lc (hc.2.2.2.2.2.2 _ _ _ (i_lret hW.1 (h.1 q2224)))))))))))))) (fun q2224 => (hc.2.1 _ _ _ (i_ic (hc.2.2.2.1 _ _ _ (i_putI (okS hW Sk_605) (i_aload rfl (i_getIE (okS hW Sk_605) rI_eq (i_if_le (fun _ => (hc.2.2.2.2.2.1 _ _ _ (i_aload rfl (i_getR (okS hW Sk_605) (nv_605_41 hW) (i_iload rfl (i_laldE hW Ss_631 rL_uI (h.2 q2224).1 (hc.2.2.2.2.2.2 _ _ _ (i_lret hW.1 (h.2 q2224).2)))))))) (fun q => absurd q (by decide))))))))))))))))))))
theorem wX13_scalarOf {x1 : Int32} {M : Mem} {K : RT} (hW : Wf M) (h : (¬ (P_X13_in (x1.toInt64) (0 : Int64) (7 : Int64)) → K (some (.long (0 : Int64))) (uI M 605 2 (1 : Int32))) ∧ ((P_X13_in (x1.toInt64) (0 : Int64) (7 : Int64)) → ((vp_in x1 8) ∧ K (some (.long (gL M 631 (x1).toNatClampNeg))) (uI M 605 2 (0 : Int32))))) : sp_X13_scalarOf [.ref 605, .int x1] M K := by
  refine ⟨Nat.le_of_ble_eq_true rfl, fun G hc => ?_⟩
  rw [hW.1] at hc
  exact eX13_scalarOf hc hW  h
noncomputable def f_X13_scalarOf (x1 : Int32) (M : Mem) : Int64 := (iT ((P_X13_in (x1.toInt64) (0 : Int64) (7 : Int64))) (gL M 631 (x1).toNatClampNeg) (0 : Int64))
noncomputable def m_X13_scalarOf (x1 : Int32) (M : Mem) : Mem := (iT ((P_X13_in (x1.toInt64) (0 : Int64) (7 : Int64))) (uI M 605 2 (0 : Int32)) (uI M 605 2 (1 : Int32)))
def q_X13_scalarOf (x1 : Int32) (M : Mem) : Prop := ((P_X13_in (x1.toInt64) (0 : Int64) (7 : Int64)) → (vp_in x1 8))
theorem c_X13_scalarOf {x1 : Int32} {M : Mem} {K : RT} (hW : Wf M) (hp : q_X13_scalarOf x1 M) (h : K (some (.long (f_X13_scalarOf x1 M))) (m_X13_scalarOf x1 M)) : sp_X13_scalarOf [.ref 605, .int x1] M K := by
  refine wX13_scalarOf hW  ?_
  unfold f_X13_scalarOf m_X13_scalarOf at h
  unfold q_X13_scalarOf at hp
  refine ⟨fun q0 => ?_, fun q0 => ?_⟩
  · skip
    try simp only [iT_f q0] at h
    first | exact h | contradiction
  · have hq0 := hp q0
    try simp only [iT_t q0] at h
    refine ⟨hq0, ?_⟩
    first | exact h | contradiction
theorem Wf_m_X13_scalarOf (x1 : Int32) {M : Mem} (hW : Wf M) : Wf (m_X13_scalarOf x1 M) := by
  unfold m_X13_scalarOf
  try unfold iT
  split
  · skip
    exact hW
  · skip
    exact hW
set_option maxRecDepth 100000 in
theorem eX13_register {G : Nat → KT} {K : RT} (hc : cloX13_register G K wT) {x1 : Int32} {x2 : Int32} {M : Mem} (hW : Wf M) (h : (¬ (P_X13_in (x1.toInt64) (0 : Int64) (7 : Int64)) → K (some (.int (-2 : Int32))) (uI M 605 2 (0 : Int32))) ∧ ((P_X13_in (x1.toInt64) (0 : Int64) (7 : Int64)) → (((P_X13_in (x2.toInt64) (0 : Int64) (1 : Int64)) → ((¬ x2 = 0 → ((vp_in x1 8) ∧ K (some (.int (gI M 625 (x1).toNatClampNeg))) (uI M 605 2 (0 : Int32)))) ∧ (x2 = 0 → ((vp_in x1 8) ∧ K (some (.int (gI M 624 (x1).toNatClampNeg))) (uI M 605 2 (0 : Int32)))))) ∧ (¬ (P_X13_in (x2.toInt64) (0 : Int64) (1 : Int64)) → K (some (.int (-2 : Int32))) (uI M 605 2 (0 : Int32)))))) : G 0 [some (.ref 605), some (.int x1), some (.int x2)] [] M :=
  (hc.1 _ _ _ (i_aload rfl (i_ic (i_putI (okS hW Sk_605) (i_iload rfl (i_i2l (i_lc (i_lc (i_callS3 (Nat.le_of_ble_eq_true rfl) (c_X13_in hW  (i_rI (i_bI_eq (fun q2225 => (hc.2.2.1 _ _ _ (i_ic (hc.2.2.2.2.2.2 _ _ _ (i_iret hW.1 (h.1 q2225)))))) (fun q2225 => (hc.2.1 _ _ _ (i_iload rfl (i_i2l (i_lc (i_lc (i_callS3 (Nat.le_of_ble_eq_true rfl) (c_X13_in hW  (i_rI (i_bI_ne (fun q2226 => (hc.2.2.2.1 _ _ _ (i_iload rfl (i_if_ne (fun q2227 => (hc.2.2.2.2.2.1 _ _ _ (i_aload rfl (i_getR (okS hW Sk_605) (nv_605_35 hW) (i_iload rfl (i_ialdE hW Ss_625 (rI_a (by decide)) (((h.2 q2225).1 q2226).1 q2227).1 (hc.2.2.2.2.2.2 _ _ _ (i_iret hW.1 (((h.2 q2225).1 q2226).1 q2227).2)))))))) (fun q2227 => (hc.2.2.2.2.1 _ _ _ (i_aload rfl (i_getR (okS hW Sk_605) (nv_605_34 hW) (i_iload rfl (i_ialdE hW Ss_624 (rI_a (by decide)) (((h.2 q2225).1 q2226).2 q2227).1 (hc.2.2.2.2.2.2 _ _ _ (i_iret hW.1 (((h.2 q2225).1 q2226).2 q2227).2)))))))))))) (fun q2226 => (hc.2.2.1 _ _ _ (i_ic (hc.2.2.2.2.2.2 _ _ _ (i_iret hW.1 ((h.2 q2225).2 q2226))))))))))))))))))))))))))))
theorem wX13_register {x1 : Int32} {x2 : Int32} {M : Mem} {K : RT} (hW : Wf M) (h : (¬ (P_X13_in (x1.toInt64) (0 : Int64) (7 : Int64)) → K (some (.int (-2 : Int32))) (uI M 605 2 (0 : Int32))) ∧ ((P_X13_in (x1.toInt64) (0 : Int64) (7 : Int64)) → (((P_X13_in (x2.toInt64) (0 : Int64) (1 : Int64)) → ((¬ x2 = 0 → ((vp_in x1 8) ∧ K (some (.int (gI M 625 (x1).toNatClampNeg))) (uI M 605 2 (0 : Int32)))) ∧ (x2 = 0 → ((vp_in x1 8) ∧ K (some (.int (gI M 624 (x1).toNatClampNeg))) (uI M 605 2 (0 : Int32)))))) ∧ (¬ (P_X13_in (x2.toInt64) (0 : Int64) (1 : Int64)) → K (some (.int (-2 : Int32))) (uI M 605 2 (0 : Int32)))))) : sp_X13_register [.ref 605, .int x1, .int x2] M K := by
  refine ⟨Nat.le_of_ble_eq_true rfl, fun G hc => ?_⟩
  rw [hW.1] at hc
  exact eX13_register hc hW  h
noncomputable def f_X13_register (x1 : Int32) (x2 : Int32) (M : Mem) : Int32 := (iT ((P_X13_in (x1.toInt64) (0 : Int64) (7 : Int64))) (iT ((P_X13_in (x2.toInt64) (0 : Int64) (1 : Int64))) (if x2 = 0 then (gI M 624 (x1).toNatClampNeg) else (gI M 625 (x1).toNatClampNeg)) (-2 : Int32)) (-2 : Int32))
noncomputable def m_X13_register (x1 : Int32) (x2 : Int32) (M : Mem) : Mem := (uI M 605 2 (0 : Int32))
def q_X13_register (x1 : Int32) (x2 : Int32) (M : Mem) : Prop := ((P_X13_in (x1.toInt64) (0 : Int64) (7 : Int64)) → ((P_X13_in (x2.toInt64) (0 : Int64) (1 : Int64)) → ((¬ x2 = 0 → (vp_in x1 8)) ∧ (x2 = 0 → (vp_in x1 8)))))
theorem c_X13_register {x1 : Int32} {x2 : Int32} {M : Mem} {K : RT} (hW : Wf M) (hp : q_X13_register x1 x2 M) (h : K (some (.int (f_X13_register x1 x2 M))) (m_X13_register x1 x2 M)) : sp_X13_register [.ref 605, .int x1, .int x2] M K := by
  refine wX13_register hW  ?_
  unfold f_X13_register m_X13_register at h
  unfold q_X13_register at hp
  refine ⟨fun q0 => ?_, fun q0 => ?_⟩
  · skip
    try simp only [iT_f q0] at h
    first | exact h | contradiction
  · have hq0 := hp q0
    try simp only [iT_t q0] at h
    refine ⟨fun q1 => ?_, fun q1 => ?_⟩
    · have hq1 := hq0 q1
      try simp only [iT_t q1] at h
      refine ⟨fun q2 => ?_, fun q2 => ?_⟩
      · have hq2 := hq1.1 q2
        try simp only [if_neg q2] at h
        refine ⟨hq2, ?_⟩
        first | exact h | contradiction
      · have hq2 := hq1.2 q2
        try simp only [if_pos q2] at h
        refine ⟨hq2, ?_⟩
        first | exact h | contradiction
    · skip
      try simp only [iT_f q1] at h
      first | exact h | contradiction
theorem Wf_m_X13_register (x1 : Int32) (x2 : Int32) {M : Mem} (hW : Wf M) : Wf (m_X13_register x1 x2 M) := by
  unfold m_X13_register
  exact hW
set_option maxRecDepth 100000 in
theorem eX13_lane_ {G : Nat → KT} {K : RT} (hc : cloX13_lane_ G K wT) {x1 : Int32} {x2 : Int32} {M : Mem} (hW : Wf M) (h : (¬ (P_X13_in (x1.toInt64) (0 : Int64) (7 : Int64)) → G 36 [some (.ref 605), some (.int x1), some (.int x2)] [.int (1 : Int32), .ref 605] M) ∧ ((P_X13_in (x1.toInt64) (0 : Int64) (7 : Int64)) → ((vp_in x1 8) ∧ ((¬ (P_X13_in (x2.toInt64) (0 : Int64) (((gI M 625 (x1).toNatClampNeg).toInt64) - (1 : Int64))) → G 36 [some (.ref 605), some (.int x1), some (.int x2)] [.int (1 : Int32), .ref 605] M) ∧ ((P_X13_in (x2.toInt64) (0 : Int64) (((gI M 625 (x1).toNatClampNeg).toInt64) - (1 : Int64))) → G 36 [some (.ref 605), some (.int x1), some (.int x2)] [.int (0 : Int32), .ref 605] M))))) : G 0 [some (.ref 605), some (.int x1), some (.int x2)] [] M :=
  (hc.1 _ _ _ (i_aload rfl (i_iload rfl (i_i2l (i_lc (i_lc (i_callS3 (Nat.le_of_ble_eq_true rfl) (c_X13_in hW  (i_rI (i_bI_eq (fun q2231 => (hc.2.2.2.1 _ _ _ (i_ic (h.1 q2231)))) (fun q2231 => (hc.2.1 _ _ _ (i_iload rfl (i_i2l (i_lc (i_aload rfl (i_getR (okS hW Sk_605) (nv_605_35 hW) (i_iload rfl (i_iald hW Ss_625 (h.2 q2231).1 (i_i2l (i_lc (i_lsub (i_callS3 (Nat.le_of_ble_eq_true rfl) (c_X13_in hW  (i_rI (i_bI_eq (fun q2232 => (hc.2.2.2.1 _ _ _ (i_ic ((h.2 q2231).2.1 q2232)))) (fun q2232 => (hc.2.2.1 _ _ _ (i_ic ((h.2 q2231).2.2 q2232))))))))))))))))))))))))))))))
set_option maxRecDepth 100000 in
theorem eX13_lane__36 {G : Nat → KT} {K : RT} (hc : cloX13_lane_ G K wT) {x1 : Int32} {x2 : Int32} {s1 : Int32} {M : Mem} (hW : Wf M) (h : (s1 ≤ 0 → ((vp_in x1 8) ∧ ((vp_in (((32 : Int32) * x1) + x2) 768) ∧ ((vp_in (((32 : Int32) * x1) + x2) 768) ∧ ((q_X13_bits (gI M 624 (x1).toNatClampNeg) (gL M 626 (((32 : Int32) * x1) + x2).toNatClampNeg) (gD M 627 (((32 : Int32) * x1) + x2).toNatClampNeg)) ∧ K (some (.long (f_X13_bits (gI M 624 (x1).toNatClampNeg) (gL M 626 (((32 : Int32) * x1) + x2).toNatClampNeg) (gD M 627 (((32 : Int32) * x1) + x2).toNatClampNeg)))) (uI M 605 2 s1)))))) ∧ (¬ s1 ≤ 0 → K (some (.long (0 : Int64))) (uI M 605 2 s1))) : G 36 [some (.ref 605), some (.int x1), some (.int x2)] [.int s1, .ref 605] M :=
  (hc.2.2.2.2.1 _ _ _ (i_putI (okS hW Sk_605) (i_aload rfl (i_getIE (okS hW Sk_605) rI_eq (i_if_le (fun q2233 => (hc.2.2.2.2.2.2.1 _ _ _ (i_aload rfl (i_getR (okS hW Sk_605) (nv_605_34 hW) (i_iload rfl (i_ialdE hW Ss_624 (rI_a (by decide)) (h.1 q2233).1 (i_aload rfl (i_getR (okS hW Sk_605) (nv_605_36 hW) (i_ic (i_iload rfl (i_imul (i_iload rfl (i_iadd (i_laldE hW Ss_626 rL_uI (h.1 q2233).2.1 (i_aload rfl (i_getR (okS hW Sk_605) (nv_605_37 hW) (i_ic (i_iload rfl (i_imul (i_iload rfl (i_iadd (i_daldE hW Ss_627 rD_uI (h.1 q2233).2.2.1 (i_callS3 (Nat.le_of_ble_eq_true rfl) (c_X13_bits hW  (h.1 q2233).2.2.2.1 (i_rJ (hc.2.2.2.2.2.2.2 _ _ _ (i_lret hW.1 (h.1 q2233).2.2.2.2))))))))))))))))))))))))))) (fun q2233 => (hc.2.2.2.2.2.1 _ _ _ (i_lc (hc.2.2.2.2.2.2.2 _ _ _ (i_lret hW.1 (h.2 q2233)))))))))))
theorem wX13_lane_ {x1 : Int32} {x2 : Int32} {M : Mem} {K : RT} (hW : Wf M) (h : ∀ {G : Nat → KT}, cloX13_lane_ G K wT → (¬ (P_X13_in (x1.toInt64) (0 : Int64) (7 : Int64)) → G 36 [some (.ref 605), some (.int x1), some (.int x2)] [.int (1 : Int32), .ref 605] M) ∧ ((P_X13_in (x1.toInt64) (0 : Int64) (7 : Int64)) → ((vp_in x1 8) ∧ ((¬ (P_X13_in (x2.toInt64) (0 : Int64) (((gI M 625 (x1).toNatClampNeg).toInt64) - (1 : Int64))) → G 36 [some (.ref 605), some (.int x1), some (.int x2)] [.int (1 : Int32), .ref 605] M) ∧ ((P_X13_in (x2.toInt64) (0 : Int64) (((gI M 625 (x1).toNatClampNeg).toInt64) - (1 : Int64))) → G 36 [some (.ref 605), some (.int x1), some (.int x2)] [.int (0 : Int32), .ref 605] M))))) : sp_X13_lane_ [.ref 605, .int x1, .int x2] M K := by
  refine ⟨Nat.le_of_ble_eq_true rfl, fun G hc => ?_⟩
  rw [hW.1] at hc
  exact eX13_lane_ hc hW  (h hc)
set_option maxRecDepth 100000 in
theorem eX13_mask {G : Nat → KT} {K : RT} (hc : cloX13_mask G K wT) {x1 : Int32} {M : Mem} (hW : Wf M) (h : (¬ (P_X13_in (x1.toInt64) (0 : Int64) (3 : Int64)) → K (some (.int (0 : Int32))) (uI M 605 2 (0 : Int32))) ∧ ((P_X13_in (x1.toInt64) (0 : Int64) (3 : Int64)) → ((vp_in x1 4) ∧ K (some (.int (gI M 630 (x1).toNatClampNeg))) (uI M 605 2 (0 : Int32))))) : G 0 [some (.ref 605), some (.int x1)] [] M :=
  (hc.1 _ _ _ (i_aload rfl (i_ic (i_putI (okS hW Sk_605) (i_iload rfl (i_i2l (i_lc (i_lc (i_callS3 (Nat.le_of_ble_eq_true rfl) (c_X13_in hW  (i_rI (i_bI_eq (fun q2234 => (hc.2.2.1 _ _ _ (i_ic (hc.2.2.2 _ _ _ (i_iret hW.1 (h.1 q2234)))))) (fun q2234 => (hc.2.1 _ _ _ (i_aload rfl (i_getR (okS hW Sk_605) (nv_605_40 hW) (i_iload rfl (i_ialdE hW Ss_630 (rI_a (by decide)) (h.2 q2234).1 (hc.2.2.2 _ _ _ (i_iret hW.1 (h.2 q2234).2))))))))))))))))))))
theorem wX13_mask {x1 : Int32} {M : Mem} {K : RT} (hW : Wf M) (h : (¬ (P_X13_in (x1.toInt64) (0 : Int64) (3 : Int64)) → K (some (.int (0 : Int32))) (uI M 605 2 (0 : Int32))) ∧ ((P_X13_in (x1.toInt64) (0 : Int64) (3 : Int64)) → ((vp_in x1 4) ∧ K (some (.int (gI M 630 (x1).toNatClampNeg))) (uI M 605 2 (0 : Int32))))) : sp_X13_mask [.ref 605, .int x1] M K := by
  refine ⟨Nat.le_of_ble_eq_true rfl, fun G hc => ?_⟩
  rw [hW.1] at hc
  exact eX13_mask hc hW  h
noncomputable def f_X13_mask (x1 : Int32) (M : Mem) : Int32 := (iT ((P_X13_in (x1.toInt64) (0 : Int64) (3 : Int64))) (gI M 630 (x1).toNatClampNeg) (0 : Int32))
noncomputable def m_X13_mask (x1 : Int32) (M : Mem) : Mem := (uI M 605 2 (0 : Int32))
def q_X13_mask (x1 : Int32) (M : Mem) : Prop := ((P_X13_in (x1.toInt64) (0 : Int64) (3 : Int64)) → (vp_in x1 4))
theorem c_X13_mask {x1 : Int32} {M : Mem} {K : RT} (hW : Wf M) (hp : q_X13_mask x1 M) (h : K (some (.int (f_X13_mask x1 M))) (m_X13_mask x1 M)) : sp_X13_mask [.ref 605, .int x1] M K := by
  refine wX13_mask hW  ?_
  unfold f_X13_mask m_X13_mask at h
  unfold q_X13_mask at hp
  refine ⟨fun q0 => ?_, fun q0 => ?_⟩
  · skip
    try simp only [iT_f q0] at h
    first | exact h | contradiction
  · have hq0 := hp q0
    try simp only [iT_t q0] at h
    refine ⟨hq0, ?_⟩
    first | exact h | contradiction
theorem Wf_m_X13_mask (x1 : Int32) {M : Mem} (hW : Wf M) : Wf (m_X13_mask x1 M) := by
  unfold m_X13_mask
  exact hW
set_option maxRecDepth 100000 in
theorem eX13_stop {G : Nat → KT} {K : RT} (hc : cloX13_stop G K wT) {x1 : Int32} {x2 : Int32} {M : Mem} (hW : Wf M) (h : (¬ (P_X13_in (x1.toInt64) (0 : Int64) (((gI M 605 23) - (1 : Int32)).toInt64)) → K (some (.int (0 : Int32))) (uI M 605 2 (0 : Int32))) ∧ ((P_X13_in (x1.toInt64) (0 : Int64) (((gI M 605 23) - (1 : Int32)).toInt64)) → ((vp_in x1 100) ∧ ((¬ (gI M 633 (x1).toNatClampNeg) = x2 → ((vp_in x1 100) ∧ K (some (.int (1 : Int32))) (uI (uI M 605 2 (0 : Int32)) 633 (x1).toNatClampNeg (vp_nar .boolean x2)))) ∧ ((gI M 633 (x1).toNatClampNeg) = x2 → K (some (.int (0 : Int32))) (uI M 605 2 (0 : Int32))))))) : G 0 [some (.ref 605), some (.int x1), some (.int x2)] [] M :=
  (hc.1 _ _ _ (i_aload rfl (i_ic (i_putI (okS hW Sk_605) (i_iload rfl (i_i2l (i_lc (i_aload rfl (i_getIE (okS hW Sk_605) (rI_k (by decide)) (i_ic (i_isub (i_i2l (i_callS3 (Nat.le_of_ble_eq_true rfl) (c_X13_in hW  (i_rI (i_bI_eq (fun q2235 => (hc.2.2.1 _ _ _ (i_ic (i_zret (by decide) hW.1 (h.1 q2235))))) (fun q2235 => (hc.2.1 _ _ _ (i_aload rfl (i_getR (okS hW Sk_605) (nv_605_51 hW) (i_iload rfl (i_zaldE hW Ss_633 (rI_a (by decide)) (h.2 q2235).1 (i_iload rfl (i_icmp_ne (fun q2236 => (hc.2.2.2 _ _ _ (i_aload rfl (i_getR (okS hW Sk_605) (nv_605_51 hW) (i_iload rfl (i_iload rfl (i_zast hW Ss_633 ((h.2 q2235).2.1 q2236).1 (i_ic (i_zret (by decide) hW.1 ((h.2 q2235).2.1 q2236).2))))))))) (fun q2236 => (hc.2.2.1 _ _ _ (i_ic (i_zret (by decide) hW.1 ((h.2 q2235).2.2 q2236)))))))))))))))))))))))))))))
theorem wX13_stop {x1 : Int32} {x2 : Int32} {M : Mem} {K : RT} (hW : Wf M) (h : (¬ (P_X13_in (x1.toInt64) (0 : Int64) (((gI M 605 23) - (1 : Int32)).toInt64)) → K (some (.int (0 : Int32))) (uI M 605 2 (0 : Int32))) ∧ ((P_X13_in (x1.toInt64) (0 : Int64) (((gI M 605 23) - (1 : Int32)).toInt64)) → ((vp_in x1 100) ∧ ((¬ (gI M 633 (x1).toNatClampNeg) = x2 → ((vp_in x1 100) ∧ K (some (.int (1 : Int32))) (uI (uI M 605 2 (0 : Int32)) 633 (x1).toNatClampNeg (vp_nar .boolean x2)))) ∧ ((gI M 633 (x1).toNatClampNeg) = x2 → K (some (.int (0 : Int32))) (uI M 605 2 (0 : Int32))))))) : sp_X13_stop [.ref 605, .int x1, .int x2] M K := by
  refine ⟨Nat.le_of_ble_eq_true rfl, fun G hc => ?_⟩
  rw [hW.1] at hc
  exact eX13_stop hc hW  h
def P_X13_stop (x1 : Int32) (x2 : Int32) (M : Mem) : Prop := (((P_X13_in (x1.toInt64) (0 : Int64) (((gI M 605 23) - (1 : Int32)).toInt64))) ∧ (¬ (gI M 633 (x1).toNatClampNeg) = x2))
noncomputable def m_X13_stop (x1 : Int32) (x2 : Int32) (M : Mem) : Mem := (iT ((P_X13_in (x1.toInt64) (0 : Int64) (((gI M 605 23) - (1 : Int32)).toInt64))) (if (gI M 633 (x1).toNatClampNeg) = x2 then (uI M 605 2 (0 : Int32)) else (uI (uI M 605 2 (0 : Int32)) 633 (x1).toNatClampNeg (vp_nar .boolean x2))) (uI M 605 2 (0 : Int32)))
def q_X13_stop (x1 : Int32) (x2 : Int32) (M : Mem) : Prop := ((P_X13_in (x1.toInt64) (0 : Int64) (((gI M 605 23) - (1 : Int32)).toInt64)) → ((vp_in x1 100) ∧ (¬ (gI M 633 (x1).toNatClampNeg) = x2 → (vp_in x1 100))))
theorem c_X13_stop {x1 : Int32} {x2 : Int32} {M : Mem} {K : RT} (hW : Wf M) (hp : q_X13_stop x1 x2 M) (h : K (some (.int (pI (P_X13_stop x1 x2 M)))) (m_X13_stop x1 x2 M)) : sp_X13_stop [.ref 605, .int x1, .int x2] M K := by
  refine wX13_stop hW  ?_
  unfold P_X13_stop at h
  unfold q_X13_stop at hp
  unfold m_X13_stop at h
  refine ⟨fun q0 => ?_, fun q0 => ?_⟩
  · skip
    try simp only [iT_f q0] at h
    exact pI_goF h (by simp only [eq_false q0, not_true_eq_false, not_false_eq_true, true_and, false_and, and_true, and_false, true_or, or_true, false_or, or_false, iff_self])
  · have hq0 := hp q0
    try simp only [iT_t q0] at h
    refine ⟨hq0.1, ?_⟩
    refine ⟨fun q1 => ?_, fun q1 => ?_⟩
    · have hq1 := hq0.2 q1
      try simp only [if_neg q1] at h
      refine ⟨hq1, ?_⟩
      exact pI_goT h (by simp only [eq_true q0, eq_false q1, not_true_eq_false, not_false_eq_true, true_and, false_and, and_true, and_false, true_or, or_true, false_or, or_false, iff_self])
    · skip
      try simp only [if_pos q1] at h
      exact pI_goF h (by simp only [eq_true q0, eq_true q1, not_true_eq_false, not_false_eq_true, true_and, false_and, and_true, and_false, true_or, or_true, false_or, or_false, iff_self])
theorem Wf_m_X13_stop (x1 : Int32) (x2 : Int32) {M : Mem} (hW : Wf M) : Wf (m_X13_stop x1 x2 M) := by
  unfold m_X13_stop
  try unfold iT
  split
  · skip
    split
    · skip
      exact hW
    · skip
      exact hW
  · skip
    exact hW
set_option maxRecDepth 100000 in
theorem eX13_watch {G : Nat → KT} {K : RT} (hc : cloX13_watch G K wT) {x1 : Int32} {x2 : Int32} {x3 : Int32} {M : Mem} (hW : Wf M) (h : (¬ (P_X13_in (x1.toInt64) (0 : Int64) (7 : Int64)) → K (some (.int (0 : Int32))) (uI M 605 2 (0 : Int32))) ∧ ((P_X13_in (x1.toInt64) (0 : Int64) (7 : Int64)) → ((¬ (P_X13_in (x2.toInt64) (0 : Int64) (63 : Int64)) → K (some (.int (0 : Int32))) (uI M 605 2 (0 : Int32))) ∧ ((P_X13_in (x2.toInt64) (0 : Int64) (63 : Int64)) → ((vp_in (((64 : Int32) * x1) + x2) 512) ∧ ((¬ (gI M 634 (((64 : Int32) * x1) + x2).toNatClampNeg) = x3 → ((vp_in (((64 : Int32) * x1) + x2) 512) ∧ K (some (.int (1 : Int32))) (uI (uI M 605 2 (0 : Int32)) 634 (((64 : Int32) * x1) + x2).toNatClampNeg (vp_nar .boolean x3)))) ∧ ((gI M 634 (((64 : Int32) * x1) + x2).toNatClampNeg) = x3 → K (some (.int (0 : Int32))) (uI M 605 2 (0 : Int32))))))))) : G 0 [some (.ref 605), some (.int x1), some (.int x2), some (.int x3)] [] M :=
  (hc.1 _ _ _ (i_aload rfl (i_ic (i_putI (okS hW Sk_605) (i_iload rfl (i_i2l (i_lc (i_lc (i_callS3 (Nat.le_of_ble_eq_true rfl) (c_X13_in hW  (i_rI (i_bI_eq (fun q2237 => (hc.2.2.2.1 _ _ _ (i_ic (i_zret (by decide) hW.1 (h.1 q2237))))) (fun q2237 => (hc.2.1 _ _ _ (i_iload rfl (i_i2l (i_lc (i_lc (i_callS3 (Nat.le_of_ble_eq_true rfl) (c_X13_in hW  (i_rI (i_bI_eq (fun q2238 => (hc.2.2.2.1 _ _ _ (i_ic (i_zret (by decide) hW.1 ((h.2 q2237).1 q2238))))) (fun q2238 => (hc.2.2.1 _ _ _ (i_aload rfl (i_getR (okS hW Sk_605) (nv_605_52 hW) (i_ic (i_iload rfl (i_imul (i_iload rfl (i_iadd (i_zaldE hW Ss_634 (rI_a (by decide)) ((h.2 q2237).2 q2238).1 (i_iload rfl (i_icmp_ne (fun q2239 => (hc.2.2.2.2 _ _ _ (i_aload rfl (i_getR (okS hW Sk_605) (nv_605_52 hW) (i_ic (i_iload rfl (i_imul (i_iload rfl (i_iadd (i_iload rfl (i_zast hW Ss_634 (((h.2 q2237).2 q2238).2.1 q2239).1 (i_ic (i_zret (by decide) hW.1 (((h.2 q2237).2 q2238).2.1 q2239).2))))))))))))) (fun q2239 => (hc.2.2.2.1 _ _ _ (i_ic (i_zret (by decide) hW.1 (((h.2 q2237).2 q2238).2.2 q2239)))))))))))))))))))))))))))))))))))))))
theorem wX13_watch {x1 : Int32} {x2 : Int32} {x3 : Int32} {M : Mem} {K : RT} (hW : Wf M) (h : (¬ (P_X13_in (x1.toInt64) (0 : Int64) (7 : Int64)) → K (some (.int (0 : Int32))) (uI M 605 2 (0 : Int32))) ∧ ((P_X13_in (x1.toInt64) (0 : Int64) (7 : Int64)) → ((¬ (P_X13_in (x2.toInt64) (0 : Int64) (63 : Int64)) → K (some (.int (0 : Int32))) (uI M 605 2 (0 : Int32))) ∧ ((P_X13_in (x2.toInt64) (0 : Int64) (63 : Int64)) → ((vp_in (((64 : Int32) * x1) + x2) 512) ∧ ((¬ (gI M 634 (((64 : Int32) * x1) + x2).toNatClampNeg) = x3 → ((vp_in (((64 : Int32) * x1) + x2) 512) ∧ K (some (.int (1 : Int32))) (uI (uI M 605 2 (0 : Int32)) 634 (((64 : Int32) * x1) + x2).toNatClampNeg (vp_nar .boolean x3)))) ∧ ((gI M 634 (((64 : Int32) * x1) + x2).toNatClampNeg) = x3 → K (some (.int (0 : Int32))) (uI M 605 2 (0 : Int32))))))))) : sp_X13_watch [.ref 605, .int x1, .int x2, .int x3] M K := by
  refine ⟨Nat.le_of_ble_eq_true rfl, fun G hc => ?_⟩
  rw [hW.1] at hc
  exact eX13_watch hc hW  h
def P_X13_watch (x1 : Int32) (x2 : Int32) (x3 : Int32) (M : Mem) : Prop := (((P_X13_in (x1.toInt64) (0 : Int64) (7 : Int64))) ∧ (((P_X13_in (x2.toInt64) (0 : Int64) (63 : Int64))) ∧ (¬ (gI M 634 (((64 : Int32) * x1) + x2).toNatClampNeg) = x3)))
noncomputable def m_X13_watch (x1 : Int32) (x2 : Int32) (x3 : Int32) (M : Mem) : Mem := (iT ((P_X13_in (x1.toInt64) (0 : Int64) (7 : Int64))) (iT ((P_X13_in (x2.toInt64) (0 : Int64) (63 : Int64))) (if (gI M 634 (((64 : Int32) * x1) + x2).toNatClampNeg) = x3 then (uI M 605 2 (0 : Int32)) else (uI (uI M 605 2 (0 : Int32)) 634 (((64 : Int32) * x1) + x2).toNatClampNeg (vp_nar .boolean x3))) (uI M 605 2 (0 : Int32))) (uI M 605 2 (0 : Int32)))
def q_X13_watch (x1 : Int32) (x2 : Int32) (x3 : Int32) (M : Mem) : Prop := ((P_X13_in (x1.toInt64) (0 : Int64) (7 : Int64)) → ((P_X13_in (x2.toInt64) (0 : Int64) (63 : Int64)) → ((vp_in (((64 : Int32) * x1) + x2) 512) ∧ (¬ (gI M 634 (((64 : Int32) * x1) + x2).toNatClampNeg) = x3 → (vp_in (((64 : Int32) * x1) + x2) 512)))))
theorem c_X13_watch {x1 : Int32} {x2 : Int32} {x3 : Int32} {M : Mem} {K : RT} (hW : Wf M) (hp : q_X13_watch x1 x2 x3 M) (h : K (some (.int (pI (P_X13_watch x1 x2 x3 M)))) (m_X13_watch x1 x2 x3 M)) : sp_X13_watch [.ref 605, .int x1, .int x2, .int x3] M K := by
  refine wX13_watch hW  ?_
  unfold P_X13_watch at h
  unfold q_X13_watch at hp
  unfold m_X13_watch at h
  refine ⟨fun q0 => ?_, fun q0 => ?_⟩
  · skip
    try simp only [iT_f q0] at h
    exact pI_goF h (by simp only [eq_false q0, not_true_eq_false, not_false_eq_true, true_and, false_and, and_true, and_false, true_or, or_true, false_or, or_false, iff_self])
  · have hq0 := hp q0
    try simp only [iT_t q0] at h
    refine ⟨fun q1 => ?_, fun q1 => ?_⟩
    · skip
      try simp only [iT_f q1] at h
      exact pI_goF h (by simp only [eq_true q0, eq_false q1, not_true_eq_false, not_false_eq_true, true_and, false_and, and_true, and_false, true_or, or_true, false_or, or_false, iff_self])
    · have hq1 := hq0 q1
      try simp only [iT_t q1] at h
      refine ⟨hq1.1, ?_⟩
      refine ⟨fun q2 => ?_, fun q2 => ?_⟩
      · have hq2 := hq1.2 q2
        try simp only [if_neg q2] at h
        refine ⟨hq2, ?_⟩
        exact pI_goT h (by simp only [eq_true q0, eq_true q1, eq_false q2, not_true_eq_false, not_false_eq_true, true_and, false_and, and_true, and_false, true_or, or_true, false_or, or_false, iff_self])
      · skip
        try simp only [if_pos q2] at h
        exact pI_goF h (by simp only [eq_true q0, eq_true q1, eq_true q2, not_true_eq_false, not_false_eq_true, true_and, false_and, and_true, and_false, true_or, or_true, false_or, or_false, iff_self])
theorem Wf_m_X13_watch (x1 : Int32) (x2 : Int32) (x3 : Int32) {M : Mem} (hW : Wf M) : Wf (m_X13_watch x1 x2 x3 M) := by
  unfold m_X13_watch
  try unfold iT
  split
  · skip
    try unfold iT
    split
    · skip
      split
      · skip
        exact hW
      · skip
        exact hW
    · skip
      exact hW
  · skip
    exact hW
set_option maxRecDepth 100000 in
theorem eX13_trace {G : Nat → KT} {K : RT} (hc : cloX13_trace G K wT) {x1 : Int32} {x2 : Int32} {M : Mem} (hW : Wf M) (h : (¬ (P_X13_in (x1.toInt64) (0 : Int64) (((gI M 605 59) - (1 : Int32)).toInt64)) → K (some (.int (-1 : Int32))) (uI M 605 2 (0 : Int32))) ∧ ((P_X13_in (x1.toInt64) (0 : Int64) (((gI M 605 59) - (1 : Int32)).toInt64)) → (((P_X13_in (x2.toInt64) (0 : Int64) (1 : Int64)) → ((¬ x2 = 0 → ((vp_in ((((gI M 605 60) + (64 : Int32)) - x1) - (((gI M 605 60) + (64 : Int32)) - x1) / (64 : Int32) * (64 : Int32)) 64) ∧ K (some (.int (gI M 642 ((((gI M 605 60) + (64 : Int32)) - x1) - (((gI M 605 60) + (64 : Int32)) - x1) / (64 : Int32) * (64 : Int32)).toNatClampNeg))) (uI M 605 2 (0 : Int32)))) ∧ (x2 = 0 → ((vp_in ((((gI M 605 60) + (64 : Int32)) - x1) - (((gI M 605 60) + (64 : Int32)) - x1) / (64 : Int32) * (64 : Int32)) 64) ∧ K (some (.int (gI M 641 ((((gI M 605 60) + (64 : Int32)) - x1) - (((gI M 605 60) + (64 : Int32)) - x1) / (64 : Int32) * (64 : Int32)).toNatClampNeg))) (uI M 605 2 (0 : Int32)))))) ∧ (¬ (P_X13_in (x2.toInt64) (0 : Int64) (1 : Int64)) → K (some (.int (-1 : Int32))) (uI M 605 2 (0 : Int32)))))) : G 0 [some (.ref 605), some (.int x1), some (.int x2), none] [] M :=
  (hc.1 _ _ _ (i_aload rfl (i_ic (i_putI (okS hW Sk_605) (i_iload rfl (i_i2l (i_lc (i_aload rfl (i_getIE (okS hW Sk_605) (rI_k (by decide)) (i_ic (i_isub (i_i2l (i_callS3 (Nat.le_of_ble_eq_true rfl) (c_X13_in hW  (i_rI (i_bI_eq (fun q2240 => (hc.2.2.1 _ _ _ (i_ic (i_iret hW.1 (h.1 q2240))))) (fun q2240 => (hc.2.1 _ _ _ (i_iload rfl (i_i2l (i_lc (i_lc (i_callS3 (Nat.le_of_ble_eq_true rfl) (c_X13_in hW  (i_rI (i_bI_ne (fun q2241 => (hc.2.2.2.1 _ _ _ (i_aload rfl (i_getIE (okS hW Sk_605) (rI_k (by decide)) (i_ic (i_iadd (i_iload rfl (i_isub (i_ic (i_irem (by decide) (i_istore (Nat.le_of_ble_eq_true rfl) (i_iload rfl (i_if_ne (fun q2242 => (hc.2.2.2.2.2.1 _ _ _ (i_aload rfl (i_getR (okS hW Sk_605) (nv_605_62 hW) (i_iload rfl (i_ialdE hW Ss_642 (rI_a (by decide)) (((h.2 q2240).1 q2241).1 q2242).1 (hc.2.2.2.2.2.2 _ _ _ (i_iret hW.1 (((h.2 q2240).1 q2241).1 q2242).2)))))))) (fun q2242 => (hc.2.2.2.2.1 _ _ _ (i_aload rfl (i_getR (okS hW Sk_605) (nv_605_61 hW) (i_iload rfl (i_ialdE hW Ss_641 (rI_a (by decide)) (((h.2 q2240).1 q2241).2 q2242).1 (hc.2.2.2.2.2.2 _ _ _ (i_iret hW.1 (((h.2 q2240).1 q2241).2 q2242).2))))))))))))))))))))) (fun q2241 => (hc.2.2.1 _ _ _ (i_ic (i_iret hW.1 ((h.2 q2240).2 q2241)))))))))))))))))))))))))))))))
theorem wX13_trace {x1 : Int32} {x2 : Int32} {M : Mem} {K : RT} (hW : Wf M) (h : (¬ (P_X13_in (x1.toInt64) (0 : Int64) (((gI M 605 59) - (1 : Int32)).toInt64)) → K (some (.int (-1 : Int32))) (uI M 605 2 (0 : Int32))) ∧ ((P_X13_in (x1.toInt64) (0 : Int64) (((gI M 605 59) - (1 : Int32)).toInt64)) → (((P_X13_in (x2.toInt64) (0 : Int64) (1 : Int64)) → ((¬ x2 = 0 → ((vp_in ((((gI M 605 60) + (64 : Int32)) - x1) - (((gI M 605 60) + (64 : Int32)) - x1) / (64 : Int32) * (64 : Int32)) 64) ∧ K (some (.int (gI M 642 ((((gI M 605 60) + (64 : Int32)) - x1) - (((gI M 605 60) + (64 : Int32)) - x1) / (64 : Int32) * (64 : Int32)).toNatClampNeg))) (uI M 605 2 (0 : Int32)))) ∧ (x2 = 0 → ((vp_in ((((gI M 605 60) + (64 : Int32)) - x1) - (((gI M 605 60) + (64 : Int32)) - x1) / (64 : Int32) * (64 : Int32)) 64) ∧ K (some (.int (gI M 641 ((((gI M 605 60) + (64 : Int32)) - x1) - (((gI M 605 60) + (64 : Int32)) - x1) / (64 : Int32) * (64 : Int32)).toNatClampNeg))) (uI M 605 2 (0 : Int32)))))) ∧ (¬ (P_X13_in (x2.toInt64) (0 : Int64) (1 : Int64)) → K (some (.int (-1 : Int32))) (uI M 605 2 (0 : Int32)))))) : sp_X13_trace [.ref 605, .int x1, .int x2] M K := by
  refine ⟨Nat.le_of_ble_eq_true rfl, fun G hc => ?_⟩
  rw [hW.1] at hc
  exact eX13_trace hc hW  h
noncomputable def f_X13_trace (x1 : Int32) (x2 : Int32) (M : Mem) : Int32 := (iT ((P_X13_in (x1.toInt64) (0 : Int64) (((gI M 605 59) - (1 : Int32)).toInt64))) (iT ((P_X13_in (x2.toInt64) (0 : Int64) (1 : Int64))) (if x2 = 0 then (gI M 641 ((((gI M 605 60) + (64 : Int32)) - x1) - (((gI M 605 60) + (64 : Int32)) - x1) / (64 : Int32) * (64 : Int32)).toNatClampNeg) else (gI M 642 ((((gI M 605 60) + (64 : Int32)) - x1) - (((gI M 605 60) + (64 : Int32)) - x1) / (64 : Int32) * (64 : Int32)).toNatClampNeg)) (-1 : Int32)) (-1 : Int32))
noncomputable def m_X13_trace (x1 : Int32) (x2 : Int32) (M : Mem) : Mem := (uI M 605 2 (0 : Int32))
def q_X13_trace (x1 : Int32) (x2 : Int32) (M : Mem) : Prop := ((P_X13_in (x1.toInt64) (0 : Int64) (((gI M 605 59) - (1 : Int32)).toInt64)) → ((P_X13_in (x2.toInt64) (0 : Int64) (1 : Int64)) → ((¬ x2 = 0 → (vp_in ((((gI M 605 60) + (64 : Int32)) - x1) - (((gI M 605 60) + (64 : Int32)) - x1) / (64 : Int32) * (64 : Int32)) 64)) ∧ (x2 = 0 → (vp_in ((((gI M 605 60) + (64 : Int32)) - x1) - (((gI M 605 60) + (64 : Int32)) - x1) / (64 : Int32) * (64 : Int32)) 64)))))
theorem c_X13_trace {x1 : Int32} {x2 : Int32} {M : Mem} {K : RT} (hW : Wf M) (hp : q_X13_trace x1 x2 M) (h : K (some (.int (f_X13_trace x1 x2 M))) (m_X13_trace x1 x2 M)) : sp_X13_trace [.ref 605, .int x1, .int x2] M K := by
  refine wX13_trace hW  ?_
  unfold f_X13_trace m_X13_trace at h
  unfold q_X13_trace at hp
  refine ⟨fun q0 => ?_, fun q0 => ?_⟩
  · skip
    try simp only [iT_f q0] at h
    first | exact h | contradiction
  · have hq0 := hp q0
    try simp only [iT_t q0] at h
    refine ⟨fun q1 => ?_, fun q1 => ?_⟩
    · have hq1 := hq0 q1
      try simp only [iT_t q1] at h
      refine ⟨fun q2 => ?_, fun q2 => ?_⟩
      · have hq2 := hq1.1 q2
        try simp only [if_neg q2] at h
        refine ⟨hq2, ?_⟩
        first | exact h | contradiction
      · have hq2 := hq1.2 q2
        try simp only [if_pos q2] at h
        refine ⟨hq2, ?_⟩
        first | exact h | contradiction
    · skip
      try simp only [iT_f q1] at h
      first | exact h | contradiction
theorem Wf_m_X13_trace (x1 : Int32) (x2 : Int32) {M : Mem} (hW : Wf M) : Wf (m_X13_trace x1 x2 M) := by
  unfold m_X13_trace
  exact hW
def RX13_keep_19_4 (G : Nat → KT) (K : RT) : KT := (w_aload 0 (w_getf 10 58 3 (w_iload 1 (w_ic 1 (w_zast (w_ic 1 (w_zret wT K)))))))
set_option maxRecDepth 100000 in
theorem eX13_keep {G : Nat → KT} {K : RT} (hc : cloX13_keep G K wT) {x1 : Int32} {M : Mem} (hW : Wf M) (h : ((P_X13_in (x1.toInt64) (0 : Int64) (3 : Int64)) → sp_X13_save [.ref 605, .int ((64 : Int32) + x1)] (uI M 605 2 (0 : Int32)) (fun v M' => RX13_keep_19_4 G K [some (.ref 605), some (.int x1)] (v.toList ++ []) M')) ∧ (¬ (P_X13_in (x1.toInt64) (0 : Int64) (3 : Int64)) → K (some (.int (0 : Int32))) (uI M 605 2 (0 : Int32)))) : G 0 [some (.ref 605), some (.int x1)] [] M :=
  (hc.1 _ _ _ (i_aload rfl (i_ic (i_putI (okS hW Sk_605) (i_iload rfl (i_i2l (i_lc (i_lc (i_callS3 (Nat.le_of_ble_eq_true rfl) (c_X13_in hW  (i_rI (i_bI_ne (fun q2244 => (hc.2.2 _ _ _ (i_aload rfl (i_ic (i_iload rfl (i_iadd (i_callV2 (Nat.le_of_ble_eq_true rfl) (okS hW Sk_605) (h.1 q2244)))))))) (fun q2244 => (hc.2.1 _ _ _ (i_ic (i_zret (by decide) hW.1 (h.2 q2244)))))))))))))))))
set_option maxRecDepth 100000 in
theorem rX13_keep_19_4 {G : Nat → KT} {K : RT} (hc : cloX13_keep G K wT) {x1 : Int32} {M : Mem} (hW : Wf M) (h : (vp_in x1 4) ∧ K (some (.int (1 : Int32))) (uI M 640 (x1).toNatClampNeg (1 : Int32))) : RX13_keep_19_4 G K [some (.ref 605), some (.int x1)] (Option.toList none ++ []) M :=
  (i_rN (i_aload rfl (i_getR (okS hW Sk_605) (nv_605_58 hW) (i_iload rfl (i_ic (i_zast hW Ss_640 h.1 (i_ic (i_zret (by decide) hW.1 h.2))))))))
theorem wX13_keep {x1 : Int32} {M : Mem} {K : RT} (hW : Wf M) (h : ∀ {G : Nat → KT}, cloX13_keep G K wT → ((P_X13_in (x1.toInt64) (0 : Int64) (3 : Int64)) → sp_X13_save [.ref 605, .int ((64 : Int32) + x1)] (uI M 605 2 (0 : Int32)) (fun v M' => RX13_keep_19_4 G K [some (.ref 605), some (.int x1)] (v.toList ++ []) M')) ∧ (¬ (P_X13_in (x1.toInt64) (0 : Int64) (3 : Int64)) → K (some (.int (0 : Int32))) (uI M 605 2 (0 : Int32)))) : sp_X13_keep [.ref 605, .int x1] M K := by
  refine ⟨Nat.le_of_ble_eq_true rfl, fun G hc => ?_⟩
  rw [hW.1] at hc
  exact eX13_keep hc hW  (h hc)
set_option maxRecDepth 100000 in
theorem eX13_areSame {G : Nat → KT} {K : RT} (hc : cloX13_areSame G K wT) {x1 : Int32} {x2 : Int32} {x3 : Int32} {x4 : Int32} {x5 : Int32} {M : Mem} (hW : Wf M) (h : G 6 [some (.ref 605), some (.int x1), some (.int x2), some (.int x3), some (.int x4), some (.int x5), some (.int (1 : Int32)), some (.int x3)] [] M) : G 0 [some (.ref 605), some (.int x1), some (.int x2), some (.int x3), some (.int x4), some (.int x5), none, none] [] M :=
  (hc.1 _ _ _ (i_ic (i_istore (Nat.le_of_ble_eq_true rfl) (i_iload rfl (i_istore (Nat.le_of_ble_eq_true rfl) h)))))
set_option maxRecDepth 100000 in
theorem eX13_areSame_6 {G : Nat → KT} {K : RT} (hc : cloX13_areSame G K wT) {x1 : Int32} {x2 : Int32} {x3 : Int32} {x4 : Int32} {x5 : Int32} {x6 : Int32} {x7 : Int32} {M : Mem} (hW : Wf M) (h : ((x3 + x5) ≤ x7 → ((x6 = 0 ∨ x6 = 1) ∧ K (some (.int x6)) M)) ∧ (¬ (x3 + x5) ≤ x7 → ((x6 = 0 → G 6 [some (.ref 605), some (.int x1), some (.int x2), some (.int x3), some (.int x4), some (.int x5), some (.int (0 : Int32)), some (.int (x7 + (1 : Int32)))] [] M) ∧ (¬ x6 = 0 → ((vp_in (((780 : Int32) * x1) + x7) 53820) ∧ ((vp_in (((768 : Int32) * x1) + x7) 52992) ∧ ((q_X13_bits x4 (gL M 635 (((780 : Int32) * x1) + x7).toNatClampNeg) (gD M 636 (((768 : Int32) * x1) + x7).toNatClampNeg)) ∧ ((vp_in (((780 : Int32) * x2) + x7) 53820) ∧ ((vp_in (((768 : Int32) * x2) + x7) 52992) ∧ ((q_X13_bits x4 (gL M 635 (((780 : Int32) * x2) + x7).toNatClampNeg) (gD M 636 (((768 : Int32) * x2) + x7).toNatClampNeg)) ∧ ((¬ (f_X13_bits x4 (gL M 635 (((780 : Int32) * x1) + x7).toNatClampNeg) (gD M 636 (((768 : Int32) * x1) + x7).toNatClampNeg)) = (f_X13_bits x4 (gL M 635 (((780 : Int32) * x2) + x7).toNatClampNeg) (gD M 636 (((768 : Int32) * x2) + x7).toNatClampNeg)) → G 6 [some (.ref 605), some (.int x1), some (.int x2), some (.int x3), some (.int x4), some (.int x5), some (.int (0 : Int32)), some (.int (x7 + (1 : Int32)))] [] M) ∧ ((f_X13_bits x4 (gL M 635 (((780 : Int32) * x1) + x7).toNatClampNeg) (gD M 636 (((768 : Int32) * x1) + x7).toNatClampNeg)) = (f_X13_bits x4 (gL M 635 (((780 : Int32) * x2) + x7).toNatClampNeg) (gD M 636 (((768 : Int32) * x2) + x7).toNatClampNeg)) → G 6 [some (.ref 605), some (.int x1), some (.int x2), some (.int x3), some (.int x4), some (.int x5), some (.int (1 : Int32)), some (.int (x7 + (1 : Int32)))] [] M)))))))))))) : G 6 [some (.ref 605), some (.int x1), some (.int x2), some (.int x3), some (.int x4), some (.int x5), some (.int x6), some (.int x7)] [] M :=
  (hc.2.1 _ _ _ (i_iload rfl (i_iload rfl (i_iload rfl (i_iadd (i_icmp_ge (fun q2248 => (hc.2.2.2.2.2.2.2 _ _ _ (i_iload rfl (i_zret (h.1 q2248).1 hW.1 (h.1 q2248).2)))) (fun q2248 => (hc.2.2.1 _ _ _ (i_iload rfl (i_if_eq (fun q2249 => (hc.2.2.2.2.2.1 _ _ _ (i_ic (hc.2.2.2.2.2.2.1 _ _ _ (i_istore (Nat.le_of_ble_eq_true rfl) (i_iinc rfl ((h.2 q2248).1 q2249))))))) (fun q2249 => (hc.2.2.2.1 _ _ _ (i_iload rfl (i_aload rfl (i_getR (okS hW Sk_605) (nv_605_53 hW) (i_ic (i_iload rfl (i_imul (i_iload rfl (i_iadd (i_lald hW Ss_635 ((h.2 q2248).2 q2249).1 (i_aload rfl (i_getR (okS hW Sk_605) (nv_605_54 hW) (i_ic (i_iload rfl (i_imul (i_iload rfl (i_iadd (i_dald hW Ss_636 ((h.2 q2248).2 q2249).2.1 (i_callS3 (Nat.le_of_ble_eq_true rfl) (c_X13_bits hW  ((h.2 q2248).2 q2249).2.2.1 (i_rJ (i_iload rfl (i_aload rfl (i_getR (okS hW Sk_605) (nv_605_53 hW) (i_ic (i_iload rfl (i_imul (i_iload rfl (i_iadd (i_lald hW Ss_635 ((h.2 q2248).2 q2249).2.2.2.1 (i_aload rfl (i_getR (okS hW Sk_605) (nv_605_54 hW) (i_ic (i_iload rfl (i_imul (i_iload rfl (i_iadd (i_dald hW Ss_636 ((h.2 q2248).2 q2249).2.2.2.2.1 (i_callS3 (Nat.le_of_ble_eq_true rfl) (c_X13_bits hW  ((h.2 q2248).2 q2249).2.2.2.2.2.1 (i_rJ (i_lcmp (i_lcmp_ne (fun q2250 => (hc.2.2.2.2.2.1 _ _ _ (i_ic (hc.2.2.2.2.2.2.1 _ _ _ (i_istore (Nat.le_of_ble_eq_true rfl) (i_iinc rfl (((h.2 q2248).2 q2249).2.2.2.2.2.2.1 q2250))))))) (fun q2250 => (hc.2.2.2.2.1 _ _ _ (i_ic (hc.2.2.2.2.2.2.1 _ _ _ (i_istore (Nat.le_of_ble_eq_true rfl) (i_iinc rfl (((h.2 q2248).2 q2249).2.2.2.2.2.2.2 q2250)))))))))))))))))))))))))))))))))))))))))))))))))))))))))))))
theorem wX13_areSame {x1 : Int32} {x2 : Int32} {x3 : Int32} {x4 : Int32} {x5 : Int32} {M : Mem} {K : RT} (hW : Wf M) (h : ∀ {G : Nat → KT}, cloX13_areSame G K wT → G 6 [some (.ref 605), some (.int x1), some (.int x2), some (.int x3), some (.int x4), some (.int x5), some (.int (1 : Int32)), some (.int x3)] [] M) : sp_X13_areSame [.ref 605, .int x1, .int x2, .int x3, .int x4, .int x5] M K := by
  refine ⟨Nat.le_of_ble_eq_true rfl, fun G hc => ?_⟩
  rw [hW.1] at hc
  exact eX13_areSame hc hW  (h hc)
def RX13_differ_138_7 (G : Nat → KT) (K : RT) : KT := (w_if_eq (G 160) (G 156))
set_option maxRecDepth 100000 in
theorem eX13_differ {G : Nat → KT} {K : RT} (hc : cloX13_differ G K wT) {x1 : Int32} {x2 : Int32} {x3 : Int32} {M : Mem} (hW : Wf M) (h : G 18 [some (.ref 605), some (.int x1), some (.int x2), some (.int x3), some (.int (1 : Int32)), some (.int ((56 : Int32) * x1)), some (.int ((56 : Int32) * x2)), some (.int (0 : Int32)), none, none] [] M) : G 0 [some (.ref 605), some (.int x1), some (.int x2), some (.int x3), none, none, none, none, none, none] [] M :=
  (hc.1 _ _ _ (i_ic (i_istore (Nat.le_of_ble_eq_true rfl) (i_ic (i_iload rfl (i_imul (i_istore (Nat.le_of_ble_eq_true rfl) (i_ic (i_iload rfl (i_imul (i_istore (Nat.le_of_ble_eq_true rfl) (i_ic (i_istore (Nat.le_of_ble_eq_true rfl) h)))))))))))))
set_option maxRecDepth 100000 in
theorem eX13_differ_18 {G : Nat → KT} {K : RT} (hc : cloX13_differ G K wT) {x1 : Int32} {x2 : Int32} {x3 : Int32} {x4 : Int32} {x5 : Int32} {x6 : Int32} {x7 : Int32} {o8 : Option Value} {o9 : Option Value} {M : Mem} (hW : Wf M) (h : ((8 : Int32) ≤ x7 → ((¬ x4 = 0 → K (some (.int (0 : Int32))) M) ∧ (x4 = 0 → K (some (.int (1 : Int32))) M))) ∧ (¬ (8 : Int32) ≤ x7 → ((¬ x3 = (1 : Int32) → G 40 [some (.ref 605), some (.int x1), some (.int x2), some (.int x3), some (.int x4), some (.int x5), some (.int x6), some (.int x7), o8, o9] [.int ((16 : Int32) + x7)] M) ∧ (x3 = (1 : Int32) → G 40 [some (.ref 605), some (.int x1), some (.int x2), some (.int x3), some (.int x4), some (.int x5), some (.int x6), some (.int x7), o8, o9] [.int x7] M)))) : G 18 [some (.ref 605), some (.int x1), some (.int x2), some (.int x3), some (.int x4), some (.int x5), some (.int x6), some (.int x7), o8, o9] [] M :=
  (hc.2.1 _ _ _ (i_iload rfl (i_ic (i_icmp_ge (fun q2266 => (hc.2.2.2.2.2.2.2.2.2.2.2.2.2.2.2.2.2.2.2.2.2.2.2.2.2.2.2.2.2.1 _ _ _ (i_iload rfl (i_if_ne (fun q2267 => (hc.2.2.2.2.2.2.2.2.2.2.2.2.2.2.2.2.2.2.2.2.2.2.2.2.2.2.2.2.2.2.2.1 _ _ _ (i_ic (hc.2.2.2.2.2.2.2.2.2.2.2.2.2.2.2.2.2.2.2.2.2.2.2.2.2.2.2.2.2.2.2.2 _ _ _ (i_zret (by decide) hW.1 ((h.1 q2266).1 q2267)))))) (fun q2267 => (hc.2.2.2.2.2.2.2.2.2.2.2.2.2.2.2.2.2.2.2.2.2.2.2.2.2.2.2.2.2.2.1 _ _ _ (i_ic (hc.2.2.2.2.2.2.2.2.2.2.2.2.2.2.2.2.2.2.2.2.2.2.2.2.2.2.2.2.2.2.2.2 _ _ _ (i_zret (by decide) hW.1 ((h.1 q2266).2 q2267)))))))))) (fun q2266 => (hc.2.2.1 _ _ _ (i_iload rfl (i_ic (i_icmp_ne (fun q2268 => (hc.2.2.2.2.1 _ _ _ (i_ic (i_iload rfl (i_iadd ((h.2 q2266).1 q2268)))))) (fun q2268 => (hc.2.2.2.1 _ _ _ (i_iload rfl ((h.2 q2266).2 q2268)))))))))))))
set_option maxRecDepth 100000 in
theorem eX13_differ_40 {G : Nat → KT} {K : RT} (hc : cloX13_differ G K wT) {x1 : Int32} {x2 : Int32} {x3 : Int32} {x4 : Int32} {x5 : Int32} {x6 : Int32} {x7 : Int32} {o8 : Option Value} {o9 : Option Value} {s0 : Int32} {M : Mem} (hW : Wf M) (h : (x3 = (1 : Int32) → G 52 [some (.ref 605), some (.int x1), some (.int x2), some (.int x3), some (.int x4), some (.int x5), some (.int x6), some (.int x7), some (.int s0), o9] [] M) ∧ (¬ x3 = (1 : Int32) → ((¬ x3 = (4 : Int32) → ((¬ x3 = (3 : Int32) → ((x4 = 0 → G 18 [some (.ref 605), some (.int x1), some (.int x2), some (.int x3), some (.int (0 : Int32)), some (.int x5), some (.int x6), some (.int (x7 + (1 : Int32))), some (.int s0), o9] [] M) ∧ (¬ x4 = 0 → ((vp_in ((x5 + (32 : Int32)) + (x7 - x7 / (4 : Int32) * (4 : Int32))) 3864) ∧ ((vp_in ((x6 + (32 : Int32)) + (x7 - x7 / (4 : Int32) * (4 : Int32))) 3864) ∧ ((¬ (gI M 637 ((x5 + (32 : Int32)) + (x7 - x7 / (4 : Int32) * (4 : Int32))).toNatClampNeg) = (gI M 637 ((x6 + (32 : Int32)) + (x7 - x7 / (4 : Int32) * (4 : Int32))).toNatClampNeg) → G 18 [some (.ref 605), some (.int x1), some (.int x2), some (.int x3), some (.int (0 : Int32)), some (.int x5), some (.int x6), some (.int (x7 + (1 : Int32))), some (.int s0), o9] [] M) ∧ ((gI M 637 ((x5 + (32 : Int32)) + (x7 - x7 / (4 : Int32) * (4 : Int32))).toNatClampNeg) = (gI M 637 ((x6 + (32 : Int32)) + (x7 - x7 / (4 : Int32) * (4 : Int32))).toNatClampNeg) → G 18 [some (.ref 605), some (.int x1), some (.int x2), some (.int x3), some (.int (1 : Int32)), some (.int x5), some (.int x6), some (.int (x7 + (1 : Int32))), some (.int s0), o9] [] M))))))) ∧ (x3 = (3 : Int32) → ((x4 = 0 → G 18 [some (.ref 605), some (.int x1), some (.int x2), some (.int x3), some (.int (0 : Int32)), some (.int x5), some (.int x6), some (.int (x7 + (1 : Int32))), some (.int s0), o9] [] M) ∧ (¬ x4 = 0 → ((vp_in ((((780 : Int32) * x1) + (768 : Int32)) + x7) 53820) ∧ ((vp_in ((((780 : Int32) * x2) + (768 : Int32)) + x7) 53820) ∧ ((¬ (gL M 635 ((((780 : Int32) * x1) + (768 : Int32)) + x7).toNatClampNeg) = (gL M 635 ((((780 : Int32) * x2) + (768 : Int32)) + x7).toNatClampNeg) → G 18 [some (.ref 605), some (.int x1), some (.int x2), some (.int x3), some (.int (0 : Int32)), some (.int x5), some (.int x6), some (.int (x7 + (1 : Int32))), some (.int s0), o9] [] M) ∧ ((gL M 635 ((((780 : Int32) * x1) + (768 : Int32)) + x7).toNatClampNeg) = (gL M 635 ((((780 : Int32) * x2) + (768 : Int32)) + x7).toNatClampNeg) → G 18 [some (.ref 605), some (.int x1), some (.int x2), some (.int x3), some (.int (1 : Int32)), some (.int x5), some (.int x6), some (.int (x7 + (1 : Int32))), some (.int s0), o9] [] M))))))))) ∧ (x3 = (4 : Int32) → G 52 [some (.ref 605), some (.int x1), some (.int x2), some (.int x3), some (.int x4), some (.int x5), some (.int x6), some (.int x7), some (.int s0), o9] [] M)))) : G 40 [some (.ref 605), some (.int x1), some (.int x2), some (.int x3), some (.int x4), some (.int x5), some (.int x6), some (.int x7), o8, o9] [.int s0] M :=
  (hc.2.2.2.2.2.1 _ _ _ (i_istore (Nat.le_of_ble_eq_true rfl) (i_iload rfl (i_ic (i_icmp_eq (fun q2269 => (h.1 q2269)) (fun q2269 => (hc.2.2.2.2.2.2.1 _ _ _ (i_iload rfl (i_ic (i_icmp_ne (fun q2270 => (hc.2.2.2.2.2.2.2.2.2.2.2.2.2.2.2.2.2.1 _ _ _ (i_iload rfl (i_ic (i_icmp_ne (fun q2271 => (hc.2.2.2.2.2.2.2.2.2.2.2.2.2.2.2.2.2.2.2.2.2.2.2.1 _ _ _ (i_iload rfl (i_if_eq (fun q2272 => (hc.2.2.2.2.2.2.2.2.2.2.2.2.2.2.2.2.2.2.2.2.2.2.2.2.2.2.1 _ _ _ (i_ic (hc.2.2.2.2.2.2.2.2.2.2.2.2.2.2.2.2.2.2.2.2.2.2.2.2.2.2.2.1 _ _ _ (i_istore (Nat.le_of_ble_eq_true rfl) (hc.2.2.2.2.2.2.2.2.2.2.2.2.2.2.2.2.2.2.2.2.2.2.2.2.2.2.2.2.1 _ _ _ (i_iinc rfl ((((h.2 q2269).1 q2270).1 q2271).1 q2272)))))))) (fun q2272 => (hc.2.2.2.2.2.2.2.2.2.2.2.2.2.2.2.2.2.2.2.2.2.2.2.2.1 _ _ _ (i_aload rfl (i_getR (okS hW Sk_605) (nv_605_55 hW) (i_iload rfl (i_ic (i_iadd (i_iload rfl (i_ic (i_irem (by decide) (i_iadd (i_iald hW Ss_637 ((((h.2 q2269).1 q2270).1 q2271).2 q2272).1 (i_aload rfl (i_getR (okS hW Sk_605) (nv_605_55 hW) (i_iload rfl (i_ic (i_iadd (i_iload rfl (i_ic (i_irem (by decide) (i_iadd (i_iald hW Ss_637 ((((h.2 q2269).1 q2270).1 q2271).2 q2272).2.1 (i_icmp_ne (fun q2273 => (hc.2.2.2.2.2.2.2.2.2.2.2.2.2.2.2.2.2.2.2.2.2.2.2.2.2.2.1 _ _ _ (i_ic (hc.2.2.2.2.2.2.2.2.2.2.2.2.2.2.2.2.2.2.2.2.2.2.2.2.2.2.2.1 _ _ _ (i_istore (Nat.le_of_ble_eq_true rfl) (hc.2.2.2.2.2.2.2.2.2.2.2.2.2.2.2.2.2.2.2.2.2.2.2.2.2.2.2.2.1 _ _ _ (i_iinc rfl (((((h.2 q2269).1 q2270).1 q2271).2 q2272).2.2.1 q2273)))))))) (fun q2273 => (hc.2.2.2.2.2.2.2.2.2.2.2.2.2.2.2.2.2.2.2.2.2.2.2.2.2.1 _ _ _ (i_ic (hc.2.2.2.2.2.2.2.2.2.2.2.2.2.2.2.2.2.2.2.2.2.2.2.2.2.2.2.1 _ _ _ (i_istore (Nat.le_of_ble_eq_true rfl) (hc.2.2.2.2.2.2.2.2.2.2.2.2.2.2.2.2.2.2.2.2.2.2.2.2.2.2.2.2.1 _ _ _ (i_iinc rfl (((((h.2 q2269).1 q2270).1 q2271).2 q2272).2.2.2 q2273))))))))))))))))))))))))))))))))))) (fun q2271 => (hc.2.2.2.2.2.2.2.2.2.2.2.2.2.2.2.2.2.2.1 _ _ _ (i_iload rfl (i_if_eq (fun q2274 => (hc.2.2.2.2.2.2.2.2.2.2.2.2.2.2.2.2.2.2.2.2.2.1 _ _ _ (i_ic (hc.2.2.2.2.2.2.2.2.2.2.2.2.2.2.2.2.2.2.2.2.2.2.1 _ _ _ (i_istore (Nat.le_of_ble_eq_true rfl) (hc.2.2.2.2.2.2.2.2.2.2.2.2.2.2.2.2.2.2.2.2.2.2.2.2.2.2.2.2.1 _ _ _ (i_iinc rfl ((((h.2 q2269).1 q2270).2 q2271).1 q2274)))))))) (fun q2274 => (hc.2.2.2.2.2.2.2.2.2.2.2.2.2.2.2.2.2.2.2.1 _ _ _ (i_aload rfl (i_getR (okS hW Sk_605) (nv_605_53 hW) (i_ic (i_iload rfl (i_imul (i_ic (i_iadd (i_iload rfl (i_iadd (i_lald hW Ss_635 ((((h.2 q2269).1 q2270).2 q2271).2 q2274).1 (i_aload rfl (i_getR (okS hW Sk_605) (nv_605_53 hW) (i_ic (i_iload rfl (i_imul (i_ic (i_iadd (i_iload rfl (i_iadd (i_lald hW Ss_635 ((((h.2 q2269).1 q2270).2 q2271).2 q2274).2.1 (i_lcmp (i_lcmp_ne (fun q2275 => (hc.2.2.2.2.2.2.2.2.2.2.2.2.2.2.2.2.2.2.2.2.2.1 _ _ _ (i_ic (hc.2.2.2.2.2.2.2.2.2.2.2.2.2.2.2.2.2.2.2.2.2.2.1 _ _ _ (i_istore (Nat.le_of_ble_eq_true rfl) (hc.2.2.2.2.2.2.2.2.2.2.2.2.2.2.2.2.2.2.2.2.2.2.2.2.2.2.2.2.1 _ _ _ (i_iinc rfl (((((h.2 q2269).1 q2270).2 q2271).2 q2274).2.2.1 q2275)))))))) (fun q2275 => (hc.2.2.2.2.2.2.2.2.2.2.2.2.2.2.2.2.2.2.2.2.1 _ _ _ (i_ic (hc.2.2.2.2.2.2.2.2.2.2.2.2.2.2.2.2.2.2.2.2.2.2.1 _ _ _ (i_istore (Nat.le_of_ble_eq_true rfl) (hc.2.2.2.2.2.2.2.2.2.2.2.2.2.2.2.2.2.2.2.2.2.2.2.2.2.2.2.2.1 _ _ _ (i_iinc rfl (((((h.2 q2269).1 q2270).2 q2271).2 q2274).2.2.2 q2275))))))))))))))))))))))))))))))))))))))))) (fun q2270 => ((h.2 q2269).2 q2270))))))))))))
set_option maxRecDepth 100000 in
theorem eX13_differ_52 {G : Nat → KT} {K : RT} (hc : cloX13_differ G K wT) {x1 : Int32} {x2 : Int32} {x3 : Int32} {x4 : Int32} {x5 : Int32} {x6 : Int32} {x7 : Int32} {x8 : Int32} {o9 : Option Value} {M : Mem} (hW : Wf M) (h : (vp_in ((x5 + x8) + (8 : Int32)) 3864) ∧ (∀ y1 : Int32, y1 = (gI M 637 ((x5 + x8) + (8 : Int32)).toNatClampNeg) → (x4 = 0 → G 18 [some (.ref 605), some (.int x1), some (.int x2), some (.int x3), some (.int (0 : Int32)), some (.int x5), some (.int x6), some (.int (x7 + (1 : Int32))), some (.int x8), some (.int y1)] [] M) ∧ (¬ x4 = 0 → ((vp_in (x5 + x8) 3864) ∧ ((vp_in (x6 + x8) 3864) ∧ ((¬ (gI M 637 (x5 + x8).toNatClampNeg) = (gI M 637 (x6 + x8).toNatClampNeg) → G 18 [some (.ref 605), some (.int x1), some (.int x2), some (.int x3), some (.int (0 : Int32)), some (.int x5), some (.int x6), some (.int (x7 + (1 : Int32))), some (.int x8), some (.int y1)] [] M) ∧ ((gI M 637 (x5 + x8).toNatClampNeg) = (gI M 637 (x6 + x8).toNatClampNeg) → ((vp_in ((x6 + x8) + (8 : Int32)) 3864) ∧ ((¬ y1 = (gI M 637 ((x6 + x8) + (8 : Int32)).toNatClampNeg) → G 18 [some (.ref 605), some (.int x1), some (.int x2), some (.int x3), some (.int (0 : Int32)), some (.int x5), some (.int x6), some (.int (x7 + (1 : Int32))), some (.int x8), some (.int y1)] [] M) ∧ (y1 = (gI M 637 ((x6 + x8) + (8 : Int32)).toNatClampNeg) → ((¬ x3 = (1 : Int32) → G 138 [some (.ref 605), some (.int x1), some (.int x2), some (.int x3), some (.int x4), some (.int x5), some (.int x6), some (.int x7), some (.int x8), some (.int y1)] [.int ((256 : Int32) + ((64 : Int32) * x7)), .int x2, .int x1, .ref 605] M) ∧ (x3 = (1 : Int32) → G 138 [some (.ref 605), some (.int x1), some (.int x2), some (.int x3), some (.int x4), some (.int x5), some (.int x6), some (.int x7), some (.int x8), some (.int y1)] [.int ((32 : Int32) * x7), .int x2, .int x1, .ref 605] M)))))))))))) : G 52 [some (.ref 605), some (.int x1), some (.int x2), some (.int x3), some (.int x4), some (.int x5), some (.int x6), some (.int x7), some (.int x8), o9] [] M :=
  (hc.2.2.2.2.2.2.2.1 _ _ _ (i_aload rfl (i_getR (okS hW Sk_605) (nv_605_55 hW) (i_iload rfl (i_iload rfl (i_iadd (i_ic (i_iadd (i_iald hW Ss_637 h.1 (i_istore (Nat.le_of_ble_eq_true rfl) (i_iload rfl (i_if_eq (fun q2276 => (hc.2.2.2.2.2.2.2.2.2.2.2.2.2.2.2.1 _ _ _ (i_ic (hc.2.2.2.2.2.2.2.2.2.2.2.2.2.2.2.2.1 _ _ _ (i_istore (Nat.le_of_ble_eq_true rfl) (hc.2.2.2.2.2.2.2.2.2.2.2.2.2.2.2.2.2.2.2.2.2.2.2.2.2.2.2.2.1 _ _ _ (i_iinc rfl ((h.2 _ rfl).1 q2276)))))))) (fun q2276 => (hc.2.2.2.2.2.2.2.2.1 _ _ _ (i_aload rfl (i_getR (okS hW Sk_605) (nv_605_55 hW) (i_iload rfl (i_iload rfl (i_iadd (i_iald hW Ss_637 ((h.2 _ rfl).2 q2276).1 (i_aload rfl (i_getR (okS hW Sk_605) (nv_605_55 hW) (i_iload rfl (i_iload rfl (i_iadd (i_iald hW Ss_637 ((h.2 _ rfl).2 q2276).2.1 (i_icmp_ne (fun q2277 => (hc.2.2.2.2.2.2.2.2.2.2.2.2.2.2.2.1 _ _ _ (i_ic (hc.2.2.2.2.2.2.2.2.2.2.2.2.2.2.2.2.1 _ _ _ (i_istore (Nat.le_of_ble_eq_true rfl) (hc.2.2.2.2.2.2.2.2.2.2.2.2.2.2.2.2.2.2.2.2.2.2.2.2.2.2.2.2.1 _ _ _ (i_iinc rfl (((h.2 _ rfl).2 q2276).2.2.1 q2277)))))))) (fun q2277 => (hc.2.2.2.2.2.2.2.2.2.1 _ _ _ (i_iload rfl (i_aload rfl (i_getR (okS hW Sk_605) (nv_605_55 hW) (i_iload rfl (i_iload rfl (i_iadd (i_ic (i_iadd (i_iald hW Ss_637 (((h.2 _ rfl).2 q2276).2.2.2 q2277).1 (i_icmp_ne (fun q2278 => (hc.2.2.2.2.2.2.2.2.2.2.2.2.2.2.2.1 _ _ _ (i_ic (hc.2.2.2.2.2.2.2.2.2.2.2.2.2.2.2.2.1 _ _ _ (i_istore (Nat.le_of_ble_eq_true rfl) (hc.2.2.2.2.2.2.2.2.2.2.2.2.2.2.2.2.2.2.2.2.2.2.2.2.2.2.2.2.1 _ _ _ (i_iinc rfl ((((h.2 _ rfl).2 q2276).2.2.2 q2277).2.1 q2278)))))))) (fun q2278 => (hc.2.2.2.2.2.2.2.2.2.2.1 _ _ _ (i_aload rfl (i_iload rfl (i_iload rfl (i_iload rfl (i_ic (i_icmp_ne (fun q2279 => (hc.2.2.2.2.2.2.2.2.2.2.2.2.1 _ _ _ (i_ic (i_ic (i_iload rfl (i_imul (i_iadd (((((h.2 _ rfl).2 q2276).2.2.2 q2277).2.2 q2278).1 q2279)))))))) (fun q2279 => (hc.2.2.2.2.2.2.2.2.2.2.2.1 _ _ _ (i_ic (i_iload rfl (i_imul (((((h.2 _ rfl).2 q2276).2.2.2 q2277).2.2 q2278).2 q2279)))))))))))))))))))))))))))))))))))))))))))))))))))))
set_option maxRecDepth 100000 in
theorem eX13_differ_138 {G : Nat → KT} {K : RT} (hc : cloX13_differ G K wT) {x1 : Int32} {x2 : Int32} {x3 : Int32} {o4 : Option Value} {x5 : Int32} {x6 : Int32} {x7 : Int32} {x8 : Int32} {x9 : Int32} {s1 : Int32} {s2 : Int32} {s3 : Int32} {M : Mem} (hW : Wf M) (h : (vp_in (x5 + x8) 3864) ∧ sp_X13_areSame [.ref 605, .int s1, .int s2, .int s3, .int (gI M 637 (x5 + x8).toNatClampNeg), .int x9] M (fun v M' => RX13_differ_138_7 G K [some (.ref 605), some (.int x1), some (.int x2), some (.int x3), o4, some (.int x5), some (.int x6), some (.int x7), some (.int x8), some (.int x9)] (v.toList ++ []) M')) : G 138 [some (.ref 605), some (.int x1), some (.int x2), some (.int x3), o4, some (.int x5), some (.int x6), some (.int x7), some (.int x8), some (.int x9)] [.int s3, .int s2, .int s1, .ref 605] M :=
  (hc.2.2.2.2.2.2.2.2.2.2.2.2.2.1 _ _ _ (i_aload rfl (i_getR (okS hW Sk_605) (nv_605_55 hW) (i_iload rfl (i_iload rfl (i_iadd (i_iald hW Ss_637 h.1 (i_iload rfl (i_callV6 (Nat.le_of_ble_eq_true rfl) (okS hW Sk_605) h.2)))))))))
set_option maxRecDepth 100000 in
theorem rX13_differ_138_7 {G : Nat → KT} {K : RT} (hc : cloX13_differ G K wT) {x1 : Int32} {x2 : Int32} {x3 : Int32} {o4 : Option Value} {x5 : Int32} {x6 : Int32} {x7 : Int32} {o8 : Option Value} {o9 : Option Value} {y : Int32} {M : Mem} (hW : Wf M) (h : (y = 0 → G 18 [some (.ref 605), some (.int x1), some (.int x2), some (.int x3), some (.int (0 : Int32)), some (.int x5), some (.int x6), some (.int (x7 + (1 : Int32))), o8, o9] [] M) ∧ (¬ y = 0 → G 18 [some (.ref 605), some (.int x1), some (.int x2), some (.int x3), some (.int (1 : Int32)), some (.int x5), some (.int x6), some (.int (x7 + (1 : Int32))), o8, o9] [] M)) : RX13_differ_138_7 G K [some (.ref 605), some (.int x1), some (.int x2), some (.int x3), o4, some (.int x5), some (.int x6), some (.int x7), o8, o9] (Option.toList (some (.int y)) ++ []) M :=
  (i_rI (i_if_eq (fun q2280 => (hc.2.2.2.2.2.2.2.2.2.2.2.2.2.2.2.1 _ _ _ (i_ic (hc.2.2.2.2.2.2.2.2.2.2.2.2.2.2.2.2.1 _ _ _ (i_istore (Nat.le_of_ble_eq_true rfl) (hc.2.2.2.2.2.2.2.2.2.2.2.2.2.2.2.2.2.2.2.2.2.2.2.2.2.2.2.2.1 _ _ _ (i_iinc rfl (h.1 q2280)))))))) (fun q2280 => (hc.2.2.2.2.2.2.2.2.2.2.2.2.2.2.1 _ _ _ (i_ic (hc.2.2.2.2.2.2.2.2.2.2.2.2.2.2.2.2.1 _ _ _ (i_istore (Nat.le_of_ble_eq_true rfl) (hc.2.2.2.2.2.2.2.2.2.2.2.2.2.2.2.2.2.2.2.2.2.2.2.2.2.2.2.2.1 _ _ _ (i_iinc rfl (h.2 q2280))))))))))
theorem wX13_differ {x1 : Int32} {x2 : Int32} {x3 : Int32} {M : Mem} {K : RT} (hW : Wf M) (h : ∀ {G : Nat → KT}, cloX13_differ G K wT → G 18 [some (.ref 605), some (.int x1), some (.int x2), some (.int x3), some (.int (1 : Int32)), some (.int ((56 : Int32) * x1)), some (.int ((56 : Int32) * x2)), some (.int (0 : Int32)), none, none] [] M) : sp_X13_differ [.ref 605, .int x1, .int x2, .int x3] M K := by
  refine ⟨Nat.le_of_ble_eq_true rfl, fun G hc => ?_⟩
  rw [hW.1] at hc
  exact eX13_differ hc hW  (h hc)
def RX13_differs_61_2 (G : Nat → KT) (K : RT) : KT := (w_ic 1 (w_istore 3 (G 69)))
def RX13_differs_101_1 (G : Nat → KT) (K : RT) : KT := (w_if_eq (G 110) (G 108))
set_option maxRecDepth 100000 in
theorem eX13_differs {G : Nat → KT} {K : RT} (hc : cloX13_differs G K wT) {x1 : Int32} {x2 : Int32} {M : Mem} (hW : Wf M) (h : (¬ (P_X13_in (x1.toInt64) (-1 : Int64) (3 : Int64)) → K (some (.int (-1 : Int32))) (uI M 605 2 (0 : Int32))) ∧ ((P_X13_in (x1.toInt64) (-1 : Int64) (3 : Int64)) → ((¬ (P_X13_in (x2.toInt64) (-1 : Int64) (3 : Int64)) → K (some (.int (-1 : Int32))) (uI M 605 2 (0 : Int32))) ∧ ((P_X13_in (x2.toInt64) (-1 : Int64) (3 : Int64)) → ((x1 < 0 → G 46 [some (.ref 605), some (.int x1), some (.int x2), none] [] (uI M 605 2 (0 : Int32))) ∧ (¬ x1 < 0 → ((vp_in x1 4) ∧ (((gI M 640 (x1).toNatClampNeg) = 0 → K (some (.int (-1 : Int32))) (uI M 605 2 (0 : Int32))) ∧ (¬ (gI M 640 (x1).toNatClampNeg) = 0 → G 46 [some (.ref 605), some (.int x1), some (.int x2), none] [] (uI M 605 2 (0 : Int32))))))))))) : G 0 [some (.ref 605), some (.int x1), some (.int x2), none] [] M :=
  (hc.1 _ _ _ (i_aload rfl (i_ic (i_putI (okS hW Sk_605) (i_iload rfl (i_i2l (i_lc (i_lc (i_callS3 (Nat.le_of_ble_eq_true rfl) (c_X13_in hW  (i_rI (i_bI_eq (fun q2291 => (hc.2.2.2.2.2.2.1 _ _ _ (i_ic (i_iret hW.1 (h.1 q2291))))) (fun q2291 => (hc.2.1 _ _ _ (i_iload rfl (i_i2l (i_lc (i_lc (i_callS3 (Nat.le_of_ble_eq_true rfl) (c_X13_in hW  (i_rI (i_bI_eq (fun q2292 => (hc.2.2.2.2.2.2.1 _ _ _ (i_ic (i_iret hW.1 ((h.2 q2291).1 q2292))))) (fun q2292 => (hc.2.2.1 _ _ _ (i_iload rfl (i_if_lt (fun q2293 => (((h.2 q2291).2 q2292).1 q2293)) (fun q2293 => (hc.2.2.2.1 _ _ _ (i_aload rfl (i_getR (okS hW Sk_605) (nv_605_58 hW) (i_iload rfl (i_zaldE hW Ss_640 (rI_a (by decide)) (((h.2 q2291).2 q2292).2 q2293).1 (i_if_eq (fun q2294 => (hc.2.2.2.2.2.2.1 _ _ _ (i_ic (i_iret hW.1 ((((h.2 q2291).2 q2292).2 q2293).2.1 q2294))))) (fun q2294 => ((((h.2 q2291).2 q2292).2 q2293).2.2 q2294)))))))))))))))))))))))))))))))))))
set_option maxRecDepth 100000 in
theorem eX13_differs_46 {G : Nat → KT} {K : RT} (hc : cloX13_differs G K wT) {x1 : Int32} {x2 : Int32} {o3 : Option Value} {M : Mem} (hW : Wf M) (h : (x2 < 0 → sp_X13_save [.ref 605, .int (68 : Int32)] M (fun v M' => RX13_differs_61_2 G K [some (.ref 605), some (.int x1), some (.int x2), o3] (v.toList ++ []) M')) ∧ (¬ x2 < 0 → ((vp_in x2 4) ∧ ((¬ (gI M 640 (x2).toNatClampNeg) = 0 → sp_X13_save [.ref 605, .int (68 : Int32)] M (fun v M' => RX13_differs_61_2 G K [some (.ref 605), some (.int x1), some (.int x2), o3] (v.toList ++ []) M')) ∧ ((gI M 640 (x2).toNatClampNeg) = 0 → K (some (.int (-1 : Int32))) M))))) : G 46 [some (.ref 605), some (.int x1), some (.int x2), o3] [] M :=
  (hc.2.2.2.2.1 _ _ _ (i_iload rfl (i_if_lt (fun q2295 => (hc.2.2.2.2.2.2.2.1 _ _ _ (i_aload rfl (i_ic (i_callV2 (Nat.le_of_ble_eq_true rfl) (okS hW Sk_605) (h.1 q2295)))))) (fun q2295 => (hc.2.2.2.2.2.1 _ _ _ (i_aload rfl (i_getR (okS hW Sk_605) (nv_605_58 hW) (i_iload rfl (i_zald hW Ss_640 (h.2 q2295).1 (i_if_ne (fun q2296 => (hc.2.2.2.2.2.2.2.1 _ _ _ (i_aload rfl (i_ic (i_callV2 (Nat.le_of_ble_eq_true rfl) (okS hW Sk_605) ((h.2 q2295).2.1 q2296)))))) (fun q2296 => (hc.2.2.2.2.2.2.1 _ _ _ (i_ic (i_iret hW.1 ((h.2 q2295).2.2 q2296)))))))))))))))
set_option maxRecDepth 100000 in
theorem eX13_differs_69 {G : Nat → KT} {K : RT} (hc : cloX13_differs G K wT) {x1 : Int32} {x2 : Int32} {x3 : Int32} {M : Mem} (hW : Wf M) (h : ((5 : Int32) ≤ x3 → K (some (.int (0 : Int32))) M) ∧ (¬ (5 : Int32) ≤ x3 → ((0 ≤ x1 → G 88 [some (.ref 605), some (.int x1), some (.int x2), some (.int x3)] [.int ((64 : Int32) + x1), .ref 605] M) ∧ (¬ 0 ≤ x1 → G 88 [some (.ref 605), some (.int x1), some (.int x2), some (.int x3)] [.int (68 : Int32), .ref 605] M)))) : G 69 [some (.ref 605), some (.int x1), some (.int x2), some (.int x3)] [] M :=
  (hc.2.2.2.2.2.2.2.2.1 _ _ _ (i_iload rfl (i_ic (i_icmp_ge (fun q2297 => (hc.2.2.2.2.2.2.2.2.2.2.2.2.2.2.2.2.2.2 _ _ _ (i_ic (i_iret hW.1 (h.1 q2297))))) (fun q2297 => (hc.2.2.2.2.2.2.2.2.2.1 _ _ _ (i_aload rfl (i_iload rfl (i_if_ge (fun q2298 => (hc.2.2.2.2.2.2.2.2.2.2.2.1 _ _ _ (i_ic (i_iload rfl (i_iadd ((h.2 q2297).1 q2298)))))) (fun q2298 => (hc.2.2.2.2.2.2.2.2.2.2.1 _ _ _ (i_ic ((h.2 q2297).2 q2298)))))))))))))
set_option maxRecDepth 100000 in
theorem eX13_differs_88 {G : Nat → KT} {K : RT} (hc : cloX13_differs G K wT) {x1 : Int32} {x2 : Int32} {x3 : Int32} {s1 : Int32} {M : Mem} (hW : Wf M) (h : (0 ≤ x2 → sp_X13_differ [.ref 605, .int s1, .int ((64 : Int32) + x2), .int x3] M (fun v M' => RX13_differs_101_1 G K [some (.ref 605), some (.int x1), some (.int x2), some (.int x3)] (v.toList ++ []) M')) ∧ (¬ 0 ≤ x2 → sp_X13_differ [.ref 605, .int s1, .int (68 : Int32), .int x3] M (fun v M' => RX13_differs_101_1 G K [some (.ref 605), some (.int x1), some (.int x2), some (.int x3)] (v.toList ++ []) M'))) : G 88 [some (.ref 605), some (.int x1), some (.int x2), some (.int x3)] [.int s1, .ref 605] M :=
  (hc.2.2.2.2.2.2.2.2.2.2.2.2.1 _ _ _ (i_iload rfl (i_if_ge (fun q2299 => (hc.2.2.2.2.2.2.2.2.2.2.2.2.2.2.1 _ _ _ (i_ic (i_iload rfl (i_iadd (hc.2.2.2.2.2.2.2.2.2.2.2.2.2.2.2.1 _ _ _ (i_iload rfl (i_callV4 (Nat.le_of_ble_eq_true rfl) (okS hW Sk_605) (h.1 q2299))))))))) (fun q2299 => (hc.2.2.2.2.2.2.2.2.2.2.2.2.2.1 _ _ _ (i_ic (hc.2.2.2.2.2.2.2.2.2.2.2.2.2.2.2.1 _ _ _ (i_iload rfl (i_callV4 (Nat.le_of_ble_eq_true rfl) (okS hW Sk_605) (h.2 q2299))))))))))
set_option maxRecDepth 100000 in
theorem rX13_differs_61_2 {G : Nat → KT} {K : RT} (hc : cloX13_differs G K wT) {x1 : Int32} {x2 : Int32} {o3 : Option Value} {M : Mem} (hW : Wf M) (h : G 69 [some (.ref 605), some (.int x1), some (.int x2), some (.int (1 : Int32))] [] M) : RX13_differs_61_2 G K [some (.ref 605), some (.int x1), some (.int x2), o3] (Option.toList none ++ []) M :=
  (i_rN (i_ic (i_istore (Nat.le_of_ble_eq_true rfl) h)))
set_option maxRecDepth 100000 in
theorem rX13_differs_101_1 {G : Nat → KT} {K : RT} (hc : cloX13_differs G K wT) {x1 : Int32} {x2 : Int32} {x3 : Int32} {y : Int32} {M : Mem} (hW : Wf M) (h : (y = 0 → G 69 [some (.ref 605), some (.int x1), some (.int x2), some (.int (x3 + (1 : Int32)))] [] M) ∧ (¬ y = 0 → K (some (.int x3)) M)) : RX13_differs_101_1 G K [some (.ref 605), some (.int x1), some (.int x2), some (.int x3)] (Option.toList (some (.int y)) ++ []) M :=
  (i_rI (i_if_eq (fun q2300 => (hc.2.2.2.2.2.2.2.2.2.2.2.2.2.2.2.2.2.1 _ _ _ (i_iinc rfl (h.1 q2300)))) (fun q2300 => (hc.2.2.2.2.2.2.2.2.2.2.2.2.2.2.2.2.1 _ _ _ (i_iload rfl (i_iret hW.1 (h.2 q2300)))))))
theorem wX13_differs {x1 : Int32} {x2 : Int32} {M : Mem} {K : RT} (hW : Wf M) (h : ∀ {G : Nat → KT}, cloX13_differs G K wT → (¬ (P_X13_in (x1.toInt64) (-1 : Int64) (3 : Int64)) → K (some (.int (-1 : Int32))) (uI M 605 2 (0 : Int32))) ∧ ((P_X13_in (x1.toInt64) (-1 : Int64) (3 : Int64)) → ((¬ (P_X13_in (x2.toInt64) (-1 : Int64) (3 : Int64)) → K (some (.int (-1 : Int32))) (uI M 605 2 (0 : Int32))) ∧ ((P_X13_in (x2.toInt64) (-1 : Int64) (3 : Int64)) → ((x1 < 0 → G 46 [some (.ref 605), some (.int x1), some (.int x2), none] [] (uI M 605 2 (0 : Int32))) ∧ (¬ x1 < 0 → ((vp_in x1 4) ∧ (((gI M 640 (x1).toNatClampNeg) = 0 → K (some (.int (-1 : Int32))) (uI M 605 2 (0 : Int32))) ∧ (¬ (gI M 640 (x1).toNatClampNeg) = 0 → G 46 [some (.ref 605), some (.int x1), some (.int x2), none] [] (uI M 605 2 (0 : Int32))))))))))) : sp_X13_differs [.ref 605, .int x1, .int x2] M K := by
  refine ⟨Nat.le_of_ble_eq_true rfl, fun G hc => ?_⟩
  rw [hW.1] at hc
  exact eX13_differs hc hW  (h hc)
def RX13_count_89_1 (G : Nat → KT) (K : RT) : KT := (w_iret wT K)
set_option maxRecDepth 100000 in
theorem eX13_count {G : Nat → KT} {K : RT} (hc : cloX13_count G K wT) {x1 : Int32} {M : Mem} (hW : Wf M) (h : (x1 = 0 → K (some (.int (gI M 605 23))) (uI M 605 2 (0 : Int32))) ∧ (¬ x1 = 0 → ((x1 = 1 → K (some (.int ((gL M 605 45).toInt32))) (uI M 605 2 (0 : Int32))) ∧ (¬ x1 = 1 → ((x1 = 2 → K (some (.int ((gL M 605 46).toInt32))) (uI M 605 2 (0 : Int32))) ∧ (¬ x1 = 2 → ((x1 = 3 → sp_X13_elements [.ref 605] (uI M 605 2 (0 : Int32)) (fun v M' => RX13_count_89_1 G K [some (.ref 605), some (.int x1), some (.int (0 : Int32)), none] (v.toList ++ []) M')) ∧ (¬ x1 = 3 → ((x1 = 4 → K (some (.int (gI M 605 59))) (uI M 605 2 (0 : Int32))) ∧ (¬ x1 = 4 → ((x1 = 5 → K (some (.int (gI M 605 42))) (uI M 605 2 (0 : Int32))) ∧ (¬ x1 = 5 → ((x1 = 6 → K (some (.int (gI M 605 44))) (uI M 605 2 (0 : Int32))) ∧ (¬ x1 = 6 → ((x1 = 7 → (((gI M 605 47) = 0 → K (some (.int (0 : Int32))) (uI M 605 2 (0 : Int32))) ∧ (¬ (gI M 605 47) = 0 → K (some (.int (1 : Int32))) (uI M 605 2 (0 : Int32))))) ∧ (¬ x1 = 7 → ((x1 = 8 → G 124 [some (.ref 605), some (.int x1), some (.int (0 : Int32)), some (.int (0 : Int32))] [] (uI M 605 2 (0 : Int32))) ∧ (¬ x1 = 8 → ((x1 = 9 → G 157 [some (.ref 605), some (.int x1), some (.int (0 : Int32)), some (.int (0 : Int32))] [] (uI M 605 2 (0 : Int32))) ∧ (¬ x1 = 9 → ((x1 = 10 → K (some (.int (gI M 605 32))) (uI M 605 2 (0 : Int32))) ∧ (¬ x1 = 10 → ((x1 = 11 → K (some (.int (gI M 605 4))) (uI M 605 2 (0 : Int32))) ∧ (¬ x1 = 11 → K (some (.int (-1 : Int32))) (uI M 605 2 (0 : Int32)))))))))))))))))))))))))) : G 0 [some (.ref 605), some (.int x1), none, none] [] M :=
  (hc.1 _ _ _ (i_aload rfl (i_ic (i_putI (okS hW Sk_605) (i_ic (i_istore (Nat.le_of_ble_eq_true rfl) (i_iload rfl (And.intro (fun q2318 => (hc.2.1 _ _ _ (i_aload rfl (i_getIE (okS hW Sk_605) (rI_k (by decide)) (i_iret hW.1 (h.1 q2318)))))) (fun q2318 => (And.intro (fun q2319 => (hc.2.2.1 _ _ _ (i_aload rfl (i_getLE (okS hW Sk_605) rL_uI (i_l2i (i_iret hW.1 ((h.2 q2318).1 q2319))))))) (fun q2319 => (And.intro (fun q2320 => (hc.2.2.2.1 _ _ _ (i_aload rfl (i_getLE (okS hW Sk_605) rL_uI (i_l2i (i_iret hW.1 (((h.2 q2318).2 q2319).1 q2320))))))) (fun q2320 => (And.intro (fun q2321 => (hc.2.2.2.2.1 _ _ _ (i_aload rfl (i_callV1 (Nat.le_of_ble_eq_true rfl) (okS hW Sk_605) ((((h.2 q2318).2 q2319).2 q2320).1 q2321))))) (fun q2321 => (And.intro (fun q2322 => (hc.2.2.2.2.2.1 _ _ _ (i_aload rfl (i_getIE (okS hW Sk_605) (rI_k (by decide)) (i_iret hW.1 (((((h.2 q2318).2 q2319).2 q2320).2 q2321).1 q2322)))))) (fun q2322 => (And.intro (fun q2323 => (hc.2.2.2.2.2.2.1 _ _ _ (i_aload rfl (i_getIE (okS hW Sk_605) (rI_k (by decide)) (i_iret hW.1 ((((((h.2 q2318).2 q2319).2 q2320).2 q2321).2 q2322).1 q2323)))))) (fun q2323 => (And.intro (fun q2324 => (hc.2.2.2.2.2.2.2.1 _ _ _ (i_aload rfl (i_getIE (okS hW Sk_605) (rI_k (by decide)) (i_iret hW.1 (((((((h.2 q2318).2 q2319).2 q2320).2 q2321).2 q2322).2 q2323).1 q2324)))))) (fun q2324 => (And.intro (fun q2325 => (hc.2.2.2.2.2.2.2.2.1 _ _ _ (i_aload rfl (i_getI4E (okS hW Sk_605) (rI_k (by decide)) (i_if_eq (fun q2326 => (hc.2.2.2.2.2.2.2.2.2.2.1 _ _ _ (i_ic (hc.2.2.2.2.2.2.2.2.2.2.2.1 _ _ _ (i_iret hW.1 (((((((((h.2 q2318).2 q2319).2 q2320).2 q2321).2 q2322).2 q2323).2 q2324).1 q2325).1 q2326)))))) (fun q2326 => (hc.2.2.2.2.2.2.2.2.2.1 _ _ _ (i_ic (hc.2.2.2.2.2.2.2.2.2.2.2.1 _ _ _ (i_iret hW.1 (((((((((h.2 q2318).2 q2319).2 q2320).2 q2321).2 q2322).2 q2323).2 q2324).1 q2325).2 q2326))))))))))) (fun q2325 => (And.intro (fun q2327 => (hc.2.2.2.2.2.2.2.2.2.2.2.2.1 _ _ _ (i_ic (i_istore (Nat.le_of_ble_eq_true rfl) (((((((((h.2 q2318).2 q2319).2 q2320).2 q2321).2 q2322).2 q2323).2 q2324).2 q2325).1 q2327))))) (fun q2327 => (And.intro (fun q2328 => (hc.2.2.2.2.2.2.2.2.2.2.2.2.2.2.2.2.2.2.2.1 _ _ _ (i_ic (i_istore (Nat.le_of_ble_eq_true rfl) ((((((((((h.2 q2318).2 q2319).2 q2320).2 q2321).2 q2322).2 q2323).2 q2324).2 q2325).2 q2327).1 q2328))))) (fun q2328 => (And.intro (fun q2329 => (hc.2.2.2.2.2.2.2.2.2.2.2.2.2.2.2.2.2.2.2.2.2.2.2.2.2.2.1 _ _ _ (i_aload rfl (i_getIE (okS hW Sk_605) (rI_k (by decide)) (i_iret hW.1 (((((((((((h.2 q2318).2 q2319).2 q2320).2 q2321).2 q2322).2 q2323).2 q2324).2 q2325).2 q2327).2 q2328).1 q2329)))))) (fun q2329 => (And.intro (fun q2330 => (hc.2.2.2.2.2.2.2.2.2.2.2.2.2.2.2.2.2.2.2.2.2.2.2.2.2.2.2.1 _ _ _ (i_aload rfl (i_getIE (okS hW Sk_605) (rI_k (by decide)) (i_iret hW.1 ((((((((((((h.2 q2318).2 q2319).2 q2320).2 q2321).2 q2322).2 q2323).2 q2324).2 q2325).2 q2327).2 q2328).2 q2329).1 q2330)))))) (fun q2330 => (hc.2.2.2.2.2.2.2.2.2.2.2.2.2.2.2.2.2.2.2.2.2.2.2.2.2.2.2.2 _ _ _ (i_ic (i_iret hW.1 ((((((((((((h.2 q2318).2 q2319).2 q2320).2 q2321).2 q2322).2 q2323).2 q2324).2 q2325).2 q2327).2 q2328).2 q2329).2 q2330)))))))))))))))))))))))))))))))))))
set_option maxRecDepth 100000 in
theorem eX13_count_124 {G : Nat → KT} {K : RT} (hc : cloX13_count G K wT) {o1 : Option Value} {x2 : Int32} {x3 : Int32} {M : Mem} (hW : Wf M) (h : ((100 : Int32) ≤ x3 → K (some (.int x2)) M) ∧ (¬ (100 : Int32) ≤ x3 → ((vp_in x3 100) ∧ (((gI M 633 (x3).toNatClampNeg) = 0 → G 124 [some (.ref 605), (lk o1), some (.int (x2 + (0 : Int32))), some (.int (x3 + (1 : Int32)))] [] M) ∧ (¬ (gI M 633 (x3).toNatClampNeg) = 0 → G 124 [some (.ref 605), (lk o1), some (.int (x2 + (1 : Int32))), some (.int (x3 + (1 : Int32)))] [] M))))) : G 124 [some (.ref 605), o1, some (.int x2), some (.int x3)] [] M :=
  (hc.2.2.2.2.2.2.2.2.2.2.2.2.2.1 _ _ _ (i_iload rfl (i_ic (i_icmp_ge (fun q2331 => (hc.2.2.2.2.2.2.2.2.2.2.2.2.2.2.2.2.2.2.1 _ _ _ (i_iload rfl (i_iret hW.1 (h.1 q2331))))) (fun q2331 => (hc.2.2.2.2.2.2.2.2.2.2.2.2.2.2.1 _ _ _ (i_iload rfl (i_aload rfl (i_getR (okS hW Sk_605) (nv_605_51 hW) (i_iload rfl (i_zald hW Ss_633 (h.2 q2331).1 (i_if_eq (fun q2332 => (hc.2.2.2.2.2.2.2.2.2.2.2.2.2.2.2.2.1 _ _ _ (i_ic (hc.2.2.2.2.2.2.2.2.2.2.2.2.2.2.2.2.2.1 _ _ _ (i_iadd (i_istore (Nat.le_of_ble_eq_true rfl) (i_iinc rfl ((h.2 q2331).2.1 q2332)))))))) (fun q2332 => (hc.2.2.2.2.2.2.2.2.2.2.2.2.2.2.2.1 _ _ _ (i_ic (hc.2.2.2.2.2.2.2.2.2.2.2.2.2.2.2.2.2.1 _ _ _ (i_iadd (i_istore (Nat.le_of_ble_eq_true rfl) (i_iinc rfl ((h.2 q2331).2.2 q2332))))))))))))))))))))
set_option maxRecDepth 100000 in
theorem eX13_count_157 {G : Nat → KT} {K : RT} (hc : cloX13_count G K wT) {o1 : Option Value} {x2 : Int32} {x3 : Int32} {M : Mem} (hW : Wf M) (h : ((512 : Int32) ≤ x3 → K (some (.int x2)) M) ∧ (¬ (512 : Int32) ≤ x3 → ((vp_in x3 512) ∧ (((gI M 634 (x3).toNatClampNeg) = 0 → G 157 [some (.ref 605), (lk o1), some (.int (x2 + (0 : Int32))), some (.int (x3 + (1 : Int32)))] [] M) ∧ (¬ (gI M 634 (x3).toNatClampNeg) = 0 → G 157 [some (.ref 605), (lk o1), some (.int (x2 + (1 : Int32))), some (.int (x3 + (1 : Int32)))] [] M))))) : G 157 [some (.ref 605), o1, some (.int x2), some (.int x3)] [] M :=
  (hc.2.2.2.2.2.2.2.2.2.2.2.2.2.2.2.2.2.2.2.2.1 _ _ _ (i_iload rfl (i_ic (i_icmp_ge (fun q2333 => (hc.2.2.2.2.2.2.2.2.2.2.2.2.2.2.2.2.2.2.2.2.2.2.2.2.2.1 _ _ _ (i_iload rfl (i_iret hW.1 (h.1 q2333))))) (fun q2333 => (hc.2.2.2.2.2.2.2.2.2.2.2.2.2.2.2.2.2.2.2.2.2.1 _ _ _ (i_iload rfl (i_aload rfl (i_getR (okS hW Sk_605) (nv_605_52 hW) (i_iload rfl (i_zald hW Ss_634 (h.2 q2333).1 (i_if_eq (fun q2334 => (hc.2.2.2.2.2.2.2.2.2.2.2.2.2.2.2.2.2.2.2.2.2.2.2.1 _ _ _ (i_ic (hc.2.2.2.2.2.2.2.2.2.2.2.2.2.2.2.2.2.2.2.2.2.2.2.2.1 _ _ _ (i_iadd (i_istore (Nat.le_of_ble_eq_true rfl) (i_iinc rfl ((h.2 q2333).2.1 q2334)))))))) (fun q2334 => (hc.2.2.2.2.2.2.2.2.2.2.2.2.2.2.2.2.2.2.2.2.2.2.1 _ _ _ (i_ic (hc.2.2.2.2.2.2.2.2.2.2.2.2.2.2.2.2.2.2.2.2.2.2.2.2.1 _ _ _ (i_iadd (i_istore (Nat.le_of_ble_eq_true rfl) (i_iinc rfl ((h.2 q2333).2.2 q2334))))))))))))))))))))
set_option maxRecDepth 100000 in
theorem rX13_count_89_1 {G : Nat → KT} {K : RT} (hc : cloX13_count G K wT) {o0 : Option Value} {o1 : Option Value} {o2 : Option Value} {o3 : Option Value} {y : Int32} {M : Mem} (hW : Wf M) (h : K (some (.int y)) M) : RX13_count_89_1 G K [o0, o1, o2, o3] (Option.toList (some (.int y)) ++ []) M :=
  (i_rI (i_iret hW.1 h))
theorem wX13_count {x1 : Int32} {M : Mem} {K : RT} (hW : Wf M) (h : ∀ {G : Nat → KT}, cloX13_count G K wT → (x1 = 0 → K (some (.int (gI M 605 23))) (uI M 605 2 (0 : Int32))) ∧ (¬ x1 = 0 → ((x1 = 1 → K (some (.int ((gL M 605 45).toInt32))) (uI M 605 2 (0 : Int32))) ∧ (¬ x1 = 1 → ((x1 = 2 → K (some (.int ((gL M 605 46).toInt32))) (uI M 605 2 (0 : Int32))) ∧ (¬ x1 = 2 → ((x1 = 3 → sp_X13_elements [.ref 605] (uI M 605 2 (0 : Int32)) (fun v M' => RX13_count_89_1 G K [some (.ref 605), some (.int x1), some (.int (0 : Int32)), none] (v.toList ++ []) M')) ∧ (¬ x1 = 3 → ((x1 = 4 → K (some (.int (gI M 605 59))) (uI M 605 2 (0 : Int32))) ∧ (¬ x1 = 4 → ((x1 = 5 → K (some (.int (gI M 605 42))) (uI M 605 2 (0 : Int32))) ∧ (¬ x1 = 5 → ((x1 = 6 → K (some (.int (gI M 605 44))) (uI M 605 2 (0 : Int32))) ∧ (¬ x1 = 6 → ((x1 = 7 → (((gI M 605 47) = 0 → K (some (.int (0 : Int32))) (uI M 605 2 (0 : Int32))) ∧ (¬ (gI M 605 47) = 0 → K (some (.int (1 : Int32))) (uI M 605 2 (0 : Int32))))) ∧ (¬ x1 = 7 → ((x1 = 8 → G 124 [some (.ref 605), some (.int x1), some (.int (0 : Int32)), some (.int (0 : Int32))] [] (uI M 605 2 (0 : Int32))) ∧ (¬ x1 = 8 → ((x1 = 9 → G 157 [some (.ref 605), some (.int x1), some (.int (0 : Int32)), some (.int (0 : Int32))] [] (uI M 605 2 (0 : Int32))) ∧ (¬ x1 = 9 → ((x1 = 10 → K (some (.int (gI M 605 32))) (uI M 605 2 (0 : Int32))) ∧ (¬ x1 = 10 → ((x1 = 11 → K (some (.int (gI M 605 4))) (uI M 605 2 (0 : Int32))) ∧ (¬ x1 = 11 → K (some (.int (-1 : Int32))) (uI M 605 2 (0 : Int32)))))))))))))))))))))))))) : sp_X13_count [.ref 605, .int x1] M K := by
  refine ⟨Nat.le_of_ble_eq_true rfl, fun G hc => ?_⟩
  rw [hW.1] at hc
  exact eX13_count hc hW  (h hc)
set_option maxRecDepth 100000 in
theorem eX13_flowsTo {G : Nat → KT} {K : RT} (hc : cloX13_flowsTo G K wT) {x1 : Int32} {x2 : Int32} {M : Mem} (hW : Wf M) (h : (x2 < (gI M 605 23) → ((¬ (gI M 605 75) = 0 → ((vp_in x2 100) ∧ G 43 [some (.ref 605), some (.int x1), some (.int x2), some (.int (0 : Int32)), none, none] [] (uI (uI M 605 75 (1 : Int32)) 649 (x2).toNatClampNeg (1 : Int32)))) ∧ ((gI M 605 75) = 0 → ((vp_in x2 100) ∧ ((¬ (gI M 649 (x2).toNatClampNeg) = 0 → ((vp_in x2 100) ∧ G 43 [some (.ref 605), some (.int x1), some (.int x2), some (.int (0 : Int32)), none, none] [] (uI (uI M 605 75 (0 : Int32)) 649 (x2).toNatClampNeg (1 : Int32)))) ∧ ((gI M 649 (x2).toNatClampNeg) = 0 → ((vp_in x2 100) ∧ G 43 [some (.ref 605), some (.int x1), some (.int x2), some (.int (0 : Int32)), none, none] [] (uI (uI M 605 75 (1 : Int32)) 649 (x2).toNatClampNeg (1 : Int32))))))))) ∧ (¬ x2 < (gI M 605 23) → K none M)) : G 0 [some (.ref 605), some (.int x1), some (.int x2), none, none, none] [] M :=
  (hc.1 _ _ _ (i_iload rfl (i_aload rfl (i_getI (okS hW Sk_605) (i_icmp_lt (fun q2348 => (hc.2.2.1 _ _ _ (i_aload rfl (i_aload rfl (i_getI4 (okS hW Sk_605) (i_if_ne (fun q2349 => (hc.2.2.2.2.1 _ _ _ (i_ic (hc.2.2.2.2.2.2.1 _ _ _ (i_putZ (okS hW Sk_605) (by decide) (i_aload rfl (i_getR (okS hW Sk_605) (nv_605_74 hW) (i_iload rfl (i_ic (i_zast hW Ss_649 ((h.1 q2348).1 q2349).1 (i_ic (i_istore (Nat.le_of_ble_eq_true rfl) ((h.1 q2348).1 q2349).2)))))))))))) (fun q2349 => (hc.2.2.2.1 _ _ _ (i_aload rfl (i_getR (okS hW Sk_605) (nv_605_74 hW) (i_iload rfl (i_zald hW Ss_649 ((h.1 q2348).2 q2349).1 (i_if_ne (fun q2350 => (hc.2.2.2.2.2.1 _ _ _ (i_ic (hc.2.2.2.2.2.2.1 _ _ _ (i_putZ (okS hW Sk_605) (by decide) (i_aload rfl (i_getR (okS hW Sk_605) (nv_605_74 hW) (i_iload rfl (i_ic (i_zast hW Ss_649 (((h.1 q2348).2 q2349).2.1 q2350).1 (i_ic (i_istore (Nat.le_of_ble_eq_true rfl) (((h.1 q2348).2 q2349).2.1 q2350).2)))))))))))) (fun q2350 => (hc.2.2.2.2.1 _ _ _ (i_ic (hc.2.2.2.2.2.2.1 _ _ _ (i_putZ (okS hW Sk_605) (by decide) (i_aload rfl (i_getR (okS hW Sk_605) (nv_605_74 hW) (i_iload rfl (i_ic (i_zast hW Ss_649 (((h.1 q2348).2 q2349).2.2 q2350).1 (i_ic (i_istore (Nat.le_of_ble_eq_true rfl) (((h.1 q2348).2 q2349).2.2 q2350).2))))))))))))))))))))))))) (fun q2348 => (hc.2.1 _ _ _ (i_vret hW.1 (h.2 q2348)))))))))
set_option maxRecDepth 100000 in
theorem eX13_flowsTo_43 {G : Nat → KT} {K : RT} (hc : cloX13_flowsTo G K wT) {x1 : Int32} {x2 : Int32} {x3 : Int32} {o4 : Option Value} {o5 : Option Value} {M : Mem} (hW : Wf M) (h : ((1800 : Int32) ≤ x3 → K none M) ∧ (¬ (1800 : Int32) ≤ x3 → ((vp_in x1 100) ∧ ((¬ (gI M 618 (x1).toNatClampNeg) = 0 → G 78 [some (.ref 605), some (.int x1), some (.int x2), some (.int x3), o4, o5] [.int (0 : Int32)] M) ∧ ((gI M 618 (x1).toNatClampNeg) = 0 → ((q_X13_operandOf x1 (0 : Int32) M) ∧ ((¬ (x3 / (225 : Int32)) = (f_X13_operandOf x1 (0 : Int32) M) → G 78 [some (.ref 605), some (.int x1), some (.int x2), some (.int x3), o4, o5] [.int (0 : Int32)] M) ∧ ((x3 / (225 : Int32)) = (f_X13_operandOf x1 (0 : Int32) M) → G 78 [some (.ref 605), some (.int x1), some (.int x2), some (.int x3), o4, o5] [.int (1 : Int32)] M)))))))) : G 43 [some (.ref 605), some (.int x1), some (.int x2), some (.int x3), o4, o5] [] M :=
  (hc.2.2.2.2.2.2.2.1 _ _ _ (i_iload rfl (i_ic (i_icmp_ge (fun q2351 => (hc.2.2.2.2.2.2.2.2.2.2.2.2.2.2.2.2.2.2.2.2.2.2.2.2.2.2.2 _ _ _ (i_vret hW.1 (h.1 q2351)))) (fun q2351 => (hc.2.2.2.2.2.2.2.2.1 _ _ _ (i_aload rfl (i_getR (okS hW Sk_605) (nv_605_24 hW) (i_iload rfl (i_iald hW Ss_618 (h.2 q2351).1 (i_if_ne (fun q2352 => (hc.2.2.2.2.2.2.2.2.2.2.2.1 _ _ _ (i_ic ((h.2 q2351).2.1 q2352)))) (fun q2352 => (hc.2.2.2.2.2.2.2.2.2.1 _ _ _ (i_iload rfl (i_ic (i_idiv (by decide) (i_aload rfl (i_iload rfl (i_ic (i_callV3 (Nat.le_of_ble_eq_true rfl) (okS hW Sk_605) (c_X13_operandOf hW  ((h.2 q2351).2.2 q2352).1 (i_rI (i_icmp_ne (fun q2353 => (hc.2.2.2.2.2.2.2.2.2.2.2.1 _ _ _ (i_ic (((h.2 q2351).2.2 q2352).2.1 q2353)))) (fun q2353 => (hc.2.2.2.2.2.2.2.2.2.2.1 _ _ _ (i_ic (((h.2 q2351).2.2 q2352).2.2 q2353)))))))))))))))))))))))))))
set_option maxRecDepth 100000 in
theorem eX13_flowsTo_78 {G : Nat → KT} {K : RT} (hc : cloX13_flowsTo G K wT) {x1 : Int32} {x2 : Int32} {x3 : Int32} {o4 : Option Value} {o5 : Option Value} {s0 : Int32} {M : Mem} (hW : Wf M) (h : (s0 = 0 → ((vp_in (((1800 : Int32) * x1) + x3) 180000) ∧ G 133 [some (.ref 605), some (.int x1), some (.int x2), some (.int x3), some (.int s0), o5] [.int (gI M 648 (((1800 : Int32) * x1) + x3).toNatClampNeg)] M)) ∧ (¬ s0 = 0 → ((q_X13_operandOf x1 (1 : Int32) M) ∧ ((q_X13_operandOf x1 (2 : Int32) M) ∧ ((¬ (x3 - x3 / (225 : Int32) * (225 : Int32)) = ((((1 : Int32) + ((32 : Int32) * (f_X13_operandOf x1 (1 : Int32) M))) + (f_X13_operandOf x1 (2 : Int32) M)) - (1 : Int32)) → G 133 [some (.ref 605), some (.int x1), some (.int x2), some (.int x3), some (.int s0), o5] [.int (0 : Int32)] M) ∧ ((x3 - x3 / (225 : Int32) * (225 : Int32)) = ((((1 : Int32) + ((32 : Int32) * (f_X13_operandOf x1 (1 : Int32) M))) + (f_X13_operandOf x1 (2 : Int32) M)) - (1 : Int32)) → G 133 [some (.ref 605), some (.int x1), some (.int x2), some (.int x3), some (.int s0), o5] [.int (1 : Int32)] M)))))) : G 78 [some (.ref 605), some (.int x1), some (.int x2), some (.int x3), o4, o5] [.int s0] M :=
  (hc.2.2.2.2.2.2.2.2.2.2.2.2.1 _ _ _ (i_istore (Nat.le_of_ble_eq_true rfl) (i_iload rfl (i_if_eq (fun q2354 => (hc.2.2.2.2.2.2.2.2.2.2.2.2.2.2.2.2.1 _ _ _ (i_aload rfl (i_getR (okS hW Sk_605) (nv_605_73 hW) (i_ic (i_iload rfl (i_imul (i_iload rfl (i_iadd (i_zald hW Ss_648 (h.1 q2354).1 (h.1 q2354).2)))))))))) (fun q2354 => (hc.2.2.2.2.2.2.2.2.2.2.2.2.2.1 _ _ _ (i_iload rfl (i_ic (i_irem (by decide) (i_ic (i_ic (i_aload rfl (i_iload rfl (i_ic (i_callV3 (Nat.le_of_ble_eq_true rfl) (okS hW Sk_605) (c_X13_operandOf hW  (h.2 q2354).1 (i_rI (i_imul (i_iadd (i_aload rfl (i_iload rfl (i_ic (i_callV3 (Nat.le_of_ble_eq_true rfl) (okS hW Sk_605) (c_X13_operandOf hW  (h.2 q2354).2.1 (i_rI (i_iadd (i_ic (i_isub (i_icmp_ne (fun q2355 => (hc.2.2.2.2.2.2.2.2.2.2.2.2.2.2.2.1 _ _ _ (i_ic ((h.2 q2354).2.2.1 q2355)))) (fun q2355 => (hc.2.2.2.2.2.2.2.2.2.2.2.2.2.2.1 _ _ _ (i_ic ((h.2 q2354).2.2.2 q2355)))))))))))))))))))))))))))))))))
set_option maxRecDepth 100000 in
theorem eX13_flowsTo_133 {G : Nat → KT} {K : RT} (hc : cloX13_flowsTo G K wT) {x1 : Int32} {x2 : Int32} {x3 : Int32} {o4 : Option Value} {o5 : Option Value} {s0 : Int32} {M : Mem} (hW : Wf M) (h : (¬ (gI M 605 75) = 0 → G 168 [some (.ref 605), some (.int x1), some (.int x2), some (.int x3), (lk o4), some (.int s0)] [.int (1 : Int32), .ref 605] M) ∧ ((gI M 605 75) = 0 → ((s0 = 0 → G 168 [some (.ref 605), some (.int x1), some (.int x2), some (.int x3), (lk o4), some (.int s0)] [.int (0 : Int32), .ref 605] M) ∧ (¬ s0 = 0 → ((vp_in (((1800 : Int32) * x2) + x3) 180000) ∧ ((¬ (gI M 648 (((1800 : Int32) * x2) + x3).toNatClampNeg) = 0 → G 168 [some (.ref 605), some (.int x1), some (.int x2), some (.int x3), (lk o4), some (.int s0)] [.int (0 : Int32), .ref 605] M) ∧ ((gI M 648 (((1800 : Int32) * x2) + x3).toNatClampNeg) = 0 → G 168 [some (.ref 605), some (.int x1), some (.int x2), some (.int x3), (lk o4), some (.int s0)] [.int (1 : Int32), .ref 605] M))))))) : G 133 [some (.ref 605), some (.int x1), some (.int x2), some (.int x3), o4, o5] [.int s0] M :=
  (hc.2.2.2.2.2.2.2.2.2.2.2.2.2.2.2.2.2.1 _ _ _ (i_istore (Nat.le_of_ble_eq_true rfl) (i_aload rfl (i_aload rfl (i_getI4 (okS hW Sk_605) (i_if_ne (fun q2356 => (hc.2.2.2.2.2.2.2.2.2.2.2.2.2.2.2.2.2.2.2.2.1 _ _ _ (i_ic (h.1 q2356)))) (fun q2356 => (hc.2.2.2.2.2.2.2.2.2.2.2.2.2.2.2.2.2.2.1 _ _ _ (i_iload rfl (i_if_eq (fun q2357 => (hc.2.2.2.2.2.2.2.2.2.2.2.2.2.2.2.2.2.2.2.2.2.1 _ _ _ (i_ic ((h.2 q2356).1 q2357)))) (fun q2357 => (hc.2.2.2.2.2.2.2.2.2.2.2.2.2.2.2.2.2.2.2.1 _ _ _ (i_aload rfl (i_getR (okS hW Sk_605) (nv_605_73 hW) (i_ic (i_iload rfl (i_imul (i_iload rfl (i_iadd (i_zald hW Ss_648 ((h.2 q2356).2 q2357).1 (i_if_ne (fun q2358 => (hc.2.2.2.2.2.2.2.2.2.2.2.2.2.2.2.2.2.2.2.2.2.1 _ _ _ (i_ic (((h.2 q2356).2 q2357).2.1 q2358)))) (fun q2358 => (hc.2.2.2.2.2.2.2.2.2.2.2.2.2.2.2.2.2.2.2.2.1 _ _ _ (i_ic (((h.2 q2356).2 q2357).2.2 q2358)))))))))))))))))))))))))
set_option maxRecDepth 100000 in
theorem eX13_flowsTo_168 {G : Nat → KT} {K : RT} (hc : cloX13_flowsTo G K wT) {x1 : Int32} {x2 : Int32} {x3 : Int32} {o4 : Option Value} {x5 : Int32} {s1 : Int32} {M : Mem} (hW : Wf M) (h : (s1 = 0 ∨ s1 = 1) ∧ ((vp_in (((1800 : Int32) * x2) + x3) 180000) ∧ ((¬ (gI M 648 (((1800 : Int32) * x2) + x3).toNatClampNeg) = 0 → ((vp_in (((1800 : Int32) * x2) + x3) 180000) ∧ G 43 [some (.ref 605), some (.int x1), some (.int x2), some (.int (x3 + (1 : Int32))), o4, some (.int x5)] [] (uI (uI M 605 75 s1) 648 (((1800 : Int32) * x2) + x3).toNatClampNeg (1 : Int32)))) ∧ ((gI M 648 (((1800 : Int32) * x2) + x3).toNatClampNeg) = 0 → ((x5 = 0 → ((vp_in (((1800 : Int32) * x2) + x3) 180000) ∧ G 43 [some (.ref 605), some (.int x1), some (.int x2), some (.int (x3 + (1 : Int32))), o4, some (.int x5)] [] (uI (uI M 605 75 s1) 648 (((1800 : Int32) * x2) + x3).toNatClampNeg (0 : Int32)))) ∧ (¬ x5 = 0 → ((vp_in (((1800 : Int32) * x2) + x3) 180000) ∧ G 43 [some (.ref 605), some (.int x1), some (.int x2), some (.int (x3 + (1 : Int32))), o4, some (.int x5)] [] (uI (uI M 605 75 s1) 648 (((1800 : Int32) * x2) + x3).toNatClampNeg (1 : Int32))))))))) : G 168 [some (.ref 605), some (.int x1), some (.int x2), some (.int x3), o4, some (.int x5)] [.int s1, .ref 605] M :=
  (hc.2.2.2.2.2.2.2.2.2.2.2.2.2.2.2.2.2.2.2.2.2.2.1 _ _ _ (i_putZ (okS hW Sk_605) h.1 (i_aload rfl (i_getR (okS hW Sk_605) (nv_605_73 hW) (i_ic (i_iload rfl (i_imul (i_iload rfl (i_iadd (i_aload rfl (i_getR (okS hW Sk_605) (nv_605_73 hW) (i_ic (i_iload rfl (i_imul (i_iload rfl (i_iadd (i_zaldE hW Ss_648 (rI_a (by decide)) h.2.1 (i_if_ne (fun q2359 => (hc.2.2.2.2.2.2.2.2.2.2.2.2.2.2.2.2.2.2.2.2.2.2.2.2.1 _ _ _ (i_ic (hc.2.2.2.2.2.2.2.2.2.2.2.2.2.2.2.2.2.2.2.2.2.2.2.2.2.2.1 _ _ _ (i_zast hW Ss_648 (h.2.2.1 q2359).1 (i_iinc rfl (h.2.2.1 q2359).2)))))) (fun q2359 => (hc.2.2.2.2.2.2.2.2.2.2.2.2.2.2.2.2.2.2.2.2.2.2.2.1 _ _ _ (i_iload rfl (i_if_eq (fun q2360 => (hc.2.2.2.2.2.2.2.2.2.2.2.2.2.2.2.2.2.2.2.2.2.2.2.2.2.1 _ _ _ (i_ic (hc.2.2.2.2.2.2.2.2.2.2.2.2.2.2.2.2.2.2.2.2.2.2.2.2.2.2.1 _ _ _ (i_zast hW Ss_648 ((h.2.2.2 q2359).1 q2360).1 (i_iinc rfl ((h.2.2.2 q2359).1 q2360).2)))))) (fun q2360 => (hc.2.2.2.2.2.2.2.2.2.2.2.2.2.2.2.2.2.2.2.2.2.2.2.2.1 _ _ _ (i_ic (hc.2.2.2.2.2.2.2.2.2.2.2.2.2.2.2.2.2.2.2.2.2.2.2.2.2.2.1 _ _ _ (i_zast hW Ss_648 ((h.2.2.2 q2359).2 q2360).1 (i_iinc rfl ((h.2.2.2 q2359).2 q2360).2))))))))))))))))))))))))))))
theorem wX13_flowsTo {x1 : Int32} {x2 : Int32} {M : Mem} {K : RT} (hW : Wf M) (h : ∀ {G : Nat → KT}, cloX13_flowsTo G K wT → (x2 < (gI M 605 23) → ((¬ (gI M 605 75) = 0 → ((vp_in x2 100) ∧ G 43 [some (.ref 605), some (.int x1), some (.int x2), some (.int (0 : Int32)), none, none] [] (uI (uI M 605 75 (1 : Int32)) 649 (x2).toNatClampNeg (1 : Int32)))) ∧ ((gI M 605 75) = 0 → ((vp_in x2 100) ∧ ((¬ (gI M 649 (x2).toNatClampNeg) = 0 → ((vp_in x2 100) ∧ G 43 [some (.ref 605), some (.int x1), some (.int x2), some (.int (0 : Int32)), none, none] [] (uI (uI M 605 75 (0 : Int32)) 649 (x2).toNatClampNeg (1 : Int32)))) ∧ ((gI M 649 (x2).toNatClampNeg) = 0 → ((vp_in x2 100) ∧ G 43 [some (.ref 605), some (.int x1), some (.int x2), some (.int (0 : Int32)), none, none] [] (uI (uI M 605 75 (1 : Int32)) 649 (x2).toNatClampNeg (1 : Int32))))))))) ∧ (¬ x2 < (gI M 605 23) → K none M)) : sp_X13_flowsTo [.ref 605, .int x1, .int x2] M K := by
  refine ⟨Nat.le_of_ble_eq_true rfl, fun G hc => ?_⟩
  rw [hW.1] at hc
  exact eX13_flowsTo hc hW  (h hc)
def RX13_flowsOn_14_6 (G : Nat → KT) (K : RT) : KT := (G 25)
def RX13_flowsOn_107_5 (G : Nat → KT) (K : RT) : KT := (G 115)
def RX13_flowsOn_57_5 (G : Nat → KT) (K : RT) : KT := (G 65)
set_option maxRecDepth 100000 in
theorem eX13_flowsOn {G : Nat → KT} {K : RT} (hc : cloX13_flowsOn G K wT) {x1 : Int32} {M : Mem} (hW : Wf M) (h : (vp_in x1 100) ∧ (∀ y1 : Int32, y1 = (f_X13_leads (gI M 618 (x1).toNatClampNeg)) → (y1 < 0 → G 25 [some (.ref 605), some (.int x1), some (.int y1), none] [] M) ∧ (¬ y1 < 0 → ((q_X13_operandOf x1 y1 M) ∧ sp_X13_flowsTo [.ref 605, .int x1, .int (f_X13_operandOf x1 y1 M)] M (fun v M' => RX13_flowsOn_14_6 G K [some (.ref 605), some (.int x1), some (.int y1), none] (v.toList ++ []) M'))))) : G 0 [some (.ref 605), some (.int x1), none, none] [] M :=
  (hc.1 _ _ _ (i_aload rfl (i_getR (okS hW Sk_605) (nv_605_24 hW) (i_iload rfl (i_iald hW Ss_618 h.1 (i_callS1 (Nat.le_of_ble_eq_true rfl) (c_X13_leads hW  (i_rI (i_istore (Nat.le_of_ble_eq_true rfl) (i_iload rfl (i_if_lt (fun q2368 => ((h.2 _ rfl).1 q2368)) (fun q2368 => (hc.2.1 _ _ _ (i_aload rfl (i_iload rfl (i_aload rfl (i_iload rfl (i_iload rfl (i_callV3 (Nat.le_of_ble_eq_true rfl) (okS hW Sk_605) (c_X13_operandOf hW  ((h.2 _ rfl).2 q2368).1 (i_rI (i_callV3 (Nat.le_of_ble_eq_true rfl) (okS hW Sk_605) ((h.2 _ rfl).2 q2368).2))))))))))))))))))))))
set_option maxRecDepth 100000 in
theorem eX13_flowsOn_25 {G : Nat → KT} {K : RT} (hc : cloX13_flowsOn G K wT) {x1 : Int32} {o2 : Option Value} {o3 : Option Value} {M : Mem} (hW : Wf M) (h : (vp_in x1 100) ∧ ((¬ (gI M 618 (x1).toNatClampNeg) = (66 : Int32) → ((vp_in x1 100) ∧ (((gI M 618 (x1).toNatClampNeg) = (59 : Int32) → K none M) ∧ (¬ (gI M 618 (x1).toNatClampNeg) = (59 : Int32) → ((vp_in x1 100) ∧ (((gI M 618 (x1).toNatClampNeg) = (65 : Int32) → K none M) ∧ (¬ (gI M 618 (x1).toNatClampNeg) = (65 : Int32) → ((vp_in x1 100) ∧ (((gI M 618 (x1).toNatClampNeg) = (67 : Int32) → K none M) ∧ (¬ (gI M 618 (x1).toNatClampNeg) = (67 : Int32) → sp_X13_flowsTo [.ref 605, .int x1, .int (x1 + (1 : Int32))] M (fun v M' => RX13_flowsOn_107_5 G K [some (.ref 605), some (.int x1), o2, o3] (v.toList ++ []) M'))))))))))) ∧ ((gI M 618 (x1).toNatClampNeg) = (66 : Int32) → G 38 [some (.ref 605), some (.int x1), (lk o2), some (.int (0 : Int32))] [] M))) : G 25 [some (.ref 605), some (.int x1), o2, o3] [] M :=
  (hc.2.2.1 _ _ _ (i_aload rfl (i_getR (okS hW Sk_605) (nv_605_24 hW) (i_iload rfl (i_iald hW Ss_618 h.1 (i_ic (i_icmp_ne (fun q2369 => (hc.2.2.2.2.2.2.2.2.2.1 _ _ _ (i_aload rfl (i_getR (okS hW Sk_605) (nv_605_24 hW) (i_iload rfl (i_iald hW Ss_618 (h.2.1 q2369).1 (i_ic (i_icmp_eq (fun q2370 => (hc.2.2.2.2.2.2.2.2.2.2.2.2.2 _ _ _ (i_vret hW.1 ((h.2.1 q2369).2.1 q2370)))) (fun q2370 => (hc.2.2.2.2.2.2.2.2.2.2.1 _ _ _ (i_aload rfl (i_getR (okS hW Sk_605) (nv_605_24 hW) (i_iload rfl (i_iald hW Ss_618 ((h.2.1 q2369).2.2 q2370).1 (i_ic (i_icmp_eq (fun q2371 => (hc.2.2.2.2.2.2.2.2.2.2.2.2.2 _ _ _ (i_vret hW.1 (((h.2.1 q2369).2.2 q2370).2.1 q2371)))) (fun q2371 => (hc.2.2.2.2.2.2.2.2.2.2.2.1 _ _ _ (i_aload rfl (i_getR (okS hW Sk_605) (nv_605_24 hW) (i_iload rfl (i_iald hW Ss_618 (((h.2.1 q2369).2.2 q2370).2.2 q2371).1 (i_ic (i_icmp_eq (fun q2372 => (hc.2.2.2.2.2.2.2.2.2.2.2.2.2 _ _ _ (i_vret hW.1 ((((h.2.1 q2369).2.2 q2370).2.2 q2371).2.1 q2372)))) (fun q2372 => (hc.2.2.2.2.2.2.2.2.2.2.2.2.1 _ _ _ (i_aload rfl (i_iload rfl (i_iload rfl (i_ic (i_iadd (i_callV3 (Nat.le_of_ble_eq_true rfl) (okS hW Sk_605) ((((h.2.1 q2369).2.2 q2370).2.2 q2371).2.2 q2372))))))))))))))))))))))))))))))))) (fun q2369 => (hc.2.2.2.1 _ _ _ (i_ic (i_istore (Nat.le_of_ble_eq_true rfl) (h.2.2 q2369))))))))))))
set_option maxRecDepth 100000 in
theorem eX13_flowsOn_38 {G : Nat → KT} {K : RT} (hc : cloX13_flowsOn G K wT) {x1 : Int32} {o2 : Option Value} {x3 : Int32} {M : Mem} (hW : Wf M) (h : ((gI M 605 23) ≤ x3 → K none M) ∧ (¬ (gI M 605 23) ≤ x3 → ((vp_in x3 100) ∧ ((¬ (gI M 618 (x3).toNatClampNeg) = (65 : Int32) → G 38 [some (.ref 605), some (.int x1), (lk o2), some (.int (x3 + (1 : Int32)))] [] M) ∧ ((gI M 618 (x3).toNatClampNeg) = (65 : Int32) → sp_X13_flowsTo [.ref 605, .int x1, .int (x3 + (1 : Int32))] M (fun v M' => RX13_flowsOn_57_5 G K [some (.ref 605), some (.int x1), o2, some (.int x3)] (v.toList ++ []) M')))))) : G 38 [some (.ref 605), some (.int x1), o2, some (.int x3)] [] M :=
  (hc.2.2.2.2.1 _ _ _ (i_iload rfl (i_aload rfl (i_getI (okS hW Sk_605) (i_icmp_ge (fun q2373 => (hc.2.2.2.2.2.2.2.2.1 _ _ _ (hc.2.2.2.2.2.2.2.2.2.2.2.2.2 _ _ _ (i_vret hW.1 (h.1 q2373))))) (fun q2373 => (hc.2.2.2.2.2.1 _ _ _ (i_aload rfl (i_getR (okS hW Sk_605) (nv_605_24 hW) (i_iload rfl (i_iald hW Ss_618 (h.2 q2373).1 (i_ic (i_icmp_ne (fun q2374 => (hc.2.2.2.2.2.2.2.1 _ _ _ (i_iinc rfl ((h.2 q2373).2.1 q2374)))) (fun q2374 => (hc.2.2.2.2.2.2.1 _ _ _ (i_aload rfl (i_iload rfl (i_iload rfl (i_ic (i_iadd (i_callV3 (Nat.le_of_ble_eq_true rfl) (okS hW Sk_605) ((h.2 q2373).2.2 q2374))))))))))))))))))))))
set_option maxRecDepth 100000 in
theorem rX13_flowsOn_14_6 {G : Nat → KT} {K : RT} (hc : cloX13_flowsOn G K wT) {x1 : Int32} {o2 : Option Value} {o3 : Option Value} {M : Mem} (hW : Wf M) (h : G 25 [some (.ref 605), some (.int x1), o2, o3] [] M) : RX13_flowsOn_14_6 G K [some (.ref 605), some (.int x1), o2, o3] (Option.toList none ++ []) M :=
  (i_rN h)
set_option maxRecDepth 100000 in
theorem rX13_flowsOn_107_5 {G : Nat → KT} {K : RT} (hc : cloX13_flowsOn G K wT) {o0 : Option Value} {o1 : Option Value} {o2 : Option Value} {o3 : Option Value} {M : Mem} (hW : Wf M) (h : K none M) : RX13_flowsOn_107_5 G K [o0, o1, o2, o3] (Option.toList none ++ []) M :=
  (i_rN (hc.2.2.2.2.2.2.2.2.2.2.2.2.2 _ _ _ (i_vret hW.1 h)))
set_option maxRecDepth 100000 in
theorem rX13_flowsOn_57_5 {G : Nat → KT} {K : RT} (hc : cloX13_flowsOn G K wT) {x1 : Int32} {o2 : Option Value} {x3 : Int32} {M : Mem} (hW : Wf M) (h : G 38 [some (.ref 605), some (.int x1), (lk o2), some (.int (x3 + (1 : Int32)))] [] M) : RX13_flowsOn_57_5 G K [some (.ref 605), some (.int x1), o2, some (.int x3)] (Option.toList none ++ []) M :=
  (i_rN (hc.2.2.2.2.2.2.2.1 _ _ _ (i_iinc rfl h)))
theorem wX13_flowsOn {x1 : Int32} {M : Mem} {K : RT} (hW : Wf M) (h : ∀ {G : Nat → KT}, cloX13_flowsOn G K wT → (vp_in x1 100) ∧ (∀ y1 : Int32, y1 = (f_X13_leads (gI M 618 (x1).toNatClampNeg)) → (y1 < 0 → G 25 [some (.ref 605), some (.int x1), some (.int y1), none] [] M) ∧ (¬ y1 < 0 → ((q_X13_operandOf x1 y1 M) ∧ sp_X13_flowsTo [.ref 605, .int x1, .int (f_X13_operandOf x1 y1 M)] M (fun v M' => RX13_flowsOn_14_6 G K [some (.ref 605), some (.int x1), some (.int y1), none] (v.toList ++ []) M'))))) : sp_X13_flowsOn [.ref 605, .int x1] M K := by
  refine ⟨Nat.le_of_ble_eq_true rfl, fun G hc => ?_⟩
  rw [hW.1] at hc
  exact eX13_flowsOn hc hW  (h hc)
def RX13_findFlow_139_2 (G : Nat → KT) (K : RT) : KT := (G 144)
set_option maxRecDepth 100000 in
theorem eX13_findFlow {G : Nat → KT} {K : RT} (hc : cloX13_findFlow G K wT) {M : Mem} (hW : Wf M) (h : ((gI M 605 33) = 0 → G 15 [some (.ref 605), some (.int (0 : Int32))] [] (uI M 605 33 (1 : Int32))) ∧ (¬ (gI M 605 33) = 0 → K none M)) : G 0 [some (.ref 605), none] [] M :=
  (hc.1 _ _ _ (i_aload rfl (i_getI4 (okS hW Sk_605) (i_if_eq (fun q2385 => (hc.2.2.1 _ _ _ (i_aload rfl (i_ic (i_putZ (okS hW Sk_605) (by decide) (i_ic (i_istore (Nat.le_of_ble_eq_true rfl) (h.1 q2385)))))))) (fun q2385 => (hc.2.1 _ _ _ (i_vret hW.1 (h.2 q2385))))))))
set_option maxRecDepth 100000 in
theorem eX13_findFlow_15 {G : Nat → KT} {K : RT} (hc : cloX13_findFlow G K wT) {x1 : Int32} {M : Mem} (hW : Wf M) (h : ((180000 : Int32) ≤ x1 → G 37 [some (.ref 605), some (.int (0 : Int32))] [] M) ∧ (¬ (180000 : Int32) ≤ x1 → ((vp_in x1 180000) ∧ G 15 [some (.ref 605), some (.int (x1 + (1 : Int32)))] [] (uI M 648 (x1).toNatClampNeg (0 : Int32))))) : G 15 [some (.ref 605), some (.int x1)] [] M :=
  (hc.2.2.2.1 _ _ _ (i_iload rfl (i_ic (i_icmp_ge (fun q2386 => (hc.2.2.2.2.2.1 _ _ _ (i_ic (i_istore (Nat.le_of_ble_eq_true rfl) (h.1 q2386))))) (fun q2386 => (hc.2.2.2.2.1 _ _ _ (i_aload rfl (i_getR (okS hW Sk_605) (nv_605_73 hW) (i_iload rfl (i_ic (i_zast hW Ss_648 (h.2 q2386).1 (i_iinc rfl (h.2 q2386).2))))))))))))
set_option maxRecDepth 100000 in
theorem eX13_findFlow_37 {G : Nat → KT} {K : RT} (hc : cloX13_findFlow G K wT) {x1 : Int32} {M : Mem} (hW : Wf M) (h : ((100 : Int32) ≤ x1 → G 73 [some (.ref 605), some (.int (0 : Int32))] [] M) ∧ (¬ (100 : Int32) ≤ x1 → ((¬ x1 = 0 → ((vp_in x1 100) ∧ G 37 [some (.ref 605), some (.int (x1 + (1 : Int32)))] [] (uI M 649 (x1).toNatClampNeg (0 : Int32)))) ∧ (x1 = 0 → (((gI M 605 23) ≤ 0 → ((vp_in x1 100) ∧ G 37 [some (.ref 605), some (.int (x1 + (1 : Int32)))] [] (uI M 649 (x1).toNatClampNeg (0 : Int32)))) ∧ (¬ (gI M 605 23) ≤ 0 → ((vp_in x1 100) ∧ G 37 [some (.ref 605), some (.int (x1 + (1 : Int32)))] [] (uI M 649 (x1).toNatClampNeg (1 : Int32))))))))) : G 37 [some (.ref 605), some (.int x1)] [] M :=
  (hc.2.2.2.2.2.2.1 _ _ _ (i_iload rfl (i_ic (i_icmp_ge (fun q2387 => (hc.2.2.2.2.2.2.2.2.2.2.2.2.1 _ _ _ (i_ic (i_istore (Nat.le_of_ble_eq_true rfl) (h.1 q2387))))) (fun q2387 => (hc.2.2.2.2.2.2.2.1 _ _ _ (i_aload rfl (i_getR (okS hW Sk_605) (nv_605_74 hW) (i_iload rfl (i_iload rfl (i_if_ne (fun q2388 => (hc.2.2.2.2.2.2.2.2.2.2.1 _ _ _ (i_ic (hc.2.2.2.2.2.2.2.2.2.2.2.1 _ _ _ (i_zast hW Ss_649 ((h.2 q2387).1 q2388).1 (i_iinc rfl ((h.2 q2387).1 q2388).2)))))) (fun q2388 => (hc.2.2.2.2.2.2.2.2.1 _ _ _ (i_aload rfl (i_getI (okS hW Sk_605) (i_if_le (fun q2389 => (hc.2.2.2.2.2.2.2.2.2.2.1 _ _ _ (i_ic (hc.2.2.2.2.2.2.2.2.2.2.2.1 _ _ _ (i_zast hW Ss_649 (((h.2 q2387).2 q2388).1 q2389).1 (i_iinc rfl (((h.2 q2387).2 q2388).1 q2389).2)))))) (fun q2389 => (hc.2.2.2.2.2.2.2.2.2.1 _ _ _ (i_ic (hc.2.2.2.2.2.2.2.2.2.2.2.1 _ _ _ (i_zast hW Ss_649 (((h.2 q2387).2 q2388).2 q2389).1 (i_iinc rfl (((h.2 q2387).2 q2388).2 q2389).2))))))))))))))))))))))
set_option maxRecDepth 100000 in
theorem eX13_findFlow_73 {G : Nat → KT} {K : RT} (hc : cloX13_findFlow G K wT) {x1 : Int32} {M : Mem} (hW : Wf M) (h : ((8 : Int32) ≤ x1 → G 108 [some (.ref 605), some (.int x1)] [] (uI M 605 75 (1 : Int32))) ∧ (¬ (8 : Int32) ≤ x1 → (((gI M 605 23) ≤ 0 → G 108 [some (.ref 605), some (.int x1)] [] (uI M 605 75 (1 : Int32))) ∧ (¬ (gI M 605 23) ≤ 0 → ((vp_in ((225 : Int32) * x1) 180000) ∧ G 73 [some (.ref 605), some (.int (x1 + (1 : Int32)))] [] (uI M 648 ((225 : Int32) * x1).toNatClampNeg (1 : Int32))))))) : G 73 [some (.ref 605), some (.int x1)] [] M :=
  (hc.2.2.2.2.2.2.2.2.2.2.2.2.2.1 _ _ _ (i_iload rfl (i_ic (i_icmp_ge (fun q2390 => (hc.2.2.2.2.2.2.2.2.2.2.2.2.2.2.2.2.1 _ _ _ (i_aload rfl (i_ic (i_putZ (okS hW Sk_605) (by decide) (h.1 q2390)))))) (fun q2390 => (hc.2.2.2.2.2.2.2.2.2.2.2.2.2.2.1 _ _ _ (i_aload rfl (i_getI (okS hW Sk_605) (i_if_le (fun q2391 => (hc.2.2.2.2.2.2.2.2.2.2.2.2.2.2.2.2.1 _ _ _ (i_aload rfl (i_ic (i_putZ (okS hW Sk_605) (by decide) ((h.2 q2390).1 q2391)))))) (fun q2391 => (hc.2.2.2.2.2.2.2.2.2.2.2.2.2.2.2.1 _ _ _ (i_aload rfl (i_getR (okS hW Sk_605) (nv_605_73 hW) (i_ic (i_iload rfl (i_imul (i_ic (i_zast hW Ss_648 ((h.2 q2390).2 q2391).1 (i_iinc rfl ((h.2 q2390).2 q2391).2)))))))))))))))))))
set_option maxRecDepth 100000 in
theorem eX13_findFlow_108 {G : Nat → KT} {K : RT} (hc : cloX13_findFlow G K wT) {o1 : Option Value} {M : Mem} (hW : Wf M) (h : ((gI M 605 75) = 0 → K none M) ∧ (¬ (gI M 605 75) = 0 → G 122 [some (.ref 605), some (.int (0 : Int32))] [] (uI M 605 75 (0 : Int32)))) : G 108 [some (.ref 605), o1] [] M :=
  (hc.2.2.2.2.2.2.2.2.2.2.2.2.2.2.2.2.2.1 _ _ _ (i_aload rfl (i_getI4 (okS hW Sk_605) (i_if_eq (fun q2392 => (hc.2.2.2.2.2.2.2.2.2.2.2.2.2.2.2.2.2.2.2.2.2.2.2.2 _ _ _ (i_vret hW.1 (h.1 q2392)))) (fun q2392 => (hc.2.2.2.2.2.2.2.2.2.2.2.2.2.2.2.2.2.2.1 _ _ _ (i_aload rfl (i_ic (i_putZ (okS hW Sk_605) (by decide) (i_ic (i_istore (Nat.le_of_ble_eq_true rfl) (h.2 q2392))))))))))))
set_option maxRecDepth 100000 in
theorem eX13_findFlow_122 {G : Nat → KT} {K : RT} (hc : cloX13_findFlow G K wT) {x1 : Int32} {M : Mem} (hW : Wf M) (h : ((gI M 605 23) ≤ x1 → G 108 [some (.ref 605), some (.int x1)] [] M) ∧ (¬ (gI M 605 23) ≤ x1 → ((vp_in x1 100) ∧ (((gI M 649 (x1).toNatClampNeg) = 0 → G 122 [some (.ref 605), some (.int (x1 + (1 : Int32)))] [] M) ∧ (¬ (gI M 649 (x1).toNatClampNeg) = 0 → sp_X13_flowsOn [.ref 605, .int x1] M (fun v M' => RX13_findFlow_139_2 G K [some (.ref 605), some (.int x1)] (v.toList ++ []) M')))))) : G 122 [some (.ref 605), some (.int x1)] [] M :=
  (hc.2.2.2.2.2.2.2.2.2.2.2.2.2.2.2.2.2.2.2.1 _ _ _ (i_iload rfl (i_aload rfl (i_getI (okS hW Sk_605) (i_icmp_ge (fun q2393 => (hc.2.2.2.2.2.2.2.2.2.2.2.2.2.2.2.2.2.2.2.2.2.2.2.1 _ _ _ (h.1 q2393))) (fun q2393 => (hc.2.2.2.2.2.2.2.2.2.2.2.2.2.2.2.2.2.2.2.2.1 _ _ _ (i_aload rfl (i_getR (okS hW Sk_605) (nv_605_74 hW) (i_iload rfl (i_zald hW Ss_649 (h.2 q2393).1 (i_if_eq (fun q2394 => (hc.2.2.2.2.2.2.2.2.2.2.2.2.2.2.2.2.2.2.2.2.2.2.1 _ _ _ (i_iinc rfl ((h.2 q2393).2.1 q2394)))) (fun q2394 => (hc.2.2.2.2.2.2.2.2.2.2.2.2.2.2.2.2.2.2.2.2.2.1 _ _ _ (i_aload rfl (i_iload rfl (i_callV2 (Nat.le_of_ble_eq_true rfl) (okS hW Sk_605) ((h.2 q2393).2.2 q2394))))))))))))))))))
set_option maxRecDepth 100000 in
theorem rX13_findFlow_139_2 {G : Nat → KT} {K : RT} (hc : cloX13_findFlow G K wT) {x1 : Int32} {M : Mem} (hW : Wf M) (h : G 122 [some (.ref 605), some (.int (x1 + (1 : Int32)))] [] M) : RX13_findFlow_139_2 G K [some (.ref 605), some (.int x1)] (Option.toList none ++ []) M :=
  (i_rN (hc.2.2.2.2.2.2.2.2.2.2.2.2.2.2.2.2.2.2.2.2.2.2.1 _ _ _ (i_iinc rfl h)))
theorem wX13_findFlow {M : Mem} {K : RT} (hW : Wf M) (h : ∀ {G : Nat → KT}, cloX13_findFlow G K wT → ((gI M 605 33) = 0 → G 15 [some (.ref 605), some (.int (0 : Int32))] [] (uI M 605 33 (1 : Int32))) ∧ (¬ (gI M 605 33) = 0 → K none M)) : sp_X13_findFlow [.ref 605] M K := by
  refine ⟨Nat.le_of_ble_eq_true rfl, fun G hc => ?_⟩
  rw [hW.1] at hc
  exact eX13_findFlow hc hW  (h hc)
set_option maxRecDepth 100000 in
theorem eX13_mayBe {G : Nat → KT} {K : RT} (hc : cloX13_mayBe G K wT) {x1 : Int32} {x2 : Int32} {x3 : Int32} {M : Mem} (hW : Wf M) (h : (vp_in ((((1800 : Int32) * x1) + ((225 : Int32) * x2)) + x3) 180000) ∧ (((gI M 648 ((((1800 : Int32) * x1) + ((225 : Int32) * x2)) + x3).toNatClampNeg) = 0 ∨ (gI M 648 ((((1800 : Int32) * x1) + ((225 : Int32) * x2)) + x3).toNatClampNeg) = 1) ∧ K (some (.int (gI M 648 ((((1800 : Int32) * x1) + ((225 : Int32) * x2)) + x3).toNatClampNeg))) M)) : G 0 [some (.ref 605), some (.int x1), some (.int x2), some (.int x3)] [] M :=
  (hc _ _ _ (i_aload rfl (i_getR (okS hW Sk_605) (nv_605_73 hW) (i_ic (i_iload rfl (i_imul (i_ic (i_iload rfl (i_imul (i_iadd (i_iload rfl (i_iadd (i_zald hW Ss_648 h.1 (i_zret h.2.1 hW.1 h.2.2))))))))))))))
theorem wX13_mayBe {x1 : Int32} {x2 : Int32} {x3 : Int32} {M : Mem} {K : RT} (hW : Wf M) (h : (vp_in ((((1800 : Int32) * x1) + ((225 : Int32) * x2)) + x3) 180000) ∧ (((gI M 648 ((((1800 : Int32) * x1) + ((225 : Int32) * x2)) + x3).toNatClampNeg) = 0 ∨ (gI M 648 ((((1800 : Int32) * x1) + ((225 : Int32) * x2)) + x3).toNatClampNeg) = 1) ∧ K (some (.int (gI M 648 ((((1800 : Int32) * x1) + ((225 : Int32) * x2)) + x3).toNatClampNeg))) M)) : sp_X13_mayBe [.ref 605, .int x1, .int x2, .int x3] M K := by
  refine ⟨Nat.le_of_ble_eq_true rfl, fun G hc => ?_⟩
  rw [hW.1] at hc
  exact eX13_mayBe hc hW  h
noncomputable def f_X13_mayBe (x1 : Int32) (x2 : Int32) (x3 : Int32) (M : Mem) : Int32 := (gI M 648 ((((1800 : Int32) * x1) + ((225 : Int32) * x2)) + x3).toNatClampNeg)
def q_X13_mayBe (x1 : Int32) (x2 : Int32) (x3 : Int32) (M : Mem) : Prop := ((vp_in ((((1800 : Int32) * x1) + ((225 : Int32) * x2)) + x3) 180000) ∧ ((gI M 648 ((((1800 : Int32) * x1) + ((225 : Int32) * x2)) + x3).toNatClampNeg) = 0 ∨ (gI M 648 ((((1800 : Int32) * x1) + ((225 : Int32) * x2)) + x3).toNatClampNeg) = 1))
theorem c_X13_mayBe {x1 : Int32} {x2 : Int32} {x3 : Int32} {M : Mem} {K : RT} (hW : Wf M) (hp : q_X13_mayBe x1 x2 x3 M) (h : K (some (.int (f_X13_mayBe x1 x2 x3 M))) M) : sp_X13_mayBe [.ref 605, .int x1, .int x2, .int x3] M K := by
  refine wX13_mayBe hW  ?_
  unfold f_X13_mayBe at h
  unfold q_X13_mayBe at hp
  refine ⟨hp.1, ?_⟩
  refine ⟨hp.2, ?_⟩
  first | exact h | contradiction
set_option maxRecDepth 100000 in
theorem eX13_kindOf {G : Nat → KT} {K : RT} (hc : cloX13_kindOf G K wT) {x0 : Int32} {M : Mem} (hW : Wf M) (h : (¬ x0 = 0 → K (some (.int ((x0 - (1 : Int32)) / (32 : Int32)))) M) ∧ (x0 = 0 → K (some (.int (-1 : Int32))) M)) : G 0 [some (.int x0)] [] M :=
  (hc.1 _ _ _ (i_iload rfl (i_if_ne (fun q2395 => (hc.2.2.1 _ _ _ (i_iload rfl (i_ic (i_isub (i_ic (i_idiv (by decide) (hc.2.2.2 _ _ _ (i_iret hW.1 (h.1 q2395)))))))))) (fun q2395 => (hc.2.1 _ _ _ (i_ic (hc.2.2.2 _ _ _ (i_iret hW.1 (h.2 q2395)))))))))
theorem wX13_kindOf {x0 : Int32} {M : Mem} {K : RT} (hW : Wf M) (h : (¬ x0 = 0 → K (some (.int ((x0 - (1 : Int32)) / (32 : Int32)))) M) ∧ (x0 = 0 → K (some (.int (-1 : Int32))) M)) : sp_X13_kindOf [.int x0] M K := by
  refine ⟨Nat.le_of_ble_eq_true rfl, fun G hc => ?_⟩
  rw [hW.1] at hc
  exact eX13_kindOf hc hW  h
noncomputable def f_X13_kindOf (x0 : Int32) : Int32 := (if x0 = 0 then (-1 : Int32) else ((x0 - (1 : Int32)) / (32 : Int32)))
theorem c_X13_kindOf {x0 : Int32} {M : Mem} {K : RT} (hW : Wf M) (h : K (some (.int (f_X13_kindOf x0))) M) : sp_X13_kindOf [.int x0] M K := by
  refine wX13_kindOf hW  ?_
  unfold f_X13_kindOf at h
  refine ⟨fun q0 => ?_, fun q0 => ?_⟩
  · skip
    try simp only [if_neg q0] at h
    first | exact h | contradiction
  · skip
    try simp only [if_pos q0] at h
    first | exact h | contradiction
set_option maxRecDepth 100000 in
theorem eX13_lengthOf {G : Nat → KT} {K : RT} (hc : cloX13_lengthOf G K wT) {x0 : Int32} {M : Mem} (hW : Wf M) (h : (¬ x0 = 0 → K (some (.int (((x0 - (1 : Int32)) - (x0 - (1 : Int32)) / (32 : Int32) * (32 : Int32)) + (1 : Int32)))) M) ∧ (x0 = 0 → K (some (.int (0 : Int32))) M)) : G 0 [some (.int x0)] [] M :=
  (hc.1 _ _ _ (i_iload rfl (i_if_ne (fun q2396 => (hc.2.2.1 _ _ _ (i_iload rfl (i_ic (i_isub (i_ic (i_irem (by decide) (i_ic (i_iadd (hc.2.2.2 _ _ _ (i_iret hW.1 (h.1 q2396)))))))))))) (fun q2396 => (hc.2.1 _ _ _ (i_ic (hc.2.2.2 _ _ _ (i_iret hW.1 (h.2 q2396)))))))))
theorem wX13_lengthOf {x0 : Int32} {M : Mem} {K : RT} (hW : Wf M) (h : (¬ x0 = 0 → K (some (.int (((x0 - (1 : Int32)) - (x0 - (1 : Int32)) / (32 : Int32) * (32 : Int32)) + (1 : Int32)))) M) ∧ (x0 = 0 → K (some (.int (0 : Int32))) M)) : sp_X13_lengthOf [.int x0] M K := by
  refine ⟨Nat.le_of_ble_eq_true rfl, fun G hc => ?_⟩
  rw [hW.1] at hc
  exact eX13_lengthOf hc hW  h
noncomputable def f_X13_lengthOf (x0 : Int32) : Int32 := (if x0 = 0 then (0 : Int32) else (((x0 - (1 : Int32)) - (x0 - (1 : Int32)) / (32 : Int32) * (32 : Int32)) + (1 : Int32)))
theorem c_X13_lengthOf {x0 : Int32} {M : Mem} {K : RT} (hW : Wf M) (h : K (some (.int (f_X13_lengthOf x0))) M) : sp_X13_lengthOf [.int x0] M K := by
  refine wX13_lengthOf hW  ?_
  unfold f_X13_lengthOf at h
  refine ⟨fun q0 => ?_, fun q0 => ?_⟩
  · skip
    try simp only [if_neg q0] at h
    first | exact h | contradiction
  · skip
    try simp only [if_pos q0] at h
    first | exact h | contradiction
end D04
