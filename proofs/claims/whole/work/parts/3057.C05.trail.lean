section C05
theorem rI_uL {M : Mem} {a k b j : Nat} {x : Int64} : gI (uL M a k x) b j = gI M b j := rfl
theorem rI_uD {M : Mem} {a k b j : Nat} {x : UInt64} : gI (uD M a k x) b j = gI M b j := rfl
theorem rI_uR {M : Mem} {a k b j : Nat} {x : Option Nat} : gI (uR M a k x) b j = gI M b j := rfl
theorem rL_uI {M : Mem} {a k b j : Nat} {x : Int32} : gL (uI M a k x) b j = gL M b j := rfl
theorem rL_uD {M : Mem} {a k b j : Nat} {x : UInt64} : gL (uD M a k x) b j = gL M b j := rfl
theorem rL_uR {M : Mem} {a k b j : Nat} {x : Option Nat} : gL (uR M a k x) b j = gL M b j := rfl
theorem rD_uI {M : Mem} {a k b j : Nat} {x : Int32} : gD (uI M a k x) b j = gD M b j := rfl
theorem rD_uL {M : Mem} {a k b j : Nat} {x : Int64} : gD (uL M a k x) b j = gD M b j := rfl
theorem rD_uR {M : Mem} {a k b j : Nat} {x : Option Nat} : gD (uR M a k x) b j = gD M b j := rfl
theorem rR_uI {M : Mem} {a k b j : Nat} {x : Int32} : gR (uI M a k x) b j = gR M b j := rfl
theorem rR_uL {M : Mem} {a k b j : Nat} {x : Int64} : gR (uL M a k x) b j = gR M b j := rfl
theorem rR_uD {M : Mem} {a k b j : Nat} {x : UInt64} : gR (uD M a k x) b j = gR M b j := rfl
set_option maxRecDepth 100000 in
theorem eX9_clear {G : Nat → KT} {K : RT} (hc : cloX9_clear G K wT) {x0 : Nat} {M : Mem} (hW : Wf M) (hx0 : (Sh x0).1 = 6) (h : K none (uI M x0 0 (32 : Int32))) : G 0 [some (.ref x0)] [] M :=
  (hc _ _ _ (i_aload rfl (i_ic (i_putC (okS hW hx0) (by decide) (i_vret hW.1 h)))))
theorem wX9_clear {x0 : Nat} {M : Mem} {K : RT} (hW : Wf M) (hx0 : (Sh x0).1 = 6) (h : K none (uI M x0 0 (32 : Int32))) : sp_X9_clear [.ref x0] M K := by
  refine ⟨Nat.le_of_ble_eq_true rfl, fun G hc => ?_⟩
  rw [hW.1] at hc
  exact eX9_clear hc hW hx0 h
noncomputable def m_X9_clear (x0 : Nat) (M : Mem) : Mem := (uI M x0 0 (32 : Int32))
theorem c_X9_clear {x0 : Nat} {M : Mem} {K : RT} (hW : Wf M) (hx0 : (Sh x0).1 = 6) (h : K none (m_X9_clear x0 M)) : sp_X9_clear [.ref x0] M K := by
  refine wX9_clear hW hx0 ?_
  unfold m_X9_clear at h
  first | exact h | contradiction
theorem Wf_m_X9_clear (x0 : Nat) {M : Mem} (hW : Wf M) : Wf (m_X9_clear x0 M) := by
  unfold m_X9_clear
  exact hW
set_option maxRecDepth 100000 in
theorem eX9_isClear {G : Nat → KT} {K : RT} (hc : cloX9_isClear G K wT) {x0 : Nat} {M : Mem} (hW : Wf M) (hx0 : (Sh x0).1 = 6) (h : (¬ (gI M x0 0) = (32 : Int32) → K (some (.int (0 : Int32))) M) ∧ ((gI M x0 0) = (32 : Int32) → K (some (.int (1 : Int32))) M)) : G 0 [some (.ref x0)] [] M :=
  (hc.1 _ _ _ (i_aload rfl (i_getI5 (okS hW hx0) (i_ic (i_icmp_ne (fun q1023 => (hc.2.2.1 _ _ _ (i_ic (hc.2.2.2 _ _ _ (i_zret (by decide) hW.1 (h.1 q1023)))))) (fun q1023 => (hc.2.1 _ _ _ (i_ic (hc.2.2.2 _ _ _ (i_zret (by decide) hW.1 (h.2 q1023)))))))))))
theorem wX9_isClear {x0 : Nat} {M : Mem} {K : RT} (hW : Wf M) (hx0 : (Sh x0).1 = 6) (h : (¬ (gI M x0 0) = (32 : Int32) → K (some (.int (0 : Int32))) M) ∧ ((gI M x0 0) = (32 : Int32) → K (some (.int (1 : Int32))) M)) : sp_X9_isClear [.ref x0] M K := by
  refine ⟨Nat.le_of_ble_eq_true rfl, fun G hc => ?_⟩
  rw [hW.1] at hc
  exact eX9_isClear hc hW hx0 h
def P_X9_isClear (x0 : Nat) (M : Mem) : Prop := ((gI M x0 0) = (32 : Int32))
theorem c_X9_isClear {x0 : Nat} {M : Mem} {K : RT} (hW : Wf M) (hx0 : (Sh x0).1 = 6) (h : K (some (.int (pI (P_X9_isClear x0 M)))) M) : sp_X9_isClear [.ref x0] M K := by
  refine wX9_isClear hW hx0 ?_
  unfold P_X9_isClear at h
  refine ⟨fun q0 => ?_, fun q0 => ?_⟩
  · skip
    exact pI_goF h (by simp only [eq_false q0, not_true_eq_false, not_false_eq_true, true_and, false_and, and_true, and_false, true_or, or_true, false_or, or_false, iff_self])
  · skip
    exact pI_goT h (by simp only [eq_true q0, not_true_eq_false, not_false_eq_true, true_and, false_and, and_true, and_false, true_or, or_true, false_or, or_false, iff_self])
set_option maxRecDepth 100000 in
theorem eX9_take {G : Nat → KT} {K : RT} (hc : cloX9_take G K wT) {x0 : Nat} {x2 : Int32} {x3 : Int32} {M : Mem} (hW : Wf M) (hx0 : (Sh x0).1 = 6) (h : (0 ≤ x2 ∧ x2 < 65536) ∧ ((x2 = 65 → ((vp_in (x3 &&& (7 : Int32)) 8) ∧ ((q_X8_copyFrom (x0 + 1) (412 + 4 * (x3 &&& (7 : Int32)).toNatClampNeg) (uI (uI M x0 0 x2) x0 1 (x3 &&& (7 : Int32)))) ∧ K none (m_X8_copyFrom (x0 + 1) (412 + 4 * (x3 &&& (7 : Int32)).toNatClampNeg) (uI (uI M x0 0 x2) x0 1 (x3 &&& (7 : Int32))))))) ∧ (¬ x2 = 65 → ((x2 = 77 → ((vp_in ((x3 &&& (7 : Int32)) &&& (3 : Int32)) 4) ∧ K none (uL (uI (uI M x0 0 x2) x0 1 (x3 &&& (7 : Int32))) x0 2 ((gI (uI (uI M x0 0 x2) x0 1 (x3 &&& (7 : Int32))) 408 ((x3 &&& (7 : Int32)) &&& (3 : Int32)).toNatClampNeg).toInt64)))) ∧ (¬ x2 = 77 → ((x2 = 83 → ((vp_in (x3 &&& (7 : Int32)) 8) ∧ K none (uL (uI (uI M x0 0 x2) x0 1 (x3 &&& (7 : Int32))) x0 2 (gL M 409 (x3 &&& (7 : Int32)).toNatClampNeg)))) ∧ (¬ x2 = 83 → ((x2 = 86 → ((vp_in (x3 &&& (7 : Int32)) 8) ∧ ((q_X8_copyFrom (x0 + 1) (410 + 4 * (x3 &&& (7 : Int32)).toNatClampNeg) (uI (uI M x0 0 x2) x0 1 (x3 &&& (7 : Int32)))) ∧ K none (m_X8_copyFrom (x0 + 1) (410 + 4 * (x3 &&& (7 : Int32)).toNatClampNeg) (uI (uI M x0 0 x2) x0 1 (x3 &&& (7 : Int32))))))) ∧ (¬ x2 = 86 → K none (uI (uI M x0 0 x2) x0 1 (x3 &&& (7 : Int32)))))))))))) : G 0 [some (.ref x0), some (.ref 405), some (.int x2), some (.int x3)] [] M :=
  (hc.1 _ _ _ (i_aload rfl (i_iload rfl (i_putC (okS hW hx0) h.1 (i_aload rfl (i_iload rfl (i_ic (i_iand (i_putI (okS hW hx0) (i_aload rfl (i_getI5E (okS hW hx0) (Eq.trans (rI_k (by decide)) rI_eq) (And.intro (fun q473 => (hc.2.2.1 _ _ _ (i_aload rfl (i_getR (okS hW hx0) (nvSav hW hx0) (i_aload rfl (i_getR (okS hW Sk_405) (nv_405_1 hW) (i_aload rfl (i_getIE (okS hW hx0) rI_eq (i_aald hW Ss_407 (h.2.1 q473).1 (nvArrN (a := 405) (s := 412) rfl hW Sk_405 (vp_lt (h.2.1 q473).1)) (i_callV2 (Nat.le_of_ble_eq_true rfl) (okS hW (Ssav hx0)) (c_X8_copyFrom hW (Ssav hx0) (SstAN (a := 405) (s := 412) rfl Sk_405 (vp_lt (h.2.1 q473).1)) (h.2.1 q473).2.1 (i_rN (hc.2.2.2.2.2 _ _ _ (i_vret (Wf_m_X8_copyFrom (M := (uI (uI M x0 0 x2) x0 1 (x3 &&& (7 : Int32)))) (x0 + 1) (412 + 4 * (x3 &&& (7 : Int32)).toNatClampNeg) hW).1 (h.2.1 q473).2.2)))))))))))))) (fun q473 => (And.intro (fun q474 => (hc.2.2.2.1 _ _ _ (i_aload rfl (i_aload rfl (i_getR (okS hW Sk_405) (nv_405_2 hW) (i_aload rfl (i_getIE (okS hW hx0) rI_eq (i_ic (i_iand (i_iald hW Ss_408 ((h.2.2 q473).1 q474).1 (i_i2l (i_putL (okS hW hx0) (hc.2.2.2.2.2 _ _ _ (i_vret hW.1 ((h.2.2 q473).1 q474).2)))))))))))))) (fun q474 => (And.intro (fun q475 => (hc.2.2.2.2.1 _ _ _ (i_aload rfl (i_aload rfl (i_getR (okS hW Sk_405) (nv_405_3 hW) (i_aload rfl (i_getIE (okS hW hx0) rI_eq (i_laldE hW Ss_409 (Eq.trans rL_uI rL_uI) (((h.2.2 q473).2 q474).1 q475).1 (i_putL (okS hW hx0) (hc.2.2.2.2.2 _ _ _ (i_vret hW.1 (((h.2.2 q473).2 q474).1 q475).2))))))))))) (fun q475 => (And.intro (fun q476 => (hc.2.1 _ _ _ (i_aload rfl (i_getR (okS hW hx0) (nvSav hW hx0) (i_aload rfl (i_getR (okS hW Sk_405) (nv_405_0 hW) (i_aload rfl (i_getIE (okS hW hx0) rI_eq (i_aald hW Ss_406 ((((h.2.2 q473).2 q474).2 q475).1 q476).1 (nvRegN (a := 405) (s := 410) rfl hW Sk_405 (vp_lt ((((h.2.2 q473).2 q474).2 q475).1 q476).1)) (i_callV2 (Nat.le_of_ble_eq_true rfl) (okS hW (Ssav hx0)) (c_X8_copyFrom hW (Ssav hx0) (SstRN (a := 405) (s := 410) rfl Sk_405 (vp_lt ((((h.2.2 q473).2 q474).2 q475).1 q476).1)) ((((h.2.2 q473).2 q474).2 q475).1 q476).2.1 (i_rN (hc.2.2.2.2.2 _ _ _ (i_vret (Wf_m_X8_copyFrom (M := (uI (uI M x0 0 x2) x0 1 (x3 &&& (7 : Int32)))) (x0 + 1) (410 + 4 * (x3 &&& (7 : Int32)).toNatClampNeg) hW).1 ((((h.2.2 q473).2 q474).2 q475).1 q476).2.2)))))))))))))) (fun q476 => (hc.2.2.2.2.2 _ _ _ (i_vret hW.1 ((((h.2.2 q473).2 q474).2 q475).2 q476))))))))))))))))))))))
theorem wX9_take {x0 : Nat} {x2 : Int32} {x3 : Int32} {M : Mem} {K : RT} (hW : Wf M) (hx0 : (Sh x0).1 = 6) (h : (0 ≤ x2 ∧ x2 < 65536) ∧ ((x2 = 65 → ((vp_in (x3 &&& (7 : Int32)) 8) ∧ ((q_X8_copyFrom (x0 + 1) (412 + 4 * (x3 &&& (7 : Int32)).toNatClampNeg) (uI (uI M x0 0 x2) x0 1 (x3 &&& (7 : Int32)))) ∧ K none (m_X8_copyFrom (x0 + 1) (412 + 4 * (x3 &&& (7 : Int32)).toNatClampNeg) (uI (uI M x0 0 x2) x0 1 (x3 &&& (7 : Int32))))))) ∧ (¬ x2 = 65 → ((x2 = 77 → ((vp_in ((x3 &&& (7 : Int32)) &&& (3 : Int32)) 4) ∧ K none (uL (uI (uI M x0 0 x2) x0 1 (x3 &&& (7 : Int32))) x0 2 ((gI (uI (uI M x0 0 x2) x0 1 (x3 &&& (7 : Int32))) 408 ((x3 &&& (7 : Int32)) &&& (3 : Int32)).toNatClampNeg).toInt64)))) ∧ (¬ x2 = 77 → ((x2 = 83 → ((vp_in (x3 &&& (7 : Int32)) 8) ∧ K none (uL (uI (uI M x0 0 x2) x0 1 (x3 &&& (7 : Int32))) x0 2 (gL M 409 (x3 &&& (7 : Int32)).toNatClampNeg)))) ∧ (¬ x2 = 83 → ((x2 = 86 → ((vp_in (x3 &&& (7 : Int32)) 8) ∧ ((q_X8_copyFrom (x0 + 1) (410 + 4 * (x3 &&& (7 : Int32)).toNatClampNeg) (uI (uI M x0 0 x2) x0 1 (x3 &&& (7 : Int32)))) ∧ K none (m_X8_copyFrom (x0 + 1) (410 + 4 * (x3 &&& (7 : Int32)).toNatClampNeg) (uI (uI M x0 0 x2) x0 1 (x3 &&& (7 : Int32))))))) ∧ (¬ x2 = 86 → K none (uI (uI M x0 0 x2) x0 1 (x3 &&& (7 : Int32)))))))))))) : sp_X9_take [.ref x0, .ref 405, .int x2, .int x3] M K := by
  refine ⟨Nat.le_of_ble_eq_true rfl, fun G hc => ?_⟩
  rw [hW.1] at hc
  exact eX9_take hc hW hx0 h
noncomputable def m_X9_take (x0 : Nat) (x2 : Int32) (x3 : Int32) (M : Mem) : Mem := (if x2 = 65 then (m_X8_copyFrom (x0 + 1) (412 + 4 * (x3 &&& (7 : Int32)).toNatClampNeg) (uI (uI M x0 0 x2) x0 1 (x3 &&& (7 : Int32)))) else (if x2 = 77 then (uL (uI (uI M x0 0 x2) x0 1 (x3 &&& (7 : Int32))) x0 2 ((gI (uI (uI M x0 0 x2) x0 1 (x3 &&& (7 : Int32))) 408 ((x3 &&& (7 : Int32)) &&& (3 : Int32)).toNatClampNeg).toInt64)) else (if x2 = 83 then (uL (uI (uI M x0 0 x2) x0 1 (x3 &&& (7 : Int32))) x0 2 (gL M 409 (x3 &&& (7 : Int32)).toNatClampNeg)) else (if x2 = 86 then (m_X8_copyFrom (x0 + 1) (410 + 4 * (x3 &&& (7 : Int32)).toNatClampNeg) (uI (uI M x0 0 x2) x0 1 (x3 &&& (7 : Int32)))) else (uI (uI M x0 0 x2) x0 1 (x3 &&& (7 : Int32)))))))
def q_X9_take (x0 : Nat) (x2 : Int32) (x3 : Int32) (M : Mem) : Prop := ((0 ≤ x2 ∧ x2 < 65536) ∧ ((x2 = 65 → ((vp_in (x3 &&& (7 : Int32)) 8) ∧ (q_X8_copyFrom (x0 + 1) (412 + 4 * (x3 &&& (7 : Int32)).toNatClampNeg) (uI (uI M x0 0 x2) x0 1 (x3 &&& (7 : Int32)))))) ∧ (¬ x2 = 65 → ((x2 = 77 → (vp_in ((x3 &&& (7 : Int32)) &&& (3 : Int32)) 4)) ∧ (¬ x2 = 77 → ((x2 = 83 → (vp_in (x3 &&& (7 : Int32)) 8)) ∧ (¬ x2 = 83 → (x2 = 86 → ((vp_in (x3 &&& (7 : Int32)) 8) ∧ (q_X8_copyFrom (x0 + 1) (410 + 4 * (x3 &&& (7 : Int32)).toNatClampNeg) (uI (uI M x0 0 x2) x0 1 (x3 &&& (7 : Int32)))))))))))))
theorem c_X9_take {x0 : Nat} {x2 : Int32} {x3 : Int32} {M : Mem} {K : RT} (hW : Wf M) (hx0 : (Sh x0).1 = 6) (hp : q_X9_take x0 x2 x3 M) (h : K none (m_X9_take x0 x2 x3 M)) : sp_X9_take [.ref x0, .ref 405, .int x2, .int x3] M K := by
  refine wX9_take hW hx0 ?_
  unfold m_X9_take at h
  unfold q_X9_take at hp
  refine ⟨hp.1, ?_⟩
  refine ⟨fun q0 => ?_, fun q0 => ?_⟩
  · have hq0 := hp.2.1 q0
    try simp only [if_pos q0] at h
    refine ⟨hq0.1, ?_⟩
    refine ⟨hq0.2, ?_⟩
    first | exact h | contradiction
  · have hq0 := hp.2.2 q0
    try simp only [if_neg q0] at h
    refine ⟨fun q1 => ?_, fun q1 => ?_⟩
    · have hq1 := hq0.1 q1
      try simp only [if_pos q1] at h
      refine ⟨hq1, ?_⟩
      first | exact h | contradiction
    · have hq1 := hq0.2 q1
      try simp only [if_neg q1] at h
      refine ⟨fun q2 => ?_, fun q2 => ?_⟩
      · have hq2 := hq1.1 q2
        try simp only [if_pos q2] at h
        refine ⟨hq2, ?_⟩
        first | exact h | contradiction
      · have hq2 := hq1.2 q2
        try simp only [if_neg q2] at h
        refine ⟨fun q3 => ?_, fun q3 => ?_⟩
        · have hq3 := hq2 q3
          try simp only [if_pos q3] at h
          refine ⟨hq3.1, ?_⟩
          refine ⟨hq3.2, ?_⟩
          first | exact h | contradiction
        · skip
          try simp only [if_neg q3] at h
          first | exact h | contradiction
theorem Wf_m_X9_take (x0 : Nat) (x2 : Int32) (x3 : Int32) {M : Mem} (hW : Wf M) : Wf (m_X9_take x0 x2 x3 M) := by
  unfold m_X9_take
  split
  · skip
    exact (Wf_m_X8_copyFrom (M := (uI (uI M x0 0 x2) x0 1 (x3 &&& (7 : Int32)))) (x0 + 1) (412 + 4 * (x3 &&& (7 : Int32)).toNatClampNeg) hW)
  · skip
    split
    · skip
      exact hW
    · skip
      split
      · skip
        exact hW
      · skip
        split
        · skip
          exact (Wf_m_X8_copyFrom (M := (uI (uI M x0 0 x2) x0 1 (x3 &&& (7 : Int32)))) (x0 + 1) (410 + 4 * (x3 &&& (7 : Int32)).toNatClampNeg) hW)
        · skip
          exact hW
set_option maxRecDepth 100000 in
theorem eX9_giveBack {G : Nat → KT} {K : RT} (hc : cloX9_giveBack G K wT) {x0 : Nat} {M : Mem} (hW : Wf M) (hx0 : (Sh x0).1 = 6) (h : ((gI M x0 0) = 65 → ((vp_in (gI M x0 1) 8) ∧ ((q_X8_copyFrom (412 + 4 * (gI M x0 1).toNatClampNeg) (x0 + 1) M) ∧ K none (m_X8_copyFrom (412 + 4 * (gI M x0 1).toNatClampNeg) (x0 + 1) M)))) ∧ (¬ (gI M x0 0) = 65 → (((gI M x0 0) = 77 → ((vp_in ((gI M x0 1) &&& (3 : Int32)) 4) ∧ K none (uI M 408 ((gI M x0 1) &&& (3 : Int32)).toNatClampNeg ((gL M x0 2).toInt32)))) ∧ (¬ (gI M x0 0) = 77 → (((gI M x0 0) = 83 → ((vp_in (gI M x0 1) 8) ∧ K none (uL M 409 (gI M x0 1).toNatClampNeg (gL M x0 2)))) ∧ (¬ (gI M x0 0) = 83 → (((gI M x0 0) = 86 → ((vp_in (gI M x0 1) 8) ∧ ((q_X8_copyFrom (410 + 4 * (gI M x0 1).toNatClampNeg) (x0 + 1) M) ∧ K none (m_X8_copyFrom (410 + 4 * (gI M x0 1).toNatClampNeg) (x0 + 1) M)))) ∧ (¬ (gI M x0 0) = 86 → K none M)))))))) : G 0 [some (.ref x0), some (.ref 405)] [] M :=
  (hc.1 _ _ _ (i_aload rfl (i_getI5 (okS hW hx0) (And.intro (fun q1078 => (hc.2.2.1 _ _ _ (i_aload rfl (i_getR (okS hW Sk_405) (nv_405_1 hW) (i_aload rfl (i_getI (okS hW hx0) (i_aald hW Ss_407 (h.1 q1078).1 (nvArrN (a := 405) (s := 412) rfl hW Sk_405 (vp_lt (h.1 q1078).1)) (i_aload rfl (i_getR (okS hW hx0) (nvSav hW hx0) (i_callV2 (Nat.le_of_ble_eq_true rfl) (okS hW (SstAN (a := 405) (s := 412) rfl Sk_405 (vp_lt (h.1 q1078).1))) (c_X8_copyFrom hW (SstAN (a := 405) (s := 412) rfl Sk_405 (vp_lt (h.1 q1078).1)) (Ssav hx0) (h.1 q1078).2.1 (i_rN (hc.2.2.2.2.2 _ _ _ (i_vret (Wf_m_X8_copyFrom (M := M) (412 + 4 * (gI M x0 1).toNatClampNeg) (x0 + 1) hW).1 (h.1 q1078).2.2)))))))))))))) (fun q1078 => (And.intro (fun q1079 => (hc.2.2.2.1 _ _ _ (i_aload rfl (i_getR (okS hW Sk_405) (nv_405_2 hW) (i_aload rfl (i_getI (okS hW hx0) (i_ic (i_iand (i_aload rfl (i_getL (okS hW hx0) (i_l2i (i_iast hW Ss_408 ((h.2 q1078).1 q1079).1 (hc.2.2.2.2.2 _ _ _ (i_vret hW.1 ((h.2 q1078).1 q1079).2)))))))))))))) (fun q1079 => (And.intro (fun q1080 => (hc.2.2.2.2.1 _ _ _ (i_aload rfl (i_getR (okS hW Sk_405) (nv_405_3 hW) (i_aload rfl (i_getI (okS hW hx0) (i_aload rfl (i_getL (okS hW hx0) (i_last hW Ss_409 (((h.2 q1078).2 q1079).1 q1080).1 (hc.2.2.2.2.2 _ _ _ (i_vret hW.1 (((h.2 q1078).2 q1079).1 q1080).2))))))))))) (fun q1080 => (And.intro (fun q1081 => (hc.2.1 _ _ _ (i_aload rfl (i_getR (okS hW Sk_405) (nv_405_0 hW) (i_aload rfl (i_getI (okS hW hx0) (i_aald hW Ss_406 ((((h.2 q1078).2 q1079).2 q1080).1 q1081).1 (nvRegN (a := 405) (s := 410) rfl hW Sk_405 (vp_lt ((((h.2 q1078).2 q1079).2 q1080).1 q1081).1)) (i_aload rfl (i_getR (okS hW hx0) (nvSav hW hx0) (i_callV2 (Nat.le_of_ble_eq_true rfl) (okS hW (SstRN (a := 405) (s := 410) rfl Sk_405 (vp_lt ((((h.2 q1078).2 q1079).2 q1080).1 q1081).1))) (c_X8_copyFrom hW (SstRN (a := 405) (s := 410) rfl Sk_405 (vp_lt ((((h.2 q1078).2 q1079).2 q1080).1 q1081).1)) (Ssav hx0) ((((h.2 q1078).2 q1079).2 q1080).1 q1081).2.1 (i_rN (hc.2.2.2.2.2 _ _ _ (i_vret (Wf_m_X8_copyFrom (M := M) (410 + 4 * (gI M x0 1).toNatClampNeg) (x0 + 1) hW).1 ((((h.2 q1078).2 q1079).2 q1080).1 q1081).2.2)))))))))))))) (fun q1081 => (hc.2.2.2.2.2 _ _ _ (i_vret hW.1 ((((h.2 q1078).2 q1079).2 q1080).2 q1081))))))))))))))
theorem wX9_giveBack {x0 : Nat} {M : Mem} {K : RT} (hW : Wf M) (hx0 : (Sh x0).1 = 6) (h : ((gI M x0 0) = 65 → ((vp_in (gI M x0 1) 8) ∧ ((q_X8_copyFrom (412 + 4 * (gI M x0 1).toNatClampNeg) (x0 + 1) M) ∧ K none (m_X8_copyFrom (412 + 4 * (gI M x0 1).toNatClampNeg) (x0 + 1) M)))) ∧ (¬ (gI M x0 0) = 65 → (((gI M x0 0) = 77 → ((vp_in ((gI M x0 1) &&& (3 : Int32)) 4) ∧ K none (uI M 408 ((gI M x0 1) &&& (3 : Int32)).toNatClampNeg ((gL M x0 2).toInt32)))) ∧ (¬ (gI M x0 0) = 77 → (((gI M x0 0) = 83 → ((vp_in (gI M x0 1) 8) ∧ K none (uL M 409 (gI M x0 1).toNatClampNeg (gL M x0 2)))) ∧ (¬ (gI M x0 0) = 83 → (((gI M x0 0) = 86 → ((vp_in (gI M x0 1) 8) ∧ ((q_X8_copyFrom (410 + 4 * (gI M x0 1).toNatClampNeg) (x0 + 1) M) ∧ K none (m_X8_copyFrom (410 + 4 * (gI M x0 1).toNatClampNeg) (x0 + 1) M)))) ∧ (¬ (gI M x0 0) = 86 → K none M)))))))) : sp_X9_giveBack [.ref x0, .ref 405] M K := by
  refine ⟨Nat.le_of_ble_eq_true rfl, fun G hc => ?_⟩
  rw [hW.1] at hc
  exact eX9_giveBack hc hW hx0 h
noncomputable def m_X9_giveBack (x0 : Nat) (M : Mem) : Mem := (if (gI M x0 0) = 65 then (m_X8_copyFrom (412 + 4 * (gI M x0 1).toNatClampNeg) (x0 + 1) M) else (if (gI M x0 0) = 77 then (uI M 408 ((gI M x0 1) &&& (3 : Int32)).toNatClampNeg ((gL M x0 2).toInt32)) else (if (gI M x0 0) = 83 then (uL M 409 (gI M x0 1).toNatClampNeg (gL M x0 2)) else (if (gI M x0 0) = 86 then (m_X8_copyFrom (410 + 4 * (gI M x0 1).toNatClampNeg) (x0 + 1) M) else M))))
def q_X9_giveBack (x0 : Nat) (M : Mem) : Prop := (((gI M x0 0) = 65 → ((vp_in (gI M x0 1) 8) ∧ (q_X8_copyFrom (412 + 4 * (gI M x0 1).toNatClampNeg) (x0 + 1) M))) ∧ (¬ (gI M x0 0) = 65 → (((gI M x0 0) = 77 → (vp_in ((gI M x0 1) &&& (3 : Int32)) 4)) ∧ (¬ (gI M x0 0) = 77 → (((gI M x0 0) = 83 → (vp_in (gI M x0 1) 8)) ∧ (¬ (gI M x0 0) = 83 → ((gI M x0 0) = 86 → ((vp_in (gI M x0 1) 8) ∧ (q_X8_copyFrom (410 + 4 * (gI M x0 1).toNatClampNeg) (x0 + 1) M)))))))))
theorem c_X9_giveBack {x0 : Nat} {M : Mem} {K : RT} (hW : Wf M) (hx0 : (Sh x0).1 = 6) (hp : q_X9_giveBack x0 M) (h : K none (m_X9_giveBack x0 M)) : sp_X9_giveBack [.ref x0, .ref 405] M K := by
  refine wX9_giveBack hW hx0 ?_
  unfold m_X9_giveBack at h
  unfold q_X9_giveBack at hp
  refine ⟨fun q0 => ?_, fun q0 => ?_⟩
  · have hq0 := hp.1 q0
    try simp only [if_pos q0] at h
    refine ⟨hq0.1, ?_⟩
    refine ⟨hq0.2, ?_⟩
    first | exact h | contradiction
  · have hq0 := hp.2 q0
    try simp only [if_neg q0] at h
    refine ⟨fun q1 => ?_, fun q1 => ?_⟩
    · have hq1 := hq0.1 q1
      try simp only [if_pos q1] at h
      refine ⟨hq1, ?_⟩
      first | exact h | contradiction
    · have hq1 := hq0.2 q1
      try simp only [if_neg q1] at h
      refine ⟨fun q2 => ?_, fun q2 => ?_⟩
      · have hq2 := hq1.1 q2
        try simp only [if_pos q2] at h
        refine ⟨hq2, ?_⟩
        first | exact h | contradiction
      · have hq2 := hq1.2 q2
        try simp only [if_neg q2] at h
        refine ⟨fun q3 => ?_, fun q3 => ?_⟩
        · have hq3 := hq2 q3
          try simp only [if_pos q3] at h
          refine ⟨hq3.1, ?_⟩
          refine ⟨hq3.2, ?_⟩
          first | exact h | contradiction
        · skip
          try simp only [if_neg q3] at h
          first | exact h | contradiction
theorem Wf_m_X9_giveBack (x0 : Nat) {M : Mem} (hW : Wf M) : Wf (m_X9_giveBack x0 M) := by
  unfold m_X9_giveBack
  split
  · skip
    exact (Wf_m_X8_copyFrom (M := M) (412 + 4 * (gI M x0 1).toNatClampNeg) (x0 + 1) hW)
  · skip
    split
    · skip
      exact hW
    · skip
      split
      · skip
        exact hW
      · skip
        split
        · skip
          exact (Wf_m_X8_copyFrom (M := M) (410 + 4 * (gI M x0 1).toNatClampNeg) (x0 + 1) hW)
        · skip
          exact hW
set_option maxRecDepth 100000 in
theorem eX9_isChanged {G : Nat → KT} {K : RT} (hc : cloX9_isChanged G K wT) {x0 : Nat} {M : Mem} (hW : Wf M) (hx0 : (Sh x0).1 = 6) (h : ((gI M x0 0) = (65 : Int32) → ((vp_in (gI M x0 1) 8) ∧ G 24 [some (.ref x0), some (.ref 405), some (.ref 456), some (.ref (412 + 4 * (gI M x0 1).toNatClampNeg)), some (.int (0 : Int32))] [] M)) ∧ (¬ (gI M x0 0) = (65 : Int32) → K (some (.int (0 : Int32))) M)) : G 0 [some (.ref x0), some (.ref 405), some (.ref 456), none, none] [] M :=
  (hc.1 _ _ _ (i_aload rfl (i_getI5 (okS hW hx0) (i_ic (i_icmp_eq (fun q1054 => (hc.2.2.1 _ _ _ (i_aload rfl (i_getR (okS hW Sk_405) (nv_405_1 hW) (i_aload rfl (i_getI (okS hW hx0) (i_aald hW Ss_407 (h.1 q1054).1 (nvArrN (a := 405) (s := 412) rfl hW Sk_405 (vp_lt (h.1 q1054).1)) (i_astore (Nat.le_of_ble_eq_true rfl) (i_ic (i_istore (Nat.le_of_ble_eq_true rfl) (h.1 q1054).2)))))))))) (fun q1054 => (hc.2.1 _ _ _ (i_ic (i_zret (by decide) hW.1 (h.2 q1054))))))))))
set_option maxRecDepth 100000 in
theorem eX9_isChanged_24 {G : Nat → KT} {K : RT} (hc : cloX9_isChanged G K wT) {x0 : Nat} {o1 : Option Value} {x3 : Nat} {x4 : Int32} {M : Mem} (hW : Wf M) (hx0 : (Sh x0).1 = 6) (hx3 : (Sh x3).1 = 5) (h : ((gI M (x0 + 1) 1) ≤ x4 → K (some (.int (0 : Int32))) M) ∧ (¬ (gI M (x0 + 1) 1) ≤ x4 → ((vp_in (gI M x0 1) 8) ∧ (((((gL M 456 (gI M x0 1).toNatClampNeg) >>> (x4.toInt64 &&& 63)) &&& (1 : Int64)) = (0 : Int64) → G 24 [some (.ref x0), o1, some (.ref 456), some (.ref x3), some (.int (x4 + (1 : Int32)))] [] M) ∧ (¬ (((gL M 456 (gI M x0 1).toNatClampNeg) >>> (x4.toInt64 &&& 63)) &&& (1 : Int64)) = (0 : Int64) → ((vp_in x4 64) ∧ ((vp_in x4 64) ∧ (((gL M ((x0 + 1) + 1) (x4).toNatClampNeg) = (gL M (x3 + 1) (x4).toNatClampNeg) → G 24 [some (.ref x0), o1, some (.ref 456), some (.ref x3), some (.int (x4 + (1 : Int32)))] [] M) ∧ (¬ (gL M ((x0 + 1) + 1) (x4).toNatClampNeg) = (gL M (x3 + 1) (x4).toNatClampNeg) → K (some (.int (1 : Int32))) M))))))))) : G 24 [some (.ref x0), o1, some (.ref 456), some (.ref x3), some (.int x4)] [] M :=
  (hc.2.2.2.1 _ _ _ (i_iload rfl (i_aload rfl (i_getR (okS hW hx0) (nvSav hW hx0) (i_getI (okS hW (Ssav hx0)) (i_icmp_ge (fun q1055 => (hc.2.2.2.2.2.2.2.2 _ _ _ (i_ic (i_zret (by decide) hW.1 (h.1 q1055))))) (fun q1055 => (hc.2.2.2.2.1 _ _ _ (i_aload rfl (i_aload rfl (i_getI (okS hW hx0) (i_lald hW Ss_456 (h.2 q1055).1 (i_iload rfl (i_lshr (i_lc (i_land (i_lc (i_lcmp (i_lcmp_eq (fun q1056 => (hc.2.2.2.2.2.2.2.1 _ _ _ (i_iinc rfl ((h.2 q1055).2.1 q1056)))) (fun q1056 => (hc.2.2.2.2.2.1 _ _ _ (i_aload rfl (i_getR (okS hW hx0) (nvSav hW hx0) (i_getR (okS hW (Ssav hx0)) (nvRow hW (Ssav hx0)) (i_iload rfl (i_lald hW (Srow (Ssav hx0)) ((h.2 q1055).2.2 q1056).1 (i_aload rfl (i_getR (okS hW hx3) (nvRow hW hx3) (i_iload rfl (i_lald hW (Srow hx3) ((h.2 q1055).2.2 q1056).2.1 (i_lcmp (i_lcmp_eq (fun q1057 => (hc.2.2.2.2.2.2.2.1 _ _ _ (i_iinc rfl (((h.2 q1055).2.2 q1056).2.2.1 q1057)))) (fun q1057 => (hc.2.2.2.2.2.2.1 _ _ _ (i_ic (i_zret (by decide) hW.1 (((h.2 q1055).2.2 q1056).2.2.2 q1057)))))))))))))))))))))))))))))))))))))
theorem wX9_isChanged {x0 : Nat} {M : Mem} {K : RT} (hW : Wf M) (hx0 : (Sh x0).1 = 6) (h : ∀ {G : Nat → KT}, cloX9_isChanged G K wT → ((gI M x0 0) = (65 : Int32) → ((vp_in (gI M x0 1) 8) ∧ G 24 [some (.ref x0), some (.ref 405), some (.ref 456), some (.ref (412 + 4 * (gI M x0 1).toNatClampNeg)), some (.int (0 : Int32))] [] M)) ∧ (¬ (gI M x0 0) = (65 : Int32) → K (some (.int (0 : Int32))) M)) : sp_X9_isChanged [.ref x0, .ref 405, .ref 456] M K := by
  refine ⟨Nat.le_of_ble_eq_true rfl, fun G hc => ?_⟩
  rw [hW.1] at hc
  exact eX9_isChanged hc hW hx0 (h hc)
set_option maxRecDepth 100000 in
theorem eX11_empty {G : Nat → KT} {K : RT} (hc : cloX11_empty G K wT) {M : Mem} (hW : Wf M) (h : K none (uI M 10 0 (0 : Int32))) : G 0 [some (.ref 10)] [] M :=
  (hc _ _ _ (i_aload rfl (i_ic (i_putI (okS hW Sk_10) (i_vret hW.1 h)))))
theorem wX11_empty {M : Mem} {K : RT} (hW : Wf M) (h : K none (uI M 10 0 (0 : Int32))) : sp_X11_empty [.ref 10] M K := by
  refine ⟨Nat.le_of_ble_eq_true rfl, fun G hc => ?_⟩
  rw [hW.1] at hc
  exact eX11_empty hc hW  h
noncomputable def m_X11_empty (M : Mem) : Mem := (uI M 10 0 (0 : Int32))
theorem c_X11_empty {M : Mem} {K : RT} (hW : Wf M) (h : K none (m_X11_empty  M)) : sp_X11_empty [.ref 10] M K := by
  refine wX11_empty hW  ?_
  unfold m_X11_empty at h
  first | exact h | contradiction
theorem Wf_m_X11_empty {M : Mem} (hW : Wf M) : Wf (m_X11_empty  M) := by
  unfold m_X11_empty
  exact hW
set_option maxRecDepth 100000 in
theorem eX11_slot {G : Nat → KT} {K : RT} (hc : cloX11_slot G K wT) {x1 : Int32} {M : Mem} (hW : Wf M) (h : K (some (.int (((gI M 10 6) - x1) &&& (63 : Int32)))) M) : G 0 [some (.ref 10), some (.int x1)] [] M :=
  (hc _ _ _ (i_aload rfl (i_getI (okS hW Sk_10) (i_iload rfl (i_isub (i_ic (i_iand (i_iret hW.1 h))))))))
theorem wX11_slot {x1 : Int32} {M : Mem} {K : RT} (hW : Wf M) (h : K (some (.int (((gI M 10 6) - x1) &&& (63 : Int32)))) M) : sp_X11_slot [.ref 10, .int x1] M K := by
  refine ⟨Nat.le_of_ble_eq_true rfl, fun G hc => ?_⟩
  rw [hW.1] at hc
  exact eX11_slot hc hW  h
noncomputable def f_X11_slot (x1 : Int32) (M : Mem) : Int32 := (((gI M 10 6) - x1) &&& (63 : Int32))
theorem c_X11_slot {x1 : Int32} {M : Mem} {K : RT} (hW : Wf M) (h : K (some (.int (f_X11_slot x1 M))) M) : sp_X11_slot [.ref 10, .int x1] M K := by
  refine wX11_slot hW  ?_
  unfold f_X11_slot at h
  first | exact h | contradiction
set_option maxRecDepth 100000 in
theorem eX11_add {G : Nat → KT} {K : RT} (hc : cloX11_add G K wT) {x1 : Int32} {x2 : Int32} {x3 : Int32} {x4 : Int32} {M : Mem} (hW : Wf M) (h : (vp_in (f_X11_slot (-1 : Int32) M) 64) ∧ ((vp_in (f_X11_slot (-1 : Int32) M) 64) ∧ ((vp_in (f_X11_slot (-1 : Int32) M) 64) ∧ ((vp_in (f_X11_slot (-1 : Int32) M) 64) ∧ ((vp_in (f_X11_slot (-1 : Int32) M) 64) ∧ ((vp_in (f_X11_slot (-1 : Int32) M) 64) ∧ ((vp_in (f_X11_slot (-1 : Int32) M) 64) ∧ K none (m_X9_clear (rR M 19 (f_X11_slot (-1 : Int32) M).toNatClampNeg) (uR (uR (uI (uI (uI (uI (uI (uI M 10 6 (f_X11_slot (-1 : Int32) M)) 10 0 (f_J9_min_7cf53 ((gI M 10 0) + (1 : Int32)) (64 : Int32))) 11 (f_X11_slot (-1 : Int32) M).toNatClampNeg x1) 12 (f_X11_slot (-1 : Int32) M).toNatClampNeg x2) 13 (f_X11_slot (-1 : Int32) M).toNatClampNeg x3) 14 (f_X11_slot (-1 : Int32) M).toNatClampNeg x4) 18 (f_X11_slot (-1 : Int32) M).toNatClampNeg (some (rR M 10 5))) 10 5 (some (rR M 18 (f_X11_slot (-1 : Int32) M).toNatClampNeg))))))))))) : G 0 [some (.ref 10), some (.int x1), some (.int x2), some (.int x3), some (.int x4), none] [] M :=
  (hc.1 _ _ _ (i_aload rfl (i_aload rfl (i_ic (i_callV2 (Nat.le_of_ble_eq_true rfl) (okS hW Sk_10) (c_X11_slot hW  (i_rI (i_putI (okS hW Sk_10) (i_aload rfl (i_aload rfl (i_getIE (okS hW Sk_10) (rI_k (by decide)) (i_ic (i_iadd (i_ic (i_callS2 (Nat.le_of_ble_eq_true rfl) (c_J9_min_7cf53 hW  (i_rI (i_putI (okS hW Sk_10) (i_aload rfl (i_getR (okS hW Sk_10) (nv_10_1 hW) (i_aload rfl (i_getIE (okS hW Sk_10) (Eq.trans (rI_k (by decide)) rI_eq) (i_iload rfl (i_iast hW Ss_11 h.1 (i_aload rfl (i_getR (okS hW Sk_10) (nv_10_2 hW) (i_aload rfl (i_getIE (okS hW Sk_10) (Eq.trans (rI_a (by decide)) (Eq.trans (rI_k (by decide)) rI_eq)) (i_iload rfl (i_iast hW Ss_12 h.2.1 (i_aload rfl (i_getR (okS hW Sk_10) (nv_10_3 hW) (i_aload rfl (i_getIE (okS hW Sk_10) (Eq.trans (rI_a (by decide)) (Eq.trans (rI_a (by decide)) (Eq.trans (rI_k (by decide)) rI_eq))) (i_iload rfl (i_iast hW Ss_13 h.2.2.1 (i_aload rfl (i_getR (okS hW Sk_10) (nv_10_4 hW) (i_aload rfl (i_getIE (okS hW Sk_10) (Eq.trans (rI_a (by decide)) (Eq.trans (rI_a (by decide)) (Eq.trans (rI_a (by decide)) (Eq.trans (rI_k (by decide)) rI_eq)))) (i_iload rfl (i_iast hW Ss_14 h.2.2.2.1 (i_aload rfl (i_getR (okS hW Sk_10) (nv_10_7 hW) (i_aload rfl (hc.2 _ _ _ (i_getIE (okS hW Sk_10) (Eq.trans (rI_a (by decide)) (Eq.trans (rI_a (by decide)) (Eq.trans (rI_a (by decide)) (Eq.trans (rI_a (by decide)) (Eq.trans (rI_k (by decide)) rI_eq))))) (i_aald hW Ss_18 h.2.2.2.2.1 (Eq.trans (Eq.trans rR_uI (Eq.trans rR_uI (Eq.trans rR_uI (Eq.trans rR_uI (Eq.trans rR_uI rR_uI))))) (Wf.mut (M := M) hW (mx_ahead (vp_lt h.2.2.2.2.1)))) (i_astore (Nat.le_of_ble_eq_true rfl) (i_aload rfl (i_getR (okS hW Sk_10) (nv_10_7 hW) (i_aload rfl (i_getIE (okS hW Sk_10) (Eq.trans (rI_a (by decide)) (Eq.trans (rI_a (by decide)) (Eq.trans (rI_a (by decide)) (Eq.trans (rI_a (by decide)) (Eq.trans (rI_k (by decide)) rI_eq))))) (i_aload rfl (i_getR (okS hW Sk_10) (Eq.trans (Eq.trans rR_uI (Eq.trans rR_uI (Eq.trans rR_uI (Eq.trans rR_uI (Eq.trans rR_uI rR_uI))))) (Wf.mut (M := M) hW (show mx 10 5 = some 6 from by decide))) (i_aast hW Ss_18 (okS hW (Wf.mutS (M := M) hW (show mx 10 5 = some 6 from by decide))) h.2.2.2.2.2.1 (i_aload rfl (i_aload rfl (i_putR (okS (Wf_uR hW (mx_ahead (vp_lt h.2.2.2.2.2.1)) (fx_ahead _) (Wf.mutS (M := M) hW (show mx 10 5 = some 6 from by decide))) Sk_10) (i_aload rfl (i_getR (okS (Wf_uR (a := 10) (k := 5) (Wf_uR hW (mx_ahead (vp_lt h.2.2.2.2.2.1)) (fx_ahead _) (Wf.mutS (M := M) hW (show mx 10 5 = some 6 from by decide))) (by decide) (by decide +kernel) (Wf.mutS (M := M) hW (mx_ahead (vp_lt h.2.2.2.2.1)))) Sk_10) (nv_10_8 (Wf_uR (a := 10) (k := 5) (Wf_uR hW (mx_ahead (vp_lt h.2.2.2.2.2.1)) (fx_ahead _) (Wf.mutS (M := M) hW (show mx 10 5 = some 6 from by decide))) (by decide) (by decide +kernel) (Wf.mutS (M := M) hW (mx_ahead (vp_lt h.2.2.2.2.1))))) (i_aload rfl (i_getIE (okS (Wf_uR (a := 10) (k := 5) (Wf_uR hW (mx_ahead (vp_lt h.2.2.2.2.2.1)) (fx_ahead _) (Wf.mutS (M := M) hW (show mx 10 5 = some 6 from by decide))) (by decide) (by decide +kernel) (Wf.mutS (M := M) hW (mx_ahead (vp_lt h.2.2.2.2.1)))) Sk_10) (Eq.trans rI_uR (Eq.trans rI_uR (Eq.trans (rI_a (by decide)) (Eq.trans (rI_a (by decide)) (Eq.trans (rI_a (by decide)) (Eq.trans (rI_a (by decide)) (Eq.trans (rI_k (by decide)) rI_eq))))))) (i_aald (Wf_uR (a := 10) (k := 5) (Wf_uR hW (mx_ahead (vp_lt h.2.2.2.2.2.1)) (fx_ahead _) (Wf.mutS (M := M) hW (show mx 10 5 = some 6 from by decide))) (by decide) (by decide +kernel) (Wf.mutS (M := M) hW (mx_ahead (vp_lt h.2.2.2.2.1)))) Ss_19 h.2.2.2.2.2.2.1 (Eq.trans (Eq.trans (rR_a (by decide)) (Eq.trans (rR_a (by decide)) (Eq.trans rR_uI (Eq.trans rR_uI (Eq.trans rR_uI (Eq.trans rR_uI (Eq.trans rR_uI rR_uI))))))) (Wf.mut (M := M) hW (mx_behind (vp_lt h.2.2.2.2.2.2.1)))) (i_callV1 (Nat.le_of_ble_eq_true rfl) (okS (Wf_uR (a := 10) (k := 5) (Wf_uR hW (mx_ahead (vp_lt h.2.2.2.2.2.1)) (fx_ahead _) (Wf.mutS (M := M) hW (show mx 10 5 = some 6 from by decide))) (by decide) (by decide +kernel) (Wf.mutS (M := M) hW (mx_ahead (vp_lt h.2.2.2.2.1)))) (Wf.mutS (M := M) hW (mx_behind (vp_lt h.2.2.2.2.2.2.1)))) (c_X9_clear (Wf_uR (a := 10) (k := 5) (Wf_uR hW (mx_ahead (vp_lt h.2.2.2.2.2.1)) (fx_ahead _) (Wf.mutS (M := M) hW (show mx 10 5 = some 6 from by decide))) (by decide) (by decide +kernel) (Wf.mutS (M := M) hW (mx_ahead (vp_lt h.2.2.2.2.1)))) (Wf.mutS (M := M) hW (mx_behind (vp_lt h.2.2.2.2.2.2.1))) (i_rN (i_vret (Wf_m_X9_clear (M := (uR (uR (uI (uI (uI (uI (uI (uI M 10 6 (f_X11_slot (-1 : Int32) M)) 10 0 (f_J9_min_7cf53 ((gI M 10 0) + (1 : Int32)) (64 : Int32))) 11 (f_X11_slot (-1 : Int32) M).toNatClampNeg x1) 12 (f_X11_slot (-1 : Int32) M).toNatClampNeg x2) 13 (f_X11_slot (-1 : Int32) M).toNatClampNeg x3) 14 (f_X11_slot (-1 : Int32) M).toNatClampNeg x4) 18 (f_X11_slot (-1 : Int32) M).toNatClampNeg (some (rR M 10 5))) 10 5 (some (rR M 18 (f_X11_slot (-1 : Int32) M).toNatClampNeg)))) (rR M 19 (f_X11_slot (-1 : Int32) M).toNatClampNeg) (Wf_uR (a := 10) (k := 5) (Wf_uR hW (mx_ahead (vp_lt h.2.2.2.2.2.1)) (fx_ahead _) (Wf.mutS (M := M) hW (show mx 10 5 = some 6 from by decide))) (by decide) (by decide +kernel) (Wf.mutS (M := M) hW (mx_ahead (vp_lt h.2.2.2.2.1))))).1 h.2.2.2.2.2.2.2))))))))))))))))))))))))))))))))))))))))))))))))))))))))))))))))))))
theorem wX11_add {x1 : Int32} {x2 : Int32} {x3 : Int32} {x4 : Int32} {M : Mem} {K : RT} (hW : Wf M) (h : (vp_in (f_X11_slot (-1 : Int32) M) 64) ∧ ((vp_in (f_X11_slot (-1 : Int32) M) 64) ∧ ((vp_in (f_X11_slot (-1 : Int32) M) 64) ∧ ((vp_in (f_X11_slot (-1 : Int32) M) 64) ∧ ((vp_in (f_X11_slot (-1 : Int32) M) 64) ∧ ((vp_in (f_X11_slot (-1 : Int32) M) 64) ∧ ((vp_in (f_X11_slot (-1 : Int32) M) 64) ∧ K none (m_X9_clear (rR M 19 (f_X11_slot (-1 : Int32) M).toNatClampNeg) (uR (uR (uI (uI (uI (uI (uI (uI M 10 6 (f_X11_slot (-1 : Int32) M)) 10 0 (f_J9_min_7cf53 ((gI M 10 0) + (1 : Int32)) (64 : Int32))) 11 (f_X11_slot (-1 : Int32) M).toNatClampNeg x1) 12 (f_X11_slot (-1 : Int32) M).toNatClampNeg x2) 13 (f_X11_slot (-1 : Int32) M).toNatClampNeg x3) 14 (f_X11_slot (-1 : Int32) M).toNatClampNeg x4) 18 (f_X11_slot (-1 : Int32) M).toNatClampNeg (some (rR M 10 5))) 10 5 (some (rR M 18 (f_X11_slot (-1 : Int32) M).toNatClampNeg))))))))))) : sp_X11_add [.ref 10, .int x1, .int x2, .int x3, .int x4] M K := by
  refine ⟨Nat.le_of_ble_eq_true rfl, fun G hc => ?_⟩
  rw [hW.1] at hc
  exact eX11_add hc hW  h
set_option maxRecDepth 100000 in
theorem eX11_addFault {G : Nat → KT} {K : RT} (hc : cloX11_addFault G K wT) {M : Mem} (hW : Wf M) (h : ((gI M 10 0) ≤ 0 → K none M) ∧ (¬ (gI M 10 0) ≤ 0 → ((vp_in (gI M 10 6) 64) ∧ ((¬ (P_X9_isClear (rR M 19 (gI M 10 6).toNatClampNeg) M) → K none M) ∧ ((P_X9_isClear (rR M 19 (gI M 10 6).toNatClampNeg) M) → ((vp_in (gI M 10 6) 64) ∧ ((vp_in (gI M 10 6) 64) ∧ K none (uR (uR M 19 (gI M 10 6).toNatClampNeg (some (rR M 10 5))) 10 5 (some (rR M 19 (gI M 10 6).toNatClampNeg)))))))))) : G 0 [some (.ref 10), none] [] M :=
  (hc.1 _ _ _ (i_aload rfl (i_getI (okS hW Sk_10) (i_if_le (fun q1026 => (hc.2.2.2 _ _ _ (i_vret hW.1 (h.1 q1026)))) (fun q1026 => (hc.2.1 _ _ _ (i_aload rfl (i_getR (okS hW Sk_10) (nv_10_8 hW) (i_aload rfl (i_getI (okS hW Sk_10) (i_aald hW Ss_19 (h.2 q1026).1 (Wf.mut (M := M) hW (mx_behind (vp_lt (h.2 q1026).1))) (i_callV1 (Nat.le_of_ble_eq_true rfl) (okS hW (Wf.mutS (M := M) hW (mx_behind (vp_lt (h.2 q1026).1)))) (c_X9_isClear hW (Wf.mutS (M := M) hW (mx_behind (vp_lt (h.2 q1026).1))) (i_rI (i_bI_eq (fun q1027 => (hc.2.2.2 _ _ _ (i_vret hW.1 ((h.2 q1026).2.1 q1027)))) (fun q1027 => (hc.2.2.1 _ _ _ (i_aload rfl (i_getR (okS hW Sk_10) (nv_10_8 hW) (i_aload rfl (i_getI (okS hW Sk_10) (i_aald hW Ss_19 ((h.2 q1026).2.2 q1027).1 (Wf.mut (M := M) hW (mx_behind (vp_lt ((h.2 q1026).2.2 q1027).1))) (i_astore (Nat.le_of_ble_eq_true rfl) (i_aload rfl (i_getR (okS hW Sk_10) (nv_10_8 hW) (i_aload rfl (i_getI (okS hW Sk_10) (i_aload rfl (i_getR (okS hW Sk_10) (Wf.mut (M := M) hW (show mx 10 5 = some 6 from by decide)) (i_aast hW Ss_19 (okS hW (Wf.mutS (M := M) hW (show mx 10 5 = some 6 from by decide))) ((h.2 q1026).2.2 q1027).2.1 (i_aload rfl (i_aload rfl (i_putR (okS (Wf_uR hW (mx_behind (vp_lt ((h.2 q1026).2.2 q1027).2.1)) (fx_behind _) (Wf.mutS (M := M) hW (show mx 10 5 = some 6 from by decide))) Sk_10) (hc.2.2.2 _ _ _ (i_vret (Wf_uR (a := 10) (k := 5) (Wf_uR hW (mx_behind (vp_lt ((h.2 q1026).2.2 q1027).2.1)) (fx_behind _) (Wf.mutS (M := M) hW (show mx 10 5 = some 6 from by decide))) (by decide) (by decide +kernel) (Wf.mutS (M := M) hW (mx_behind (vp_lt ((h.2 q1026).2.2 q1027).1)))).1 ((h.2 q1026).2.2 q1027).2.2)))))))))))))))))))))))))))))))))))
theorem wX11_addFault {M : Mem} {K : RT} (hW : Wf M) (h : ((gI M 10 0) ≤ 0 → K none M) ∧ (¬ (gI M 10 0) ≤ 0 → ((vp_in (gI M 10 6) 64) ∧ ((¬ (P_X9_isClear (rR M 19 (gI M 10 6).toNatClampNeg) M) → K none M) ∧ ((P_X9_isClear (rR M 19 (gI M 10 6).toNatClampNeg) M) → ((vp_in (gI M 10 6) 64) ∧ ((vp_in (gI M 10 6) 64) ∧ K none (uR (uR M 19 (gI M 10 6).toNatClampNeg (some (rR M 10 5))) 10 5 (some (rR M 19 (gI M 10 6).toNatClampNeg)))))))))) : sp_X11_addFault [.ref 10] M K := by
  refine ⟨Nat.le_of_ble_eq_true rfl, fun G hc => ?_⟩
  rw [hW.1] at hc
  exact eX11_addFault hc hW  h
set_option maxRecDepth 100000 in
theorem eX11_drop {G : Nat → KT} {K : RT} (hc : cloX11_drop G K wT) {M : Mem} (hW : Wf M) (h : (vp_in (gI M 10 6) 64) ∧ ((q_X9_giveBack (rR M 19 (gI M 10 6).toNatClampNeg) M) ∧ ((vp_in (gI M 10 6) 64) ∧ ((q_X9_giveBack (rR (m_X9_giveBack (rR M 19 (gI M 10 6).toNatClampNeg) M) 18 (gI M 10 6).toNatClampNeg) (m_X9_giveBack (rR M 19 (gI M 10 6).toNatClampNeg) M)) ∧ K (some (.int (gI M 10 6))) (uI (uI (m_X9_giveBack (rR (m_X9_giveBack (rR M 19 (gI M 10 6).toNatClampNeg) M) 18 (gI M 10 6).toNatClampNeg) (m_X9_giveBack (rR M 19 (gI M 10 6).toNatClampNeg) M)) 10 6 (f_X11_slot (1 : Int32) (m_X9_giveBack (rR (m_X9_giveBack (rR M 19 (gI M 10 6).toNatClampNeg) M) 18 (gI M 10 6).toNatClampNeg) (m_X9_giveBack (rR M 19 (gI M 10 6).toNatClampNeg) M)))) 10 0 ((gI (m_X9_giveBack (rR (m_X9_giveBack (rR M 19 (gI M 10 6).toNatClampNeg) M) 18 (gI M 10 6).toNatClampNeg) (m_X9_giveBack (rR M 19 (gI M 10 6).toNatClampNeg) M)) 10 0) - (1 : Int32))))))) : G 0 [some (.ref 10), some (.ref 405), none] [] M :=
  (hc _ _ _ (i_aload rfl (i_getI (okS hW Sk_10) (i_istore (Nat.le_of_ble_eq_true rfl) (i_aload rfl (i_getR (okS hW Sk_10) (nv_10_8 hW) (i_iload rfl (i_aald hW Ss_19 h.1 (Wf.mut (M := M) hW (mx_behind (vp_lt h.1))) (i_aload rfl (i_callV2 (Nat.le_of_ble_eq_true rfl) (okS hW (Wf.mutS (M := M) hW (mx_behind (vp_lt h.1)))) (c_X9_giveBack hW (Wf.mutS (M := M) hW (mx_behind (vp_lt h.1))) h.2.1 (i_rN (i_aload rfl (i_getR (okS (Wf_m_X9_giveBack (M := M) (rR M 19 (gI M 10 6).toNatClampNeg) hW) Sk_10) (nv_10_7 (Wf_m_X9_giveBack (M := M) (rR M 19 (gI M 10 6).toNatClampNeg) hW)) (i_iload rfl (i_aald (Wf_m_X9_giveBack (M := M) (rR M 19 (gI M 10 6).toNatClampNeg) hW) Ss_18 h.2.2.1 (Wf.mut (M := (m_X9_giveBack (rR M 19 (gI M 10 6).toNatClampNeg) M)) (Wf_m_X9_giveBack (M := M) (rR M 19 (gI M 10 6).toNatClampNeg) hW) (mx_ahead (vp_lt h.2.2.1))) (i_aload rfl (i_callV2 (Nat.le_of_ble_eq_true rfl) (okS (Wf_m_X9_giveBack (M := M) (rR M 19 (gI M 10 6).toNatClampNeg) hW) (Wf.mutS (M := (m_X9_giveBack (rR M 19 (gI M 10 6).toNatClampNeg) M)) (Wf_m_X9_giveBack (M := M) (rR M 19 (gI M 10 6).toNatClampNeg) hW) (mx_ahead (vp_lt h.2.2.1)))) (c_X9_giveBack (Wf_m_X9_giveBack (M := M) (rR M 19 (gI M 10 6).toNatClampNeg) hW) (Wf.mutS (M := (m_X9_giveBack (rR M 19 (gI M 10 6).toNatClampNeg) M)) (Wf_m_X9_giveBack (M := M) (rR M 19 (gI M 10 6).toNatClampNeg) hW) (mx_ahead (vp_lt h.2.2.1))) h.2.2.2.1 (i_rN (i_aload rfl (i_aload rfl (i_ic (i_callV2 (Nat.le_of_ble_eq_true rfl) (okS (Wf_m_X9_giveBack (M := (m_X9_giveBack (rR M 19 (gI M 10 6).toNatClampNeg) M)) (rR (m_X9_giveBack (rR M 19 (gI M 10 6).toNatClampNeg) M) 18 (gI M 10 6).toNatClampNeg) (Wf_m_X9_giveBack (M := M) (rR M 19 (gI M 10 6).toNatClampNeg) hW)) Sk_10) (c_X11_slot (Wf_m_X9_giveBack (M := (m_X9_giveBack (rR M 19 (gI M 10 6).toNatClampNeg) M)) (rR (m_X9_giveBack (rR M 19 (gI M 10 6).toNatClampNeg) M) 18 (gI M 10 6).toNatClampNeg) (Wf_m_X9_giveBack (M := M) (rR M 19 (gI M 10 6).toNatClampNeg) hW))  (i_rI (i_putI (okS (Wf_m_X9_giveBack (M := (m_X9_giveBack (rR M 19 (gI M 10 6).toNatClampNeg) M)) (rR (m_X9_giveBack (rR M 19 (gI M 10 6).toNatClampNeg) M) 18 (gI M 10 6).toNatClampNeg) (Wf_m_X9_giveBack (M := M) (rR M 19 (gI M 10 6).toNatClampNeg) hW)) Sk_10) (i_aload rfl (i_dup rfl (i_getIE (okS (Wf_m_X9_giveBack (M := (m_X9_giveBack (rR M 19 (gI M 10 6).toNatClampNeg) M)) (rR (m_X9_giveBack (rR M 19 (gI M 10 6).toNatClampNeg) M) 18 (gI M 10 6).toNatClampNeg) (Wf_m_X9_giveBack (M := M) (rR M 19 (gI M 10 6).toNatClampNeg) hW)) Sk_10) (rI_k (by decide)) (i_ic (i_isub (i_putI (okS (Wf_m_X9_giveBack (M := (m_X9_giveBack (rR M 19 (gI M 10 6).toNatClampNeg) M)) (rR (m_X9_giveBack (rR M 19 (gI M 10 6).toNatClampNeg) M) 18 (gI M 10 6).toNatClampNeg) (Wf_m_X9_giveBack (M := M) (rR M 19 (gI M 10 6).toNatClampNeg) hW)) Sk_10) (i_iload rfl (i_iret (Wf_m_X9_giveBack (M := (m_X9_giveBack (rR M 19 (gI M 10 6).toNatClampNeg) M)) (rR (m_X9_giveBack (rR M 19 (gI M 10 6).toNatClampNeg) M) 18 (gI M 10 6).toNatClampNeg) (Wf_m_X9_giveBack (M := M) (rR M 19 (gI M 10 6).toNatClampNeg) hW)).1 h.2.2.2.2)))))))))))))))))))))))))))))))))))
theorem wX11_drop {M : Mem} {K : RT} (hW : Wf M) (h : (vp_in (gI M 10 6) 64) ∧ ((q_X9_giveBack (rR M 19 (gI M 10 6).toNatClampNeg) M) ∧ ((vp_in (gI M 10 6) 64) ∧ ((q_X9_giveBack (rR (m_X9_giveBack (rR M 19 (gI M 10 6).toNatClampNeg) M) 18 (gI M 10 6).toNatClampNeg) (m_X9_giveBack (rR M 19 (gI M 10 6).toNatClampNeg) M)) ∧ K (some (.int (gI M 10 6))) (uI (uI (m_X9_giveBack (rR (m_X9_giveBack (rR M 19 (gI M 10 6).toNatClampNeg) M) 18 (gI M 10 6).toNatClampNeg) (m_X9_giveBack (rR M 19 (gI M 10 6).toNatClampNeg) M)) 10 6 (f_X11_slot (1 : Int32) (m_X9_giveBack (rR (m_X9_giveBack (rR M 19 (gI M 10 6).toNatClampNeg) M) 18 (gI M 10 6).toNatClampNeg) (m_X9_giveBack (rR M 19 (gI M 10 6).toNatClampNeg) M)))) 10 0 ((gI (m_X9_giveBack (rR (m_X9_giveBack (rR M 19 (gI M 10 6).toNatClampNeg) M) 18 (gI M 10 6).toNatClampNeg) (m_X9_giveBack (rR M 19 (gI M 10 6).toNatClampNeg) M)) 10 0) - (1 : Int32))))))) : sp_X11_drop [.ref 10, .ref 405] M K := by
  refine ⟨Nat.le_of_ble_eq_true rfl, fun G hc => ?_⟩
  rw [hW.1] at hc
  exact eX11_drop hc hW  h
noncomputable def f_X11_drop (M : Mem) : Int32 := (gI M 10 6)
noncomputable def m_X11_drop (M : Mem) : Mem := (uI (uI (m_X9_giveBack (rR (m_X9_giveBack (rR M 19 (gI M 10 6).toNatClampNeg) M) 18 (gI M 10 6).toNatClampNeg) (m_X9_giveBack (rR M 19 (gI M 10 6).toNatClampNeg) M)) 10 6 (f_X11_slot (1 : Int32) (m_X9_giveBack (rR (m_X9_giveBack (rR M 19 (gI M 10 6).toNatClampNeg) M) 18 (gI M 10 6).toNatClampNeg) (m_X9_giveBack (rR M 19 (gI M 10 6).toNatClampNeg) M)))) 10 0 ((gI (m_X9_giveBack (rR (m_X9_giveBack (rR M 19 (gI M 10 6).toNatClampNeg) M) 18 (gI M 10 6).toNatClampNeg) (m_X9_giveBack (rR M 19 (gI M 10 6).toNatClampNeg) M)) 10 0) - (1 : Int32)))
def q_X11_drop (M : Mem) : Prop := ((vp_in (gI M 10 6) 64) ∧ ((q_X9_giveBack (rR M 19 (gI M 10 6).toNatClampNeg) M) ∧ ((vp_in (gI M 10 6) 64) ∧ (q_X9_giveBack (rR (m_X9_giveBack (rR M 19 (gI M 10 6).toNatClampNeg) M) 18 (gI M 10 6).toNatClampNeg) (m_X9_giveBack (rR M 19 (gI M 10 6).toNatClampNeg) M)))))
theorem c_X11_drop {M : Mem} {K : RT} (hW : Wf M) (hp : q_X11_drop  M) (h : K (some (.int (f_X11_drop  M))) (m_X11_drop  M)) : sp_X11_drop [.ref 10, .ref 405] M K := by
  refine wX11_drop hW  ?_
  unfold f_X11_drop m_X11_drop at h
  unfold q_X11_drop at hp
  refine ⟨hp.1, ?_⟩
  refine ⟨hp.2.1, ?_⟩
  refine ⟨hp.2.2.1, ?_⟩
  refine ⟨hp.2.2.2, ?_⟩
  first | exact h | contradiction
theorem Wf_m_X11_drop {M : Mem} (hW : Wf M) : Wf (m_X11_drop  M) := by
  unfold m_X11_drop
  exact (Wf_m_X9_giveBack (M := (m_X9_giveBack (rR M 19 (gI M 10 6).toNatClampNeg) M)) (rR (m_X9_giveBack (rR M 19 (gI M 10 6).toNatClampNeg) M) 18 (gI M 10 6).toNatClampNeg) (Wf_m_X9_giveBack (M := M) (rR M 19 (gI M 10 6).toNatClampNeg) hW))
set_option maxRecDepth 100000 in
theorem eX11_aheadOfLatest {G : Nat → KT} {K : RT} (hc : cloX11_aheadOfLatest G K wT) {M : Mem} (hW : Wf M) (h : (vp_in (gI M 10 6) 64) ∧ K (some (.ref (rR M 18 (gI M 10 6).toNatClampNeg))) M) : G 0 [some (.ref 10)] [] M :=
  (hc _ _ _ (i_aload rfl (i_getR (okS hW Sk_10) (nv_10_7 hW) (i_aload rfl (i_getI (okS hW Sk_10) (i_aald hW Ss_18 h.1 (Wf.mut (M := M) hW (mx_ahead (vp_lt h.1))) (i_aret hW.1 h.2)))))))
theorem wX11_aheadOfLatest {M : Mem} {K : RT} (hW : Wf M) (h : (vp_in (gI M 10 6) 64) ∧ K (some (.ref (rR M 18 (gI M 10 6).toNatClampNeg))) M) : sp_X11_aheadOfLatest [.ref 10] M K := by
  refine ⟨Nat.le_of_ble_eq_true rfl, fun G hc => ?_⟩
  rw [hW.1] at hc
  exact eX11_aheadOfLatest hc hW  h
end C05
