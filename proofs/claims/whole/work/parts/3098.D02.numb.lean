section D02
set_option maxRecDepth 100000 in
theorem eJxf58ca_isNaN_12338 {G : Nat → KT} {K : RT} (hc : cloJxf58ca_isNaN_12338 G K wT) {x0 : UInt32} {M : Mem} (hW : Wf M) (h : ((Op.cmpValue (FP.fcmp x0 x0) .l) = 0 → K (some (.int (0 : Int32))) M) ∧ (¬ (Op.cmpValue (FP.fcmp x0 x0) .l) = 0 → K (some (.int (1 : Int32))) M)) : G 0 [some (.float x0)] [] M :=
  (hc.1 _ _ _ (i_fload rfl (i_fload rfl (i_fcmp (i_if_eq (fun q1582 => (hc.2.2.1 _ _ _ (i_ic (hc.2.2.2 _ _ _ (i_zret (by decide) hW.1 (h.1 q1582)))))) (fun q1582 => (hc.2.1 _ _ _ (i_ic (hc.2.2.2 _ _ _ (i_zret (by decide) hW.1 (h.2 q1582)))))))))))
theorem wJxf58ca_isNaN_12338 {x0 : UInt32} {M : Mem} {K : RT} (hW : Wf M) (h : ((Op.cmpValue (FP.fcmp x0 x0) .l) = 0 → K (some (.int (0 : Int32))) M) ∧ (¬ (Op.cmpValue (FP.fcmp x0 x0) .l) = 0 → K (some (.int (1 : Int32))) M)) : sp_Jxf58ca_isNaN_12338 [.float x0] M K := by
  refine ⟨Nat.le_of_ble_eq_true rfl, fun G hc => ?_⟩
  rw [hW.1] at hc
  exact eJxf58ca_isNaN_12338 hc hW  h
def P_Jxf58ca_isNaN_12338 (x0 : UInt32) : Prop := (¬ (Op.cmpValue (FP.fcmp x0 x0) .l) = 0)
theorem c_Jxf58ca_isNaN_12338 {x0 : UInt32} {M : Mem} {K : RT} (hW : Wf M) (h : K (some (.int (pI (P_Jxf58ca_isNaN_12338 x0)))) M) : sp_Jxf58ca_isNaN_12338 [.float x0] M K := by
  refine wJxf58ca_isNaN_12338 hW  ?_
  unfold P_Jxf58ca_isNaN_12338 at h
  refine ⟨fun q0 => ?_, fun q0 => ?_⟩
  · skip
    exact pI_goF h (by simp only [eq_true q0, not_true_eq_false, not_false_eq_true, true_and, false_and, and_true, and_false, true_or, or_true, false_or, or_false, iff_self])
  · skip
    exact pI_goT h (by simp only [eq_false q0, not_true_eq_false, not_false_eq_true, true_and, false_and, and_true, and_false, true_or, or_true, false_or, or_false, iff_self])
set_option maxRecDepth 100000 in
theorem eJxf58ca_floatToIntBits_5c35a {G : Nat → KT} {K : RT} (hc : cloJxf58ca_floatToIntBits_5c35a G K wT) {x0 : UInt32} {M : Mem} (hW : Wf M) (h : ((P_Jxf58ca_isNaN_12338 x0) → K (some (.int (2143289344 : Int32))) M) ∧ (¬ (P_Jxf58ca_isNaN_12338 x0) → K (some (.int (x0.toInt32))) M)) : G 0 [some (.float x0)] [] M :=
  (hc.1 _ _ _ (i_fload rfl (i_callS1 (Nat.le_of_ble_eq_true rfl) (c_Jxf58ca_isNaN_12338 hW  (i_rI (i_bI_ne (fun q1583 => (hc.2.2 _ _ _ (i_ic (i_iret hW.1 (h.1 q1583))))) (fun q1583 => (hc.2.1 _ _ _ (i_fload rfl (i_f2raw (Nat.le_of_ble_eq_true rfl) (i_iret hW.1 (h.2 q1583))))))))))))
theorem wJxf58ca_floatToIntBits_5c35a {x0 : UInt32} {M : Mem} {K : RT} (hW : Wf M) (h : ((P_Jxf58ca_isNaN_12338 x0) → K (some (.int (2143289344 : Int32))) M) ∧ (¬ (P_Jxf58ca_isNaN_12338 x0) → K (some (.int (x0.toInt32))) M)) : sp_Jxf58ca_floatToIntBits_5c35a [.float x0] M K := by
  refine ⟨Nat.le_of_ble_eq_true rfl, fun G hc => ?_⟩
  rw [hW.1] at hc
  exact eJxf58ca_floatToIntBits_5c35a hc hW  h
noncomputable def f_Jxf58ca_floatToIntBits_5c35a (x0 : UInt32) : Int32 := (iT ((P_Jxf58ca_isNaN_12338 x0)) (2143289344 : Int32) (x0.toInt32))
theorem c_Jxf58ca_floatToIntBits_5c35a {x0 : UInt32} {M : Mem} {K : RT} (hW : Wf M) (h : K (some (.int (f_Jxf58ca_floatToIntBits_5c35a x0))) M) : sp_Jxf58ca_floatToIntBits_5c35a [.float x0] M K := by
  refine wJxf58ca_floatToIntBits_5c35a hW  ?_
  unfold f_Jxf58ca_floatToIntBits_5c35a at h
  refine ⟨fun q0 => ?_, fun q0 => ?_⟩
  · skip
    try simp only [iT_t q0] at h
    first | exact h | contradiction
  · skip
    try simp only [iT_f q0] at h
    first | exact h | contradiction
set_option maxRecDepth 100000 in
theorem eJxe99ae_isNaN_b9ae7 {G : Nat → KT} {K : RT} (hc : cloJxe99ae_isNaN_b9ae7 G K wT) {x0 : UInt64} {M : Mem} (hW : Wf M) (h : ((Op.cmpValue (FP.dcmp x0 x0) .l) = 0 → K (some (.int (0 : Int32))) M) ∧ (¬ (Op.cmpValue (FP.dcmp x0 x0) .l) = 0 → K (some (.int (1 : Int32))) M)) : G 0 [some (.double x0), none] [] M :=
  (hc.1 _ _ _ (i_dload rfl (i_dload rfl (i_dcmp (i_if_eq (fun q1584 => (hc.2.2.1 _ _ _ (i_ic (hc.2.2.2 _ _ _ (i_zret (by decide) hW.1 (h.1 q1584)))))) (fun q1584 => (hc.2.1 _ _ _ (i_ic (hc.2.2.2 _ _ _ (i_zret (by decide) hW.1 (h.2 q1584)))))))))))
theorem wJxe99ae_isNaN_b9ae7 {x0 : UInt64} {M : Mem} {K : RT} (hW : Wf M) (h : ((Op.cmpValue (FP.dcmp x0 x0) .l) = 0 → K (some (.int (0 : Int32))) M) ∧ (¬ (Op.cmpValue (FP.dcmp x0 x0) .l) = 0 → K (some (.int (1 : Int32))) M)) : sp_Jxe99ae_isNaN_b9ae7 [.double x0] M K := by
  refine ⟨Nat.le_of_ble_eq_true rfl, fun G hc => ?_⟩
  rw [hW.1] at hc
  exact eJxe99ae_isNaN_b9ae7 hc hW  h
def P_Jxe99ae_isNaN_b9ae7 (x0 : UInt64) : Prop := (¬ (Op.cmpValue (FP.dcmp x0 x0) .l) = 0)
theorem c_Jxe99ae_isNaN_b9ae7 {x0 : UInt64} {M : Mem} {K : RT} (hW : Wf M) (h : K (some (.int (pI (P_Jxe99ae_isNaN_b9ae7 x0)))) M) : sp_Jxe99ae_isNaN_b9ae7 [.double x0] M K := by
  refine wJxe99ae_isNaN_b9ae7 hW  ?_
  unfold P_Jxe99ae_isNaN_b9ae7 at h
  refine ⟨fun q0 => ?_, fun q0 => ?_⟩
  · skip
    exact pI_goF h (by simp only [eq_true q0, not_true_eq_false, not_false_eq_true, true_and, false_and, and_true, and_false, true_or, or_true, false_or, or_false, iff_self])
  · skip
    exact pI_goT h (by simp only [eq_false q0, not_true_eq_false, not_false_eq_true, true_and, false_and, and_true, and_false, true_or, or_true, false_or, or_false, iff_self])
set_option maxRecDepth 100000 in
theorem eJxe99ae_doubleToLongBits_ccdee {G : Nat → KT} {K : RT} (hc : cloJxe99ae_doubleToLongBits_ccdee G K wT) {x0 : UInt64} {M : Mem} (hW : Wf M) (h : ((P_Jxe99ae_isNaN_b9ae7 x0) → K (some (.long (9221120237041090560 : Int64))) M) ∧ (¬ (P_Jxe99ae_isNaN_b9ae7 x0) → K (some (.long (x0.toInt64))) M)) : G 0 [some (.double x0), none] [] M :=
  (hc.1 _ _ _ (i_dload rfl (i_callS1 (Nat.le_of_ble_eq_true rfl) (c_Jxe99ae_isNaN_b9ae7 hW  (i_rI (i_bI_ne (fun q1585 => (hc.2.2 _ _ _ (i_lc (i_lret hW.1 (h.1 q1585))))) (fun q1585 => (hc.2.1 _ _ _ (i_dload rfl (i_d2raw (Nat.le_of_ble_eq_true rfl) (i_lret hW.1 (h.2 q1585))))))))))))
theorem wJxe99ae_doubleToLongBits_ccdee {x0 : UInt64} {M : Mem} {K : RT} (hW : Wf M) (h : ((P_Jxe99ae_isNaN_b9ae7 x0) → K (some (.long (9221120237041090560 : Int64))) M) ∧ (¬ (P_Jxe99ae_isNaN_b9ae7 x0) → K (some (.long (x0.toInt64))) M)) : sp_Jxe99ae_doubleToLongBits_ccdee [.double x0] M K := by
  refine ⟨Nat.le_of_ble_eq_true rfl, fun G hc => ?_⟩
  rw [hW.1] at hc
  exact eJxe99ae_doubleToLongBits_ccdee hc hW  h
noncomputable def f_Jxe99ae_doubleToLongBits_ccdee (x0 : UInt64) : Int64 := (iT ((P_Jxe99ae_isNaN_b9ae7 x0)) (9221120237041090560 : Int64) (x0.toInt64))
theorem c_Jxe99ae_doubleToLongBits_ccdee {x0 : UInt64} {M : Mem} {K : RT} (hW : Wf M) (h : K (some (.long (f_Jxe99ae_doubleToLongBits_ccdee x0))) M) : sp_Jxe99ae_doubleToLongBits_ccdee [.double x0] M K := by
  refine wJxe99ae_doubleToLongBits_ccdee hW  ?_
  unfold f_Jxe99ae_doubleToLongBits_ccdee at h
  refine ⟨fun q0 => ?_, fun q0 => ?_⟩
  · skip
    try simp only [iT_t q0] at h
    first | exact h | contradiction
  · skip
    try simp only [iT_f q0] at h
    first | exact h | contradiction
set_option maxRecDepth 100000 in
theorem eX13_bits {G : Nat → KT} {K : RT} (hc : cloX13_bits G K wT) {x0 : Int32} {x1 : Int64} {x3 : UInt64} {M : Mem} (hW : Wf M) (h : (¬ x0 = (5 : Int32) → ((¬ x0 = (6 : Int32) → K (some (.long x1)) M) ∧ (x0 = (6 : Int32) → K (some (.long (f_Jxe99ae_doubleToLongBits_ccdee x3))) M))) ∧ (x0 = (5 : Int32) → ((vf_n32 (FP.d2f x3)) ∧ K (some (.long ((f_Jxf58ca_floatToIntBits_5c35a (FP.d2f x3)).toInt64))) M))) : G 0 [some (.int x0), some (.long x1), none, some (.double x3), none] [] M :=
  (hc.1 _ _ _ (i_iload rfl (i_ic (i_icmp_ne (fun q1586 => (hc.2.2.1 _ _ _ (i_iload rfl (i_ic (i_icmp_ne (fun q1587 => (hc.2.2.2.2.1 _ _ _ (i_lload rfl (hc.2.2.2.2.2 _ _ _ (i_lret hW.1 ((h.1 q1586).1 q1587)))))) (fun q1587 => (hc.2.2.2.1 _ _ _ (i_dload rfl (i_callS1 (Nat.le_of_ble_eq_true rfl) (c_Jxe99ae_doubleToLongBits_ccdee hW  (i_rJ (hc.2.2.2.2.2 _ _ _ (i_lret hW.1 ((h.1 q1586).2 q1587)))))))))))))) (fun q1586 => (hc.2.1 _ _ _ (i_dload rfl (i_d2f (h.2 q1586).1 (i_callS1 (Nat.le_of_ble_eq_true rfl) (c_Jxf58ca_floatToIntBits_5c35a hW  (i_rI (i_i2l (hc.2.2.2.2.2 _ _ _ (i_lret hW.1 (h.2 q1586).2))))))))))))))
theorem wX13_bits {x0 : Int32} {x1 : Int64} {x3 : UInt64} {M : Mem} {K : RT} (hW : Wf M) (h : (¬ x0 = (5 : Int32) → ((¬ x0 = (6 : Int32) → K (some (.long x1)) M) ∧ (x0 = (6 : Int32) → K (some (.long (f_Jxe99ae_doubleToLongBits_ccdee x3))) M))) ∧ (x0 = (5 : Int32) → ((vf_n32 (FP.d2f x3)) ∧ K (some (.long ((f_Jxf58ca_floatToIntBits_5c35a (FP.d2f x3)).toInt64))) M))) : sp_X13_bits [.int x0, .long x1, .double x3] M K := by
  refine ⟨Nat.le_of_ble_eq_true rfl, fun G hc => ?_⟩
  rw [hW.1] at hc
  exact eX13_bits hc hW  h
noncomputable def f_X13_bits (x0 : Int32) (x1 : Int64) (x3 : UInt64) : Int64 := (if x0 = (5 : Int32) then ((f_Jxf58ca_floatToIntBits_5c35a (FP.d2f x3)).toInt64) else (if x0 = (6 : Int32) then (f_Jxe99ae_doubleToLongBits_ccdee x3) else x1))
def q_X13_bits (x0 : Int32) (x1 : Int64) (x3 : UInt64) : Prop := (x0 = (5 : Int32) → (vf_n32 (FP.d2f x3)))
theorem c_X13_bits {x0 : Int32} {x1 : Int64} {x3 : UInt64} {M : Mem} {K : RT} (hW : Wf M) (hp : q_X13_bits x0 x1 x3) (h : K (some (.long (f_X13_bits x0 x1 x3))) M) : sp_X13_bits [.int x0, .long x1, .double x3] M K := by
  refine wX13_bits hW  ?_
  unfold f_X13_bits at h
  unfold q_X13_bits at hp
  refine ⟨fun q0 => ?_, fun q0 => ?_⟩
  · skip
    try simp only [if_neg q0] at h
    refine ⟨fun q1 => ?_, fun q1 => ?_⟩
    · skip
      try simp only [if_neg q1] at h
      first | exact h | contradiction
    · skip
      try simp only [if_pos q1] at h
      first | exact h | contradiction
  · have hq0 := hp q0
    try simp only [if_pos q0] at h
    refine ⟨hq0, ?_⟩
    first | exact h | contradiction
set_option maxRecDepth 100000 in
theorem eX13_isReal {G : Nat → KT} {K : RT} (hc : cloX13_isReal G K wT) {x0 : Int32} {M : Mem} (hW : Wf M) (h : (x0 ≤ (4 : Int32) → K (some (.int (0 : Int32))) M) ∧ (¬ x0 ≤ (4 : Int32) → K (some (.int (1 : Int32))) M)) : G 0 [some (.int x0)] [] M :=
  (hc.1 _ _ _ (i_iload rfl (i_ic (i_icmp_le (fun q1588 => (hc.2.2.1 _ _ _ (i_ic (hc.2.2.2 _ _ _ (i_zret (by decide) hW.1 (h.1 q1588)))))) (fun q1588 => (hc.2.1 _ _ _ (i_ic (hc.2.2.2 _ _ _ (i_zret (by decide) hW.1 (h.2 q1588))))))))))
theorem wX13_isReal {x0 : Int32} {M : Mem} {K : RT} (hW : Wf M) (h : (x0 ≤ (4 : Int32) → K (some (.int (0 : Int32))) M) ∧ (¬ x0 ≤ (4 : Int32) → K (some (.int (1 : Int32))) M)) : sp_X13_isReal [.int x0] M K := by
  refine ⟨Nat.le_of_ble_eq_true rfl, fun G hc => ?_⟩
  rw [hW.1] at hc
  exact eX13_isReal hc hW  h
def P_X13_isReal (x0 : Int32) : Prop := (¬ x0 ≤ (4 : Int32))
theorem c_X13_isReal {x0 : Int32} {M : Mem} {K : RT} (hW : Wf M) (h : K (some (.int (pI (P_X13_isReal x0)))) M) : sp_X13_isReal [.int x0] M K := by
  refine wX13_isReal hW  ?_
  unfold P_X13_isReal at h
  refine ⟨fun q0 => ?_, fun q0 => ?_⟩
  · skip
    exact pI_goF h (by simp only [eq_true q0, not_true_eq_false, not_false_eq_true, true_and, false_and, and_true, and_false, true_or, or_true, false_or, or_false, iff_self])
  · skip
    exact pI_goT h (by simp only [eq_false q0, not_true_eq_false, not_false_eq_true, true_and, false_and, and_true, and_false, true_or, or_true, false_or, or_false, iff_self])
set_option maxRecDepth 100000 in
theorem eX13_low {G : Nat → KT} {K : RT} (hc : cloX13_low G K wT) {x0 : Int32} {x1 : Int64} {M : Mem} (hW : Wf M) (h : (x0 = 0 → K (some (.long (((x1.toInt32).toInt8.toInt32).toInt64))) M) ∧ (¬ x0 = 0 → ((x0 = 1 → K (some (.long (((x1.toInt32).toInt16.toInt32).toInt64))) M) ∧ (¬ x0 = 1 → ((x0 = 2 → K (some (.long (x1 &&& (65535 : Int64)))) M) ∧ (¬ x0 = 2 → ((x0 = 3 → K (some (.long ((x1.toInt32).toInt64))) M) ∧ (¬ x0 = 3 → ((x0 = 4 → K (some (.long x1)) M) ∧ (¬ x0 = 4 → K (some (.long ((x1.toInt32).toInt64))) M)))))))))) : G 0 [some (.int x0), some (.long x1), none] [] M :=
  (hc.1 _ _ _ (i_iload rfl (And.intro (fun q1589 => (hc.2.1 _ _ _ (i_lload rfl (i_l2i (i_i2b (i_i2l (i_lret hW.1 (h.1 q1589)))))))) (fun q1589 => (And.intro (fun q1590 => (hc.2.2.1 _ _ _ (i_lload rfl (i_l2i (i_i2s (i_i2l (i_lret hW.1 ((h.2 q1589).1 q1590)))))))) (fun q1590 => (And.intro (fun q1591 => (hc.2.2.2.1 _ _ _ (i_lload rfl (i_lc (i_land (i_lret hW.1 (((h.2 q1589).2 q1590).1 q1591))))))) (fun q1591 => (And.intro (fun q1592 => (hc.2.2.2.2.2 _ _ _ (i_lload rfl (i_l2i (i_i2l (i_lret hW.1 ((((h.2 q1589).2 q1590).2 q1591).1 q1592))))))) (fun q1592 => (And.intro (fun q1593 => (hc.2.2.2.2.1 _ _ _ (i_lload rfl (i_lret hW.1 (((((h.2 q1589).2 q1590).2 q1591).2 q1592).1 q1593))))) (fun q1593 => (hc.2.2.2.2.2 _ _ _ (i_lload rfl (i_l2i (i_i2l (i_lret hW.1 (((((h.2 q1589).2 q1590).2 q1591).2 q1592).2 q1593))))))))))))))))))
theorem wX13_low {x0 : Int32} {x1 : Int64} {M : Mem} {K : RT} (hW : Wf M) (h : (x0 = 0 → K (some (.long (((x1.toInt32).toInt8.toInt32).toInt64))) M) ∧ (¬ x0 = 0 → ((x0 = 1 → K (some (.long (((x1.toInt32).toInt16.toInt32).toInt64))) M) ∧ (¬ x0 = 1 → ((x0 = 2 → K (some (.long (x1 &&& (65535 : Int64)))) M) ∧ (¬ x0 = 2 → ((x0 = 3 → K (some (.long ((x1.toInt32).toInt64))) M) ∧ (¬ x0 = 3 → ((x0 = 4 → K (some (.long x1)) M) ∧ (¬ x0 = 4 → K (some (.long ((x1.toInt32).toInt64))) M)))))))))) : sp_X13_low [.int x0, .long x1] M K := by
  refine ⟨Nat.le_of_ble_eq_true rfl, fun G hc => ?_⟩
  rw [hW.1] at hc
  exact eX13_low hc hW  h
noncomputable def f_X13_low (x0 : Int32) (x1 : Int64) : Int64 := (if x0 = 0 then (((x1.toInt32).toInt8.toInt32).toInt64) else (if x0 = 1 then (((x1.toInt32).toInt16.toInt32).toInt64) else (if x0 = 2 then (x1 &&& (65535 : Int64)) else (if x0 = 3 then ((x1.toInt32).toInt64) else (if x0 = 4 then x1 else ((x1.toInt32).toInt64))))))
theorem c_X13_low {x0 : Int32} {x1 : Int64} {M : Mem} {K : RT} (hW : Wf M) (h : K (some (.long (f_X13_low x0 x1))) M) : sp_X13_low [.int x0, .long x1] M K := by
  refine wX13_low hW  ?_
  unfold f_X13_low at h
  refine ⟨fun q0 => ?_, fun q0 => ?_⟩
  · skip
    try simp only [if_pos q0] at h
    first | exact h | contradiction
  · skip
    try simp only [if_neg q0] at h
    refine ⟨fun q1 => ?_, fun q1 => ?_⟩
    · skip
      try simp only [if_pos q1] at h
      first | exact h | contradiction
    · skip
      try simp only [if_neg q1] at h
      refine ⟨fun q2 => ?_, fun q2 => ?_⟩
      · skip
        try simp only [if_pos q2] at h
        first | exact h | contradiction
      · skip
        try simp only [if_neg q2] at h
        refine ⟨fun q3 => ?_, fun q3 => ?_⟩
        · skip
          try simp only [if_pos q3] at h
          first | exact h | contradiction
        · skip
          try simp only [if_neg q3] at h
          refine ⟨fun q4 => ?_, fun q4 => ?_⟩
          · skip
            try simp only [if_pos q4] at h
            first | exact h | contradiction
          · skip
            try simp only [if_neg q4] at h
            first | exact h | contradiction
set_option maxRecDepth 100000 in
theorem eX13_width {G : Nat → KT} {K : RT} (hc : cloX13_width G K wT) {x0 : Int32} {M : Mem} (hW : Wf M) (h : (¬ x0 = 0 → ((x0 = (1 : Int32) → K (some (.int (16 : Int32))) M) ∧ (¬ x0 = (1 : Int32) → ((¬ x0 = (2 : Int32) → ((¬ x0 = (3 : Int32) → K (some (.int (64 : Int32))) M) ∧ (x0 = (3 : Int32) → K (some (.int (32 : Int32))) M))) ∧ (x0 = (2 : Int32) → K (some (.int (16 : Int32))) M))))) ∧ (x0 = 0 → K (some (.int (8 : Int32))) M)) : G 0 [some (.int x0)] [] M :=
  (hc.1 _ _ _ (i_iload rfl (i_if_ne (fun q1594 => (hc.2.2.1 _ _ _ (i_iload rfl (i_ic (i_icmp_eq (fun q1595 => (hc.2.2.2.2.1 _ _ _ (i_ic (hc.2.2.2.2.2.2.2.2 _ _ _ (i_iret hW.1 ((h.1 q1594).1 q1595)))))) (fun q1595 => (hc.2.2.2.1 _ _ _ (i_iload rfl (i_ic (i_icmp_ne (fun q1596 => (hc.2.2.2.2.2.1 _ _ _ (i_iload rfl (i_ic (i_icmp_ne (fun q1597 => (hc.2.2.2.2.2.2.2.1 _ _ _ (i_ic (hc.2.2.2.2.2.2.2.2 _ _ _ (i_iret hW.1 ((((h.1 q1594).2 q1595).1 q1596).1 q1597)))))) (fun q1597 => (hc.2.2.2.2.2.2.1 _ _ _ (i_ic (hc.2.2.2.2.2.2.2.2 _ _ _ (i_iret hW.1 ((((h.1 q1594).2 q1595).1 q1596).2 q1597))))))))))) (fun q1596 => (hc.2.2.2.2.1 _ _ _ (i_ic (hc.2.2.2.2.2.2.2.2 _ _ _ (i_iret hW.1 (((h.1 q1594).2 q1595).2 q1596)))))))))))))))) (fun q1594 => (hc.2.1 _ _ _ (i_ic (hc.2.2.2.2.2.2.2.2 _ _ _ (i_iret hW.1 (h.2 q1594)))))))))
theorem wX13_width {x0 : Int32} {M : Mem} {K : RT} (hW : Wf M) (h : (¬ x0 = 0 → ((x0 = (1 : Int32) → K (some (.int (16 : Int32))) M) ∧ (¬ x0 = (1 : Int32) → ((¬ x0 = (2 : Int32) → ((¬ x0 = (3 : Int32) → K (some (.int (64 : Int32))) M) ∧ (x0 = (3 : Int32) → K (some (.int (32 : Int32))) M))) ∧ (x0 = (2 : Int32) → K (some (.int (16 : Int32))) M))))) ∧ (x0 = 0 → K (some (.int (8 : Int32))) M)) : sp_X13_width [.int x0] M K := by
  refine ⟨Nat.le_of_ble_eq_true rfl, fun G hc => ?_⟩
  rw [hW.1] at hc
  exact eX13_width hc hW  h
noncomputable def f_X13_width (x0 : Int32) : Int32 := (if x0 = 0 then (8 : Int32) else (if x0 = (1 : Int32) then (16 : Int32) else (if x0 = (2 : Int32) then (16 : Int32) else (if x0 = (3 : Int32) then (32 : Int32) else (64 : Int32)))))
theorem c_X13_width {x0 : Int32} {M : Mem} {K : RT} (hW : Wf M) (h : K (some (.int (f_X13_width x0))) M) : sp_X13_width [.int x0] M K := by
  refine wX13_width hW  ?_
  unfold f_X13_width at h
  refine ⟨fun q0 => ?_, fun q0 => ?_⟩
  · skip
    try simp only [if_neg q0] at h
    refine ⟨fun q1 => ?_, fun q1 => ?_⟩
    · skip
      try simp only [if_pos q1] at h
      first | exact h | contradiction
    · skip
      try simp only [if_neg q1] at h
      refine ⟨fun q2 => ?_, fun q2 => ?_⟩
      · skip
        try simp only [if_neg q2] at h
        refine ⟨fun q3 => ?_, fun q3 => ?_⟩
        · skip
          try simp only [if_neg q3] at h
          first | exact h | contradiction
        · skip
          try simp only [if_pos q3] at h
          first | exact h | contradiction
      · skip
        try simp only [if_pos q2] at h
        first | exact h | contradiction
  · skip
    try simp only [if_pos q0] at h
    first | exact h | contradiction
set_option maxRecDepth 100000 in
theorem eX13_isInfinite {G : Nat → KT} {K : RT} (hc : cloX13_isInfinite G K wT) {x0 : UInt64} {M : Mem} (hW : Wf M) (h : ((Op.cmpValue (FP.dcmp x0 (9218868437227405312 : UInt64)) .l) = 0 → K (some (.int (1 : Int32))) M) ∧ (¬ (Op.cmpValue (FP.dcmp x0 (9218868437227405312 : UInt64)) .l) = 0 → ((¬ (Op.cmpValue (FP.dcmp x0 (18442240474082181120 : UInt64)) .l) = 0 → K (some (.int (0 : Int32))) M) ∧ ((Op.cmpValue (FP.dcmp x0 (18442240474082181120 : UInt64)) .l) = 0 → K (some (.int (1 : Int32))) M)))) : G 0 [some (.double x0), none] [] M :=
  (hc.1 _ _ _ (i_dload rfl (i_dc (i_dcmp (i_if_eq (fun q1598 => (hc.2.2.1 _ _ _ (i_ic (hc.2.2.2.2 _ _ _ (i_zret (by decide) hW.1 (h.1 q1598)))))) (fun q1598 => (hc.2.1 _ _ _ (i_dload rfl (i_dc (i_dcmp (i_if_ne (fun q1599 => (hc.2.2.2.1 _ _ _ (i_ic (hc.2.2.2.2 _ _ _ (i_zret (by decide) hW.1 ((h.2 q1598).1 q1599)))))) (fun q1599 => (hc.2.2.1 _ _ _ (i_ic (hc.2.2.2.2 _ _ _ (i_zret (by decide) hW.1 ((h.2 q1598).2 q1599)))))))))))))))))
theorem wX13_isInfinite {x0 : UInt64} {M : Mem} {K : RT} (hW : Wf M) (h : ((Op.cmpValue (FP.dcmp x0 (9218868437227405312 : UInt64)) .l) = 0 → K (some (.int (1 : Int32))) M) ∧ (¬ (Op.cmpValue (FP.dcmp x0 (9218868437227405312 : UInt64)) .l) = 0 → ((¬ (Op.cmpValue (FP.dcmp x0 (18442240474082181120 : UInt64)) .l) = 0 → K (some (.int (0 : Int32))) M) ∧ ((Op.cmpValue (FP.dcmp x0 (18442240474082181120 : UInt64)) .l) = 0 → K (some (.int (1 : Int32))) M)))) : sp_X13_isInfinite [.double x0] M K := by
  refine ⟨Nat.le_of_ble_eq_true rfl, fun G hc => ?_⟩
  rw [hW.1] at hc
  exact eX13_isInfinite hc hW  h
def P_X13_isInfinite (x0 : UInt64) : Prop := (((Op.cmpValue (FP.dcmp x0 (9218868437227405312 : UInt64)) .l) = 0) ∨ ((Op.cmpValue (FP.dcmp x0 (18442240474082181120 : UInt64)) .l) = 0))
theorem c_X13_isInfinite {x0 : UInt64} {M : Mem} {K : RT} (hW : Wf M) (h : K (some (.int (pI (P_X13_isInfinite x0)))) M) : sp_X13_isInfinite [.double x0] M K := by
  refine wX13_isInfinite hW  ?_
  unfold P_X13_isInfinite at h
  refine ⟨fun q0 => ?_, fun q0 => ?_⟩
  · skip
    exact pI_goT h (by simp only [eq_true q0, not_true_eq_false, not_false_eq_true, true_and, false_and, and_true, and_false, true_or, or_true, false_or, or_false, iff_self])
  · skip
    refine ⟨fun q1 => ?_, fun q1 => ?_⟩
    · skip
      exact pI_goF h (by simp only [eq_false q0, eq_false q1, not_true_eq_false, not_false_eq_true, true_and, false_and, and_true, and_false, true_or, or_true, false_or, or_false, iff_self])
    · skip
      exact pI_goT h (by simp only [eq_false q0, eq_true q1, not_true_eq_false, not_false_eq_true, true_and, false_and, and_true, and_false, true_or, or_true, false_or, or_false, iff_self])
set_option maxRecDepth 100000 in
theorem eX13_near {G : Nat → KT} {K : RT} (hc : cloX13_near G K wT) {x0 : Int32} {x1 : UInt64} {M : Mem} (hW : Wf M) (h : (¬ x0 = (5 : Int32) → K (some (.double x1)) M) ∧ (x0 = (5 : Int32) → ((vf_n32 (FP.d2f x1)) ∧ ((vf_n64 (FP.f2d (FP.d2f x1))) ∧ K (some (.double (FP.f2d (FP.d2f x1)))) M)))) : G 0 [some (.int x0), some (.double x1), none] [] M :=
  (hc.1 _ _ _ (i_iload rfl (i_ic (i_icmp_ne (fun q1600 => (hc.2.2.1 _ _ _ (i_dload rfl (hc.2.2.2 _ _ _ (i_dret hW.1 (h.1 q1600)))))) (fun q1600 => (hc.2.1 _ _ _ (i_dload rfl (i_d2f (h.2 q1600).1 (i_f2d (h.2 q1600).2.1 (hc.2.2.2 _ _ _ (i_dret hW.1 (h.2 q1600).2.2)))))))))))
theorem wX13_near {x0 : Int32} {x1 : UInt64} {M : Mem} {K : RT} (hW : Wf M) (h : (¬ x0 = (5 : Int32) → K (some (.double x1)) M) ∧ (x0 = (5 : Int32) → ((vf_n32 (FP.d2f x1)) ∧ ((vf_n64 (FP.f2d (FP.d2f x1))) ∧ K (some (.double (FP.f2d (FP.d2f x1)))) M)))) : sp_X13_near [.int x0, .double x1] M K := by
  refine ⟨Nat.le_of_ble_eq_true rfl, fun G hc => ?_⟩
  rw [hW.1] at hc
  exact eX13_near hc hW  h
noncomputable def f_X13_near (x0 : Int32) (x1 : UInt64) : UInt64 := (if x0 = (5 : Int32) then (FP.f2d (FP.d2f x1)) else x1)
def q_X13_near (x0 : Int32) (x1 : UInt64) : Prop := (x0 = (5 : Int32) → ((vf_n32 (FP.d2f x1)) ∧ (vf_n64 (FP.f2d (FP.d2f x1)))))
theorem c_X13_near {x0 : Int32} {x1 : UInt64} {M : Mem} {K : RT} (hW : Wf M) (hp : q_X13_near x0 x1) (h : K (some (.double (f_X13_near x0 x1))) M) : sp_X13_near [.int x0, .double x1] M K := by
  refine wX13_near hW  ?_
  unfold f_X13_near at h
  unfold q_X13_near at hp
  refine ⟨fun q0 => ?_, fun q0 => ?_⟩
  · skip
    try simp only [if_neg q0] at h
    first | exact h | contradiction
  · have hq0 := hp q0
    try simp only [if_pos q0] at h
    refine ⟨hq0.1, ?_⟩
    refine ⟨hq0.2, ?_⟩
    first | exact h | contradiction
set_option maxRecDepth 100000 in
theorem eX13_nearLong {G : Nat → KT} {K : RT} (hc : cloX13_nearLong G K wT) {x0 : Int32} {x1 : Int64} {M : Mem} (hW : Wf M) (h : (¬ x0 = (5 : Int32) → K (some (.double (FP.l2d x1))) M) ∧ (x0 = (5 : Int32) → ((vf_n64 (FP.f2d (FP.l2f x1))) ∧ K (some (.double (FP.f2d (FP.l2f x1)))) M))) : G 0 [some (.int x0), some (.long x1), none] [] M :=
  (hc.1 _ _ _ (i_iload rfl (i_ic (i_icmp_ne (fun q1601 => (hc.2.2.1 _ _ _ (i_lload rfl (i_l2d (hc.2.2.2 _ _ _ (i_dret hW.1 (h.1 q1601))))))) (fun q1601 => (hc.2.1 _ _ _ (i_lload rfl (i_l2f (i_f2d (h.2 q1601).1 (hc.2.2.2 _ _ _ (i_dret hW.1 (h.2 q1601).2)))))))))))
theorem wX13_nearLong {x0 : Int32} {x1 : Int64} {M : Mem} {K : RT} (hW : Wf M) (h : (¬ x0 = (5 : Int32) → K (some (.double (FP.l2d x1))) M) ∧ (x0 = (5 : Int32) → ((vf_n64 (FP.f2d (FP.l2f x1))) ∧ K (some (.double (FP.f2d (FP.l2f x1)))) M))) : sp_X13_nearLong [.int x0, .long x1] M K := by
  refine ⟨Nat.le_of_ble_eq_true rfl, fun G hc => ?_⟩
  rw [hW.1] at hc
  exact eX13_nearLong hc hW  h
noncomputable def f_X13_nearLong (x0 : Int32) (x1 : Int64) : UInt64 := (if x0 = (5 : Int32) then (FP.f2d (FP.l2f x1)) else (FP.l2d x1))
def q_X13_nearLong (x0 : Int32) (x1 : Int64) : Prop := (x0 = (5 : Int32) → (vf_n64 (FP.f2d (FP.l2f x1))))
theorem c_X13_nearLong {x0 : Int32} {x1 : Int64} {M : Mem} {K : RT} (hW : Wf M) (hp : q_X13_nearLong x0 x1) (h : K (some (.double (f_X13_nearLong x0 x1))) M) : sp_X13_nearLong [.int x0, .long x1] M K := by
  refine wX13_nearLong hW  ?_
  unfold f_X13_nearLong at h
  unfold q_X13_nearLong at hp
  refine ⟨fun q0 => ?_, fun q0 => ?_⟩
  · skip
    try simp only [if_neg q0] at h
    first | exact h | contradiction
  · have hq0 := hp q0
    try simp only [if_pos q0] at h
    refine ⟨hq0, ?_⟩
    first | exact h | contradiction
set_option maxRecDepth 100000 in
theorem eX13_put {G : Nat → KT} {K : RT} (hc : cloX13_put G K wT) {x1 : Int32} {x2 : Int32} {x3 : Int64} {M : Mem} (hW : Wf M) (h : (¬ (P_X13_isReal x2) → G 21 [some (.ref 605), some (.int x1), some (.int x2), some (.long x3), none] [.long (f_X13_low x2 x3), .int x1, .ref 626] M) ∧ ((P_X13_isReal x2) → G 21 [some (.ref 605), some (.int x1), some (.int x2), some (.long x3), none] [.long (0 : Int64), .int x1, .ref 626] M)) : G 0 [some (.ref 605), some (.int x1), some (.int x2), some (.long x3), none] [] M :=
  (hc.1 _ _ _ (i_aload rfl (i_getR (okS hW Sk_605) (nv_605_36 hW) (i_iload rfl (i_iload rfl (i_callS1 (Nat.le_of_ble_eq_true rfl) (c_X13_isReal hW  (i_rI (i_bI_eq (fun q1604 => (hc.2.2.1 _ _ _ (i_iload rfl (i_lload rfl (i_callS2 (Nat.le_of_ble_eq_true rfl) (c_X13_low hW  (i_rJ (h.1 q1604)))))))) (fun q1604 => (hc.2.1 _ _ _ (i_lc (h.2 q1604)))))))))))))
set_option maxRecDepth 100000 in
theorem eX13_put_21 {G : Nat → KT} {K : RT} (hc : cloX13_put G K wT) {x1 : Int32} {x2 : Int32} {x3 : Int64} {s0 : Nat} {ns0 : Nat} {s1 : Int32} {s2 : Int64} {M : Mem} (hW : Wf M) (hs0 : Sh s0 = (14, ns0)) (h : (vp_in s1 ns0) ∧ ((¬ (P_X13_isReal x2) → ((vp_in x1 768) ∧ K none (uD (uL M s0 (s1).toNatClampNeg s2) 627 (x1).toNatClampNeg FP.dconst0))) ∧ ((P_X13_isReal x2) → ((q_X13_nearLong x2 x3) ∧ ((vp_in x1 768) ∧ K none (uD (uL M s0 (s1).toNatClampNeg s2) 627 (x1).toNatClampNeg (f_X13_nearLong x2 x3))))))) : G 21 [some (.ref 605), some (.int x1), some (.int x2), some (.long x3), none] [.long s2, .int s1, .ref s0] M :=
  (hc.2.2.2.1 _ _ _ (i_last hW hs0 h.1 (i_aload rfl (i_getR (okS hW Sk_605) (nv_605_37 hW) (i_iload rfl (i_iload rfl (i_callS1 (Nat.le_of_ble_eq_true rfl) (c_X13_isReal hW  (i_rI (i_bI_eq (fun q1605 => (hc.2.2.2.2.2.1 _ _ _ (i_dconst0 (hc.2.2.2.2.2.2 _ _ _ (i_dast hW Ss_627 (h.2.1 q1605).1 (i_vret hW.1 (h.2.1 q1605).2)))))) (fun q1605 => (hc.2.2.2.2.1 _ _ _ (i_iload rfl (i_lload rfl (i_callS2 (Nat.le_of_ble_eq_true rfl) (c_X13_nearLong hW  (h.2.2 q1605).1 (i_rD (hc.2.2.2.2.2.2 _ _ _ (i_dast hW Ss_627 (h.2.2 q1605).2.1 (i_vret hW.1 (h.2.2 q1605).2.2))))))))))))))))))))
theorem wX13_put {x1 : Int32} {x2 : Int32} {x3 : Int64} {M : Mem} {K : RT} (hW : Wf M) (h : ∀ {G : Nat → KT}, cloX13_put G K wT → (¬ (P_X13_isReal x2) → G 21 [some (.ref 605), some (.int x1), some (.int x2), some (.long x3), none] [.long (f_X13_low x2 x3), .int x1, .ref 626] M) ∧ ((P_X13_isReal x2) → G 21 [some (.ref 605), some (.int x1), some (.int x2), some (.long x3), none] [.long (0 : Int64), .int x1, .ref 626] M)) : sp_X13_put [.ref 605, .int x1, .int x2, .long x3] M K := by
  refine ⟨Nat.le_of_ble_eq_true rfl, fun G hc => ?_⟩
  rw [hW.1] at hc
  exact eX13_put hc hW  (h hc)
set_option maxRecDepth 100000 in
theorem eX13_lay {G : Nat → KT} {K : RT} (hc : cloX13_lay G K wT) {x1 : Int32} {x2 : Int64} {x4 : UInt64} {M : Mem} (hW : Wf M) (h : (vp_in x1 768) ∧ ((vp_in x1 768) ∧ K none (uD (uL M 626 (x1).toNatClampNeg x2) 627 (x1).toNatClampNeg x4))) : G 0 [some (.ref 605), some (.int x1), some (.long x2), none, some (.double x4), none] [] M :=
  (hc _ _ _ (i_aload rfl (i_getR (okS hW Sk_605) (nv_605_36 hW) (i_iload rfl (i_lload rfl (i_last hW Ss_626 h.1 (i_aload rfl (i_getR (okS hW Sk_605) (nv_605_37 hW) (i_iload rfl (i_dload rfl (i_dast hW Ss_627 h.2.1 (i_vret hW.1 h.2.2))))))))))))
theorem wX13_lay {x1 : Int32} {x2 : Int64} {x4 : UInt64} {M : Mem} {K : RT} (hW : Wf M) (h : (vp_in x1 768) ∧ ((vp_in x1 768) ∧ K none (uD (uL M 626 (x1).toNatClampNeg x2) 627 (x1).toNatClampNeg x4))) : sp_X13_lay [.ref 605, .int x1, .long x2, .double x4] M K := by
  refine ⟨Nat.le_of_ble_eq_true rfl, fun G hc => ?_⟩
  rw [hW.1] at hc
  exact eX13_lay hc hW  h
noncomputable def m_X13_lay (x1 : Int32) (x2 : Int64) (x4 : UInt64) (M : Mem) : Mem := (uD (uL M 626 (x1).toNatClampNeg x2) 627 (x1).toNatClampNeg x4)
def q_X13_lay (x1 : Int32) (x2 : Int64) (x4 : UInt64) : Prop := ((vp_in x1 768) ∧ (vp_in x1 768))
theorem c_X13_lay {x1 : Int32} {x2 : Int64} {x4 : UInt64} {M : Mem} {K : RT} (hW : Wf M) (hp : q_X13_lay x1 x2 x4) (h : K none (m_X13_lay x1 x2 x4 M)) : sp_X13_lay [.ref 605, .int x1, .long x2, .double x4] M K := by
  refine wX13_lay hW  ?_
  unfold m_X13_lay at h
  unfold q_X13_lay at hp
  refine ⟨hp.1, ?_⟩
  refine ⟨hp.2, ?_⟩
  first | exact h | contradiction
theorem Wf_m_X13_lay (x1 : Int32) (x2 : Int64) (x4 : UInt64) {M : Mem} (hW : Wf M) : Wf (m_X13_lay x1 x2 x4 M) := by
  unfold m_X13_lay
  exact hW
set_option maxRecDepth 100000 in
theorem eX13_order {G : Nat → KT} {K : RT} (hc : cloX13_order G K wT) {x0 : Int32} {x1 : Int64} {x3 : UInt64} {x5 : Int64} {x7 : UInt64} {M : Mem} (hW : Wf M) (h : ((P_X13_isReal x0) → (((Op.cmpValue (FP.dcmp x3 x7) .l) = 0 → ((¬ (Op.cmpValue (FP.dcmp x3 FP.dconst0) .l) = 0 → G 70 [some (.int x0), some (.long x1), none, some (.double x3), none, some (.long x5), none, some (.double x7), none, none, none] [.int (0 : Int32)] M) ∧ ((Op.cmpValue (FP.dcmp x3 FP.dconst0) .l) = 0 → ((vf_n64 (FP.ddiv FP.dconst1 x3)) ∧ ((0 ≤ (Op.cmpValue (FP.dcmp (FP.ddiv FP.dconst1 x3) FP.dconst0) .g) → G 70 [some (.int x0), some (.long x1), none, some (.double x3), none, some (.long x5), none, some (.double x7), none, none, none] [.int (0 : Int32)] M) ∧ (¬ 0 ≤ (Op.cmpValue (FP.dcmp (FP.ddiv FP.dconst1 x3) FP.dconst0) .g) → G 70 [some (.int x0), some (.long x1), none, some (.double x3), none, some (.long x5), none, some (.double x7), none, none, none] [.int (1 : Int32)] M)))))) ∧ (¬ (Op.cmpValue (FP.dcmp x3 x7) .l) = 0 → ((0 ≤ (Op.cmpValue (FP.dcmp x3 x7) .g) → K (some (.int (1 : Int32))) M) ∧ (¬ 0 ≤ (Op.cmpValue (FP.dcmp x3 x7) .g) → K (some (.int (-1 : Int32))) M))))) ∧ (¬ (P_X13_isReal x0) → ((x5 ≤ x1 → ((x1 ≤ x5 → K (some (.int (0 : Int32))) M) ∧ (¬ x1 ≤ x5 → K (some (.int (1 : Int32))) M))) ∧ (¬ x5 ≤ x1 → K (some (.int (-1 : Int32))) M)))) : G 0 [some (.int x0), some (.long x1), none, some (.double x3), none, some (.long x5), none, some (.double x7), none, none, none] [] M :=
  (hc.1 _ _ _ (i_iload rfl (i_callS1 (Nat.le_of_ble_eq_true rfl) (c_X13_isReal hW  (i_rI (i_bI_ne (fun q1617 => (hc.2.2.2.2.2.2.2.1 _ _ _ (i_dload rfl (i_dload rfl (i_dcmp (i_if_eq (fun q1618 => (hc.2.2.2.2.2.2.2.2.2.2.2.2.1 _ _ _ (i_dload rfl (i_dconst0 (i_dcmp (i_if_ne (fun q1619 => (hc.2.2.2.2.2.2.2.2.2.2.2.2.2.2.2.1 _ _ _ (i_ic (((h.1 q1617).1 q1618).1 q1619)))) (fun q1619 => (hc.2.2.2.2.2.2.2.2.2.2.2.2.2.1 _ _ _ (i_dconst1 (i_dload rfl (i_ddiv (((h.1 q1617).1 q1618).2 q1619).1 (i_dconst0 (i_dcmp (i_if_ge (fun q1620 => (hc.2.2.2.2.2.2.2.2.2.2.2.2.2.2.2.1 _ _ _ (i_ic ((((h.1 q1617).1 q1618).2 q1619).2.1 q1620)))) (fun q1620 => (hc.2.2.2.2.2.2.2.2.2.2.2.2.2.2.1 _ _ _ (i_ic ((((h.1 q1617).1 q1618).2 q1619).2.2 q1620)))))))))))))))))) (fun q1618 => (hc.2.2.2.2.2.2.2.2.1 _ _ _ (i_dload rfl (i_dload rfl (i_dcmp (i_if_ge (fun q1621 => (hc.2.2.2.2.2.2.2.2.2.2.1 _ _ _ (i_ic (hc.2.2.2.2.2.2.2.2.2.2.2.1 _ _ _ (i_iret hW.1 (((h.1 q1617).2 q1618).1 q1621)))))) (fun q1621 => (hc.2.2.2.2.2.2.2.2.2.1 _ _ _ (i_ic (hc.2.2.2.2.2.2.2.2.2.2.2.1 _ _ _ (i_iret hW.1 (((h.1 q1617).2 q1618).2 q1621)))))))))))))))))) (fun q1617 => (hc.2.1 _ _ _ (i_lload rfl (i_lload rfl (i_lcmp (i_lcmp_ge (fun q1622 => (hc.2.2.2.1 _ _ _ (i_lload rfl (i_lload rfl (i_lcmp (i_lcmp_le (fun q1623 => (hc.2.2.2.2.2.1 _ _ _ (i_ic (hc.2.2.2.2.2.2.1 _ _ _ (i_iret hW.1 (((h.2 q1617).1 q1622).1 q1623)))))) (fun q1623 => (hc.2.2.2.2.1 _ _ _ (i_ic (hc.2.2.2.2.2.2.1 _ _ _ (i_iret hW.1 (((h.2 q1617).1 q1622).2 q1623)))))))))))) (fun q1622 => (hc.2.2.1 _ _ _ (i_ic (hc.2.2.2.2.2.2.1 _ _ _ (i_iret hW.1 ((h.2 q1617).2 q1622))))))))))))))))))
set_option maxRecDepth 100000 in
theorem eX13_order_70 {G : Nat → KT} {K : RT} (hc : cloX13_order G K wT) {o0 : Option Value} {o1 : Option Value} {o2 : Option Value} {o3 : Option Value} {o4 : Option Value} {o5 : Option Value} {o6 : Option Value} {x7 : UInt64} {o9 : Option Value} {o10 : Option Value} {s0 : Int32} {M : Mem} (hW : Wf M) (h : (¬ (Op.cmpValue (FP.dcmp x7 FP.dconst0) .l) = 0 → G 93 [o0, o1, o2, o3, o4, o5, o6, some (.double x7), none, some (.int s0), o10] [.int (0 : Int32)] M) ∧ ((Op.cmpValue (FP.dcmp x7 FP.dconst0) .l) = 0 → ((vf_n64 (FP.ddiv FP.dconst1 x7)) ∧ ((0 ≤ (Op.cmpValue (FP.dcmp (FP.ddiv FP.dconst1 x7) FP.dconst0) .g) → G 93 [o0, o1, o2, o3, o4, o5, o6, some (.double x7), none, some (.int s0), o10] [.int (0 : Int32)] M) ∧ (¬ 0 ≤ (Op.cmpValue (FP.dcmp (FP.ddiv FP.dconst1 x7) FP.dconst0) .g) → G 93 [o0, o1, o2, o3, o4, o5, o6, some (.double x7), none, some (.int s0), o10] [.int (1 : Int32)] M))))) : G 70 [o0, o1, o2, o3, o4, o5, o6, some (.double x7), none, o9, o10] [.int s0] M :=
  (hc.2.2.2.2.2.2.2.2.2.2.2.2.2.2.2.2.1 _ _ _ (i_istore (Nat.le_of_ble_eq_true rfl) (i_dload rfl (i_dconst0 (i_dcmp (i_if_ne (fun q1624 => (hc.2.2.2.2.2.2.2.2.2.2.2.2.2.2.2.2.2.2.2.1 _ _ _ (i_ic (h.1 q1624)))) (fun q1624 => (hc.2.2.2.2.2.2.2.2.2.2.2.2.2.2.2.2.2.1 _ _ _ (i_dconst1 (i_dload rfl (i_ddiv (h.2 q1624).1 (i_dconst0 (i_dcmp (i_if_ge (fun q1625 => (hc.2.2.2.2.2.2.2.2.2.2.2.2.2.2.2.2.2.2.2.1 _ _ _ (i_ic ((h.2 q1624).2.1 q1625)))) (fun q1625 => (hc.2.2.2.2.2.2.2.2.2.2.2.2.2.2.2.2.2.2.1 _ _ _ (i_ic ((h.2 q1624).2.2 q1625))))))))))))))))))
set_option maxRecDepth 100000 in
theorem eX13_order_93 {G : Nat → KT} {K : RT} (hc : cloX13_order G K wT) {o0 : Option Value} {o1 : Option Value} {o2 : Option Value} {o3 : Option Value} {o4 : Option Value} {o5 : Option Value} {o6 : Option Value} {o7 : Option Value} {o8 : Option Value} {x9 : Int32} {o10 : Option Value} {s0 : Int32} {M : Mem} (hW : Wf M) (h : (¬ x9 = s0 → ((x9 = 0 → K (some (.int (1 : Int32))) M) ∧ (¬ x9 = 0 → K (some (.int (-1 : Int32))) M))) ∧ (x9 = s0 → K (some (.int (0 : Int32))) M)) : G 93 [o0, o1, o2, o3, o4, o5, o6, o7, o8, some (.int x9), o10] [.int s0] M :=
  (hc.2.2.2.2.2.2.2.2.2.2.2.2.2.2.2.2.2.2.2.2.1 _ _ _ (i_istore (Nat.le_of_ble_eq_true rfl) (i_iload rfl (i_iload rfl (i_icmp_ne (fun q1626 => (hc.2.2.2.2.2.2.2.2.2.2.2.2.2.2.2.2.2.2.2.2.2.2.1 _ _ _ (i_iload rfl (i_if_eq (fun q1627 => (hc.2.2.2.2.2.2.2.2.2.2.2.2.2.2.2.2.2.2.2.2.2.2.2.2.1 _ _ _ (i_ic (hc.2.2.2.2.2.2.2.2.2.2.2.2.2.2.2.2.2.2.2.2.2.2.2.2.2 _ _ _ (i_iret hW.1 ((h.1 q1626).1 q1627)))))) (fun q1627 => (hc.2.2.2.2.2.2.2.2.2.2.2.2.2.2.2.2.2.2.2.2.2.2.2.1 _ _ _ (i_ic (hc.2.2.2.2.2.2.2.2.2.2.2.2.2.2.2.2.2.2.2.2.2.2.2.2.2 _ _ _ (i_iret hW.1 ((h.1 q1626).2 q1627)))))))))) (fun q1626 => (hc.2.2.2.2.2.2.2.2.2.2.2.2.2.2.2.2.2.2.2.2.2.1 _ _ _ (i_ic (hc.2.2.2.2.2.2.2.2.2.2.2.2.2.2.2.2.2.2.2.2.2.2.2.2.2 _ _ _ (i_iret hW.1 (h.2 q1626)))))))))))
theorem wX13_order {x0 : Int32} {x1 : Int64} {x3 : UInt64} {x5 : Int64} {x7 : UInt64} {M : Mem} {K : RT} (hW : Wf M) (h : ∀ {G : Nat → KT}, cloX13_order G K wT → ((P_X13_isReal x0) → (((Op.cmpValue (FP.dcmp x3 x7) .l) = 0 → ((¬ (Op.cmpValue (FP.dcmp x3 FP.dconst0) .l) = 0 → G 70 [some (.int x0), some (.long x1), none, some (.double x3), none, some (.long x5), none, some (.double x7), none, none, none] [.int (0 : Int32)] M) ∧ ((Op.cmpValue (FP.dcmp x3 FP.dconst0) .l) = 0 → ((vf_n64 (FP.ddiv FP.dconst1 x3)) ∧ ((0 ≤ (Op.cmpValue (FP.dcmp (FP.ddiv FP.dconst1 x3) FP.dconst0) .g) → G 70 [some (.int x0), some (.long x1), none, some (.double x3), none, some (.long x5), none, some (.double x7), none, none, none] [.int (0 : Int32)] M) ∧ (¬ 0 ≤ (Op.cmpValue (FP.dcmp (FP.ddiv FP.dconst1 x3) FP.dconst0) .g) → G 70 [some (.int x0), some (.long x1), none, some (.double x3), none, some (.long x5), none, some (.double x7), none, none, none] [.int (1 : Int32)] M)))))) ∧ (¬ (Op.cmpValue (FP.dcmp x3 x7) .l) = 0 → ((0 ≤ (Op.cmpValue (FP.dcmp x3 x7) .g) → K (some (.int (1 : Int32))) M) ∧ (¬ 0 ≤ (Op.cmpValue (FP.dcmp x3 x7) .g) → K (some (.int (-1 : Int32))) M))))) ∧ (¬ (P_X13_isReal x0) → ((x5 ≤ x1 → ((x1 ≤ x5 → K (some (.int (0 : Int32))) M) ∧ (¬ x1 ≤ x5 → K (some (.int (1 : Int32))) M))) ∧ (¬ x5 ≤ x1 → K (some (.int (-1 : Int32))) M)))) : sp_X13_order [.int x0, .long x1, .double x3, .long x5, .double x7] M K := by
  refine ⟨Nat.le_of_ble_eq_true rfl, fun G hc => ?_⟩
  rw [hW.1] at hc
  exact eX13_order hc hW  (h hc)
set_option maxRecDepth 100000 in
theorem eX13_givesReal {G : Nat → KT} {K : RT} (hc : cloX13_givesReal G K wT) {x1 : Int32} {x2 : UInt64} {M : Mem} (hW : Wf M) (h : (¬ (P_X13_isInfinite x2) → K (some (.int (0 : Int32))) (uD (uL M 605 63 (0 : Int64)) 605 64 x2)) ∧ ((P_X13_isInfinite x2) → K (some (.int (6 : Int32))) (uD (uL M 605 63 (0 : Int64)) 605 64 x2))) : G 0 [some (.ref 605), some (.int x1), some (.double x2), none] [] M :=
  (hc.1 _ _ _ (i_aload rfl (i_lc (i_putL (okS hW Sk_605) (i_aload rfl (i_dload rfl (i_putD (okS hW Sk_605) (i_dload rfl (i_callS1 (Nat.le_of_ble_eq_true rfl) (c_X13_isInfinite hW  (i_rI (i_bI_eq (fun q1628 => (hc.2.2.1 _ _ _ (i_ic (hc.2.2.2 _ _ _ (i_iret hW.1 (h.1 q1628)))))) (fun q1628 => (hc.2.1 _ _ _ (i_ic (hc.2.2.2 _ _ _ (i_iret hW.1 (h.2 q1628))))))))))))))))))
theorem wX13_givesReal {x1 : Int32} {x2 : UInt64} {M : Mem} {K : RT} (hW : Wf M) (h : (¬ (P_X13_isInfinite x2) → K (some (.int (0 : Int32))) (uD (uL M 605 63 (0 : Int64)) 605 64 x2)) ∧ ((P_X13_isInfinite x2) → K (some (.int (6 : Int32))) (uD (uL M 605 63 (0 : Int64)) 605 64 x2))) : sp_X13_givesReal [.ref 605, .int x1, .double x2] M K := by
  refine ⟨Nat.le_of_ble_eq_true rfl, fun G hc => ?_⟩
  rw [hW.1] at hc
  exact eX13_givesReal hc hW  h
noncomputable def f_X13_givesReal (x1 : Int32) (x2 : UInt64) : Int32 := (iT ((P_X13_isInfinite x2)) (6 : Int32) (0 : Int32))
noncomputable def m_X13_givesReal (x1 : Int32) (x2 : UInt64) (M : Mem) : Mem := (uD (uL M 605 63 (0 : Int64)) 605 64 x2)
theorem c_X13_givesReal {x1 : Int32} {x2 : UInt64} {M : Mem} {K : RT} (hW : Wf M) (h : K (some (.int (f_X13_givesReal x1 x2))) (m_X13_givesReal x1 x2 M)) : sp_X13_givesReal [.ref 605, .int x1, .double x2] M K := by
  refine wX13_givesReal hW  ?_
  unfold f_X13_givesReal m_X13_givesReal at h
  refine ⟨fun q0 => ?_, fun q0 => ?_⟩
  · skip
    try simp only [iT_f q0] at h
    first | exact h | contradiction
  · skip
    try simp only [iT_t q0] at h
    first | exact h | contradiction
theorem Wf_m_X13_givesReal (x1 : Int32) (x2 : UInt64) {M : Mem} (hW : Wf M) : Wf (m_X13_givesReal x1 x2 M) := by
  unfold m_X13_givesReal
  exact hW
set_option maxRecDepth 100000 in
theorem eX13_giveWhole {G : Nat → KT} {K : RT} (hc : cloX13_giveWhole G K wT) {x1 : Int32} {x2 : Int64} {M : Mem} (hW : Wf M) (h : K (some (.int (0 : Int32))) (uD (uL M 605 63 (f_X13_low x1 x2)) 605 64 FP.dconst0)) : G 0 [some (.ref 605), some (.int x1), some (.long x2), none] [] M :=
  (hc _ _ _ (i_aload rfl (i_iload rfl (i_lload rfl (i_callS2 (Nat.le_of_ble_eq_true rfl) (c_X13_low hW  (i_rJ (i_putL (okS hW Sk_605) (i_aload rfl (i_dconst0 (i_putD (okS hW Sk_605) (i_ic (i_iret hW.1 h)))))))))))))
theorem wX13_giveWhole {x1 : Int32} {x2 : Int64} {M : Mem} {K : RT} (hW : Wf M) (h : K (some (.int (0 : Int32))) (uD (uL M 605 63 (f_X13_low x1 x2)) 605 64 FP.dconst0)) : sp_X13_giveWhole [.ref 605, .int x1, .long x2] M K := by
  refine ⟨Nat.le_of_ble_eq_true rfl, fun G hc => ?_⟩
  rw [hW.1] at hc
  exact eX13_giveWhole hc hW  h
noncomputable def f_X13_giveWhole (x1 : Int32) (x2 : Int64) : Int32 := (0 : Int32)
noncomputable def m_X13_giveWhole (x1 : Int32) (x2 : Int64) (M : Mem) : Mem := (uD (uL M 605 63 (f_X13_low x1 x2)) 605 64 FP.dconst0)
theorem c_X13_giveWhole {x1 : Int32} {x2 : Int64} {M : Mem} {K : RT} (hW : Wf M) (h : K (some (.int (f_X13_giveWhole x1 x2))) (m_X13_giveWhole x1 x2 M)) : sp_X13_giveWhole [.ref 605, .int x1, .long x2] M K := by
  refine wX13_giveWhole hW  ?_
  unfold f_X13_giveWhole m_X13_giveWhole at h
  first | exact h | contradiction
theorem Wf_m_X13_giveWhole (x1 : Int32) (x2 : Int64) {M : Mem} (hW : Wf M) : Wf (m_X13_giveWhole x1 x2 M) := by
  unfold m_X13_giveWhole
  exact hW
set_option maxRecDepth 100000 in
theorem eX13_realMade {G : Nat → KT} {K : RT} (hc : cloX13_realMade G K wT) {x0 : Int32} {x1 : Int32} {x2 : UInt64} {x4 : UInt64} {M : Mem} (hW : Wf M) (h : (¬ x1 = (5 : Int32) → ((¬ x0 = (1 : Int32) → ((¬ x0 = (2 : Int32) → ((¬ x0 = (3 : Int32) → ((¬ x0 = (4 : Int32) → ((vf_n64 (FP.drem x2 x4)) ∧ K (some (.double (FP.drem x2 x4))) M)) ∧ (x0 = (4 : Int32) → ((vf_n64 (FP.ddiv x2 x4)) ∧ K (some (.double (FP.ddiv x2 x4))) M)))) ∧ (x0 = (3 : Int32) → ((vf_n64 (FP.dmul x2 x4)) ∧ K (some (.double (FP.dmul x2 x4))) M)))) ∧ (x0 = (2 : Int32) → ((vf_n64 (FP.dsub x2 x4)) ∧ K (some (.double (FP.dsub x2 x4))) M)))) ∧ (x0 = (1 : Int32) → ((vf_n64 (FP.dadd x2 x4)) ∧ K (some (.double (FP.dadd x2 x4))) M)))) ∧ (x1 = (5 : Int32) → ((vf_n32 (FP.d2f x2)) ∧ ((vf_n32 (FP.d2f x4)) ∧ ((¬ x0 = (1 : Int32) → ((¬ x0 = (2 : Int32) → ((¬ x0 = (3 : Int32) → ((¬ x0 = (4 : Int32) → ((vf_n32 (FP.frem (FP.d2f x2) (FP.d2f x4))) ∧ ((vf_n64 (FP.f2d (FP.frem (FP.d2f x2) (FP.d2f x4)))) ∧ K (some (.double (FP.f2d (FP.frem (FP.d2f x2) (FP.d2f x4))))) M))) ∧ (x0 = (4 : Int32) → ((vf_n32 (FP.fdiv (FP.d2f x2) (FP.d2f x4))) ∧ ((vf_n64 (FP.f2d (FP.fdiv (FP.d2f x2) (FP.d2f x4)))) ∧ K (some (.double (FP.f2d (FP.fdiv (FP.d2f x2) (FP.d2f x4))))) M))))) ∧ (x0 = (3 : Int32) → ((vf_n32 (FP.fmul (FP.d2f x2) (FP.d2f x4))) ∧ ((vf_n64 (FP.f2d (FP.fmul (FP.d2f x2) (FP.d2f x4)))) ∧ K (some (.double (FP.f2d (FP.fmul (FP.d2f x2) (FP.d2f x4))))) M))))) ∧ (x0 = (2 : Int32) → ((vf_n32 (FP.fsub (FP.d2f x2) (FP.d2f x4))) ∧ ((vf_n64 (FP.f2d (FP.fsub (FP.d2f x2) (FP.d2f x4)))) ∧ K (some (.double (FP.f2d (FP.fsub (FP.d2f x2) (FP.d2f x4))))) M))))) ∧ (x0 = (1 : Int32) → ((vf_n32 (FP.fadd (FP.d2f x2) (FP.d2f x4))) ∧ ((vf_n64 (FP.f2d (FP.fadd (FP.d2f x2) (FP.d2f x4)))) ∧ K (some (.double (FP.f2d (FP.fadd (FP.d2f x2) (FP.d2f x4))))) M)))))))) : G 0 [some (.int x0), some (.int x1), some (.double x2), none, some (.double x4), none, none, none] [] M :=
  (hc.1 _ _ _ (i_iload rfl (i_ic (i_icmp_ne (fun q1629 => (hc.2.2.2.2.2.2.2.2.2.2.2.1 _ _ _ (i_iload rfl (i_ic (i_icmp_ne (fun q1630 => (hc.2.2.2.2.2.2.2.2.2.2.2.2.2.1 _ _ _ (i_iload rfl (i_ic (i_icmp_ne (fun q1631 => (hc.2.2.2.2.2.2.2.2.2.2.2.2.2.2.2.1 _ _ _ (i_iload rfl (i_ic (i_icmp_ne (fun q1632 => (hc.2.2.2.2.2.2.2.2.2.2.2.2.2.2.2.2.2.1 _ _ _ (i_iload rfl (i_ic (i_icmp_ne (fun q1633 => (hc.2.2.2.2.2.2.2.2.2.2.2.2.2.2.2.2.2.2.2.1 _ _ _ (i_dload rfl (i_dload rfl (i_drem (((((h.1 q1629).1 q1630).1 q1631).1 q1632).1 q1633).1 (hc.2.2.2.2.2.2.2.2.2.2.2.2.2.2.2.2.2.2.2.2 _ _ _ (i_dret hW.1 (((((h.1 q1629).1 q1630).1 q1631).1 q1632).1 q1633).2))))))) (fun q1633 => (hc.2.2.2.2.2.2.2.2.2.2.2.2.2.2.2.2.2.2.1 _ _ _ (i_dload rfl (i_dload rfl (i_ddiv (((((h.1 q1629).1 q1630).1 q1631).1 q1632).2 q1633).1 (hc.2.2.2.2.2.2.2.2.2.2.2.2.2.2.2.2.2.2.2.2 _ _ _ (i_dret hW.1 (((((h.1 q1629).1 q1630).1 q1631).1 q1632).2 q1633).2)))))))))))) (fun q1632 => (hc.2.2.2.2.2.2.2.2.2.2.2.2.2.2.2.2.1 _ _ _ (i_dload rfl (i_dload rfl (i_dmul ((((h.1 q1629).1 q1630).1 q1631).2 q1632).1 (hc.2.2.2.2.2.2.2.2.2.2.2.2.2.2.2.2.2.2.2.2 _ _ _ (i_dret hW.1 ((((h.1 q1629).1 q1630).1 q1631).2 q1632).2)))))))))))) (fun q1631 => (hc.2.2.2.2.2.2.2.2.2.2.2.2.2.2.1 _ _ _ (i_dload rfl (i_dload rfl (i_dsub (((h.1 q1629).1 q1630).2 q1631).1 (hc.2.2.2.2.2.2.2.2.2.2.2.2.2.2.2.2.2.2.2.2 _ _ _ (i_dret hW.1 (((h.1 q1629).1 q1630).2 q1631).2)))))))))))) (fun q1630 => (hc.2.2.2.2.2.2.2.2.2.2.2.2.1 _ _ _ (i_dload rfl (i_dload rfl (i_dadd ((h.1 q1629).2 q1630).1 (hc.2.2.2.2.2.2.2.2.2.2.2.2.2.2.2.2.2.2.2.2 _ _ _ (i_dret hW.1 ((h.1 q1629).2 q1630).2)))))))))))) (fun q1629 => (hc.2.1 _ _ _ (i_dload rfl (i_d2f (h.2 q1629).1 (i_fstore (Nat.le_of_ble_eq_true rfl) (i_dload rfl (i_d2f (h.2 q1629).2.1 (i_fstore (Nat.le_of_ble_eq_true rfl) (i_iload rfl (i_ic (i_icmp_ne (fun q1634 => (hc.2.2.2.1 _ _ _ (i_iload rfl (i_ic (i_icmp_ne (fun q1635 => (hc.2.2.2.2.2.1 _ _ _ (i_iload rfl (i_ic (i_icmp_ne (fun q1636 => (hc.2.2.2.2.2.2.2.1 _ _ _ (i_iload rfl (i_ic (i_icmp_ne (fun q1637 => (hc.2.2.2.2.2.2.2.2.2.1 _ _ _ (i_fload rfl (i_fload rfl (i_frem (((((h.2 q1629).2.2.1 q1634).1 q1635).1 q1636).1 q1637).1 (i_f2d (((((h.2 q1629).2.2.1 q1634).1 q1635).1 q1636).1 q1637).2.1 (hc.2.2.2.2.2.2.2.2.2.2.1 _ _ _ (i_dret hW.1 (((((h.2 q1629).2.2.1 q1634).1 q1635).1 q1636).1 q1637).2.2)))))))) (fun q1637 => (hc.2.2.2.2.2.2.2.2.1 _ _ _ (i_fload rfl (i_fload rfl (i_fdiv (((((h.2 q1629).2.2.1 q1634).1 q1635).1 q1636).2 q1637).1 (i_f2d (((((h.2 q1629).2.2.1 q1634).1 q1635).1 q1636).2 q1637).2.1 (hc.2.2.2.2.2.2.2.2.2.2.1 _ _ _ (i_dret hW.1 (((((h.2 q1629).2.2.1 q1634).1 q1635).1 q1636).2 q1637).2.2))))))))))))) (fun q1636 => (hc.2.2.2.2.2.2.1 _ _ _ (i_fload rfl (i_fload rfl (i_fmul ((((h.2 q1629).2.2.1 q1634).1 q1635).2 q1636).1 (i_f2d ((((h.2 q1629).2.2.1 q1634).1 q1635).2 q1636).2.1 (hc.2.2.2.2.2.2.2.2.2.2.1 _ _ _ (i_dret hW.1 ((((h.2 q1629).2.2.1 q1634).1 q1635).2 q1636).2.2))))))))))))) (fun q1635 => (hc.2.2.2.2.1 _ _ _ (i_fload rfl (i_fload rfl (i_fsub (((h.2 q1629).2.2.1 q1634).2 q1635).1 (i_f2d (((h.2 q1629).2.2.1 q1634).2 q1635).2.1 (hc.2.2.2.2.2.2.2.2.2.2.1 _ _ _ (i_dret hW.1 (((h.2 q1629).2.2.1 q1634).2 q1635).2.2))))))))))))) (fun q1634 => (hc.2.2.1 _ _ _ (i_fload rfl (i_fload rfl (i_fadd ((h.2 q1629).2.2.2 q1634).1 (i_f2d ((h.2 q1629).2.2.2 q1634).2.1 (hc.2.2.2.2.2.2.2.2.2.2.1 _ _ _ (i_dret hW.1 ((h.2 q1629).2.2.2 q1634).2.2)))))))))))))))))))))))
theorem wX13_realMade {x0 : Int32} {x1 : Int32} {x2 : UInt64} {x4 : UInt64} {M : Mem} {K : RT} (hW : Wf M) (h : (¬ x1 = (5 : Int32) → ((¬ x0 = (1 : Int32) → ((¬ x0 = (2 : Int32) → ((¬ x0 = (3 : Int32) → ((¬ x0 = (4 : Int32) → ((vf_n64 (FP.drem x2 x4)) ∧ K (some (.double (FP.drem x2 x4))) M)) ∧ (x0 = (4 : Int32) → ((vf_n64 (FP.ddiv x2 x4)) ∧ K (some (.double (FP.ddiv x2 x4))) M)))) ∧ (x0 = (3 : Int32) → ((vf_n64 (FP.dmul x2 x4)) ∧ K (some (.double (FP.dmul x2 x4))) M)))) ∧ (x0 = (2 : Int32) → ((vf_n64 (FP.dsub x2 x4)) ∧ K (some (.double (FP.dsub x2 x4))) M)))) ∧ (x0 = (1 : Int32) → ((vf_n64 (FP.dadd x2 x4)) ∧ K (some (.double (FP.dadd x2 x4))) M)))) ∧ (x1 = (5 : Int32) → ((vf_n32 (FP.d2f x2)) ∧ ((vf_n32 (FP.d2f x4)) ∧ ((¬ x0 = (1 : Int32) → ((¬ x0 = (2 : Int32) → ((¬ x0 = (3 : Int32) → ((¬ x0 = (4 : Int32) → ((vf_n32 (FP.frem (FP.d2f x2) (FP.d2f x4))) ∧ ((vf_n64 (FP.f2d (FP.frem (FP.d2f x2) (FP.d2f x4)))) ∧ K (some (.double (FP.f2d (FP.frem (FP.d2f x2) (FP.d2f x4))))) M))) ∧ (x0 = (4 : Int32) → ((vf_n32 (FP.fdiv (FP.d2f x2) (FP.d2f x4))) ∧ ((vf_n64 (FP.f2d (FP.fdiv (FP.d2f x2) (FP.d2f x4)))) ∧ K (some (.double (FP.f2d (FP.fdiv (FP.d2f x2) (FP.d2f x4))))) M))))) ∧ (x0 = (3 : Int32) → ((vf_n32 (FP.fmul (FP.d2f x2) (FP.d2f x4))) ∧ ((vf_n64 (FP.f2d (FP.fmul (FP.d2f x2) (FP.d2f x4)))) ∧ K (some (.double (FP.f2d (FP.fmul (FP.d2f x2) (FP.d2f x4))))) M))))) ∧ (x0 = (2 : Int32) → ((vf_n32 (FP.fsub (FP.d2f x2) (FP.d2f x4))) ∧ ((vf_n64 (FP.f2d (FP.fsub (FP.d2f x2) (FP.d2f x4)))) ∧ K (some (.double (FP.f2d (FP.fsub (FP.d2f x2) (FP.d2f x4))))) M))))) ∧ (x0 = (1 : Int32) → ((vf_n32 (FP.fadd (FP.d2f x2) (FP.d2f x4))) ∧ ((vf_n64 (FP.f2d (FP.fadd (FP.d2f x2) (FP.d2f x4)))) ∧ K (some (.double (FP.f2d (FP.fadd (FP.d2f x2) (FP.d2f x4))))) M)))))))) : sp_X13_realMade [.int x0, .int x1, .double x2, .double x4] M K := by
  refine ⟨Nat.le_of_ble_eq_true rfl, fun G hc => ?_⟩
  rw [hW.1] at hc
  exact eX13_realMade hc hW  h
noncomputable def f_X13_realMade (x0 : Int32) (x1 : Int32) (x2 : UInt64) (x4 : UInt64) : UInt64 := (if x1 = (5 : Int32) then (if x0 = (1 : Int32) then (FP.f2d (FP.fadd (FP.d2f x2) (FP.d2f x4))) else (if x0 = (2 : Int32) then (FP.f2d (FP.fsub (FP.d2f x2) (FP.d2f x4))) else (if x0 = (3 : Int32) then (FP.f2d (FP.fmul (FP.d2f x2) (FP.d2f x4))) else (if x0 = (4 : Int32) then (FP.f2d (FP.fdiv (FP.d2f x2) (FP.d2f x4))) else (FP.f2d (FP.frem (FP.d2f x2) (FP.d2f x4))))))) else (if x0 = (1 : Int32) then (FP.dadd x2 x4) else (if x0 = (2 : Int32) then (FP.dsub x2 x4) else (if x0 = (3 : Int32) then (FP.dmul x2 x4) else (if x0 = (4 : Int32) then (FP.ddiv x2 x4) else (FP.drem x2 x4))))))
def q_X13_realMade (x0 : Int32) (x1 : Int32) (x2 : UInt64) (x4 : UInt64) : Prop := ((¬ x1 = (5 : Int32) → ((¬ x0 = (1 : Int32) → ((¬ x0 = (2 : Int32) → ((¬ x0 = (3 : Int32) → ((¬ x0 = (4 : Int32) → (vf_n64 (FP.drem x2 x4))) ∧ (x0 = (4 : Int32) → (vf_n64 (FP.ddiv x2 x4))))) ∧ (x0 = (3 : Int32) → (vf_n64 (FP.dmul x2 x4))))) ∧ (x0 = (2 : Int32) → (vf_n64 (FP.dsub x2 x4))))) ∧ (x0 = (1 : Int32) → (vf_n64 (FP.dadd x2 x4))))) ∧ (x1 = (5 : Int32) → ((vf_n32 (FP.d2f x2)) ∧ ((vf_n32 (FP.d2f x4)) ∧ ((¬ x0 = (1 : Int32) → ((¬ x0 = (2 : Int32) → ((¬ x0 = (3 : Int32) → ((¬ x0 = (4 : Int32) → ((vf_n32 (FP.frem (FP.d2f x2) (FP.d2f x4))) ∧ (vf_n64 (FP.f2d (FP.frem (FP.d2f x2) (FP.d2f x4)))))) ∧ (x0 = (4 : Int32) → ((vf_n32 (FP.fdiv (FP.d2f x2) (FP.d2f x4))) ∧ (vf_n64 (FP.f2d (FP.fdiv (FP.d2f x2) (FP.d2f x4)))))))) ∧ (x0 = (3 : Int32) → ((vf_n32 (FP.fmul (FP.d2f x2) (FP.d2f x4))) ∧ (vf_n64 (FP.f2d (FP.fmul (FP.d2f x2) (FP.d2f x4)))))))) ∧ (x0 = (2 : Int32) → ((vf_n32 (FP.fsub (FP.d2f x2) (FP.d2f x4))) ∧ (vf_n64 (FP.f2d (FP.fsub (FP.d2f x2) (FP.d2f x4)))))))) ∧ (x0 = (1 : Int32) → ((vf_n32 (FP.fadd (FP.d2f x2) (FP.d2f x4))) ∧ (vf_n64 (FP.f2d (FP.fadd (FP.d2f x2) (FP.d2f x4)))))))))))
theorem c_X13_realMade {x0 : Int32} {x1 : Int32} {x2 : UInt64} {x4 : UInt64} {M : Mem} {K : RT} (hW : Wf M) (hp : q_X13_realMade x0 x1 x2 x4) (h : K (some (.double (f_X13_realMade x0 x1 x2 x4))) M) : sp_X13_realMade [.int x0, .int x1, .double x2, .double x4] M K := by
  refine wX13_realMade hW  ?_
  unfold f_X13_realMade at h
  unfold q_X13_realMade at hp
  refine ⟨fun q0 => ?_, fun q0 => ?_⟩
  · have hq0 := hp.1 q0
    try simp only [if_neg q0] at h
    refine ⟨fun q1 => ?_, fun q1 => ?_⟩
    · have hq1 := hq0.1 q1
      try simp only [if_neg q1] at h
      refine ⟨fun q2 => ?_, fun q2 => ?_⟩
      · have hq2 := hq1.1 q2
        try simp only [if_neg q2] at h
        refine ⟨fun q3 => ?_, fun q3 => ?_⟩
        · have hq3 := hq2.1 q3
          try simp only [if_neg q3] at h
          refine ⟨fun q4 => ?_, fun q4 => ?_⟩
          · have hq4 := hq3.1 q4
            try simp only [if_neg q4] at h
            refine ⟨hq4, ?_⟩
            first | exact h | contradiction
          · have hq4 := hq3.2 q4
            try simp only [if_pos q4] at h
            refine ⟨hq4, ?_⟩
            first | exact h | contradiction
        · have hq3 := hq2.2 q3
          try simp only [if_pos q3] at h
          refine ⟨hq3, ?_⟩
          first | exact h | contradiction
      · have hq2 := hq1.2 q2
        try simp only [if_pos q2] at h
        refine ⟨hq2, ?_⟩
        first | exact h | contradiction
    · have hq1 := hq0.2 q1
      try simp only [if_pos q1] at h
      refine ⟨hq1, ?_⟩
      first | exact h | contradiction
  · have hq0 := hp.2 q0
    try simp only [if_pos q0] at h
    refine ⟨hq0.1, ?_⟩
    refine ⟨hq0.2.1, ?_⟩
    refine ⟨fun q1 => ?_, fun q1 => ?_⟩
    · have hq1 := hq0.2.2.1 q1
      try simp only [if_neg q1] at h
      refine ⟨fun q2 => ?_, fun q2 => ?_⟩
      · have hq2 := hq1.1 q2
        try simp only [if_neg q2] at h
        refine ⟨fun q3 => ?_, fun q3 => ?_⟩
        · have hq3 := hq2.1 q3
          try simp only [if_neg q3] at h
          refine ⟨fun q4 => ?_, fun q4 => ?_⟩
          · have hq4 := hq3.1 q4
            try simp only [if_neg q4] at h
            refine ⟨hq4.1, ?_⟩
            refine ⟨hq4.2, ?_⟩
            first | exact h | contradiction
          · have hq4 := hq3.2 q4
            try simp only [if_pos q4] at h
            refine ⟨hq4.1, ?_⟩
            refine ⟨hq4.2, ?_⟩
            first | exact h | contradiction
        · have hq3 := hq2.2 q3
          try simp only [if_pos q3] at h
          refine ⟨hq3.1, ?_⟩
          refine ⟨hq3.2, ?_⟩
          first | exact h | contradiction
      · have hq2 := hq1.2 q2
        try simp only [if_pos q2] at h
        refine ⟨hq2.1, ?_⟩
        refine ⟨hq2.2, ?_⟩
        first | exact h | contradiction
    · have hq1 := hq0.2.2.2 q1
      try simp only [if_pos q1] at h
      refine ⟨hq1.1, ?_⟩
      refine ⟨hq1.2, ?_⟩
      first | exact h | contradiction
def RX13_make_12_5 (G : Nat → KT) (K : RT) : KT := (w_istore 11 (w_iload 1 (w_ic 6 (w_icmp_ne (G 44) (G 31)))))
set_option maxRecDepth 100000 in
theorem eX13_make {G : Nat → KT} {K : RT} (hc : cloX13_make G K wT) {x1 : Int32} {x2 : Int32} {x3 : Int64} {x5 : UInt64} {x7 : Int64} {x9 : UInt64} {M : Mem} (hW : Wf M) (h : (x1 = (6 : Int32) → G 12 [some (.ref 605), some (.int x1), some (.int x2), some (.long x3), none, some (.double x5), none, some (.long x7), none, some (.double x9), none, none, none] [] M) ∧ (¬ x1 = (6 : Int32) → ((¬ x1 = (7 : Int32) → ((¬ (P_X13_isReal x2) → ((x1 = 1 → K (some (.int (f_X13_giveWhole x2 (x3 + x7)))) (m_X13_giveWhole x2 (x3 + x7) M)) ∧ (¬ x1 = 1 → ((x1 = 2 → K (some (.int (f_X13_giveWhole x2 (x3 - x7)))) (m_X13_giveWhole x2 (x3 - x7) M)) ∧ (¬ x1 = 2 → ((x1 = 3 → K (some (.int (f_X13_giveWhole x2 (x3 * x7)))) (m_X13_giveWhole x2 (x3 * x7) M)) ∧ (¬ x1 = 3 → ((x1 = 4 → G 210 [some (.ref 605), some (.int x1), some (.int x2), some (.long x3), none, some (.double x5), none, some (.long x7), none, some (.double x9), none, none, none] [] M) ∧ (¬ x1 = 4 → ((x1 = 5 → G 210 [some (.ref 605), some (.int x1), some (.int x2), some (.long x3), none, some (.double x5), none, some (.long x7), none, some (.double x9), none, none, none] [] M) ∧ (¬ x1 = 5 → ((x1 = 6 → K (some (.int (f_X13_giveWhole x2 (x3 ^^^ x7)))) (m_X13_giveWhole x2 (x3 ^^^ x7) M)) ∧ (¬ x1 = 6 → ((x1 = 7 → K (some (.int (f_X13_giveWhole x2 (x3 ^^^ x7)))) (m_X13_giveWhole x2 (x3 ^^^ x7) M)) ∧ (¬ x1 = 7 → ((x1 = 8 → K (some (.int (f_X13_giveWhole x2 (x3 &&& x7)))) (m_X13_giveWhole x2 (x3 &&& x7) M)) ∧ (¬ x1 = 8 → ((x1 = 9 → K (some (.int (f_X13_giveWhole x2 (x3 ||| x7)))) (m_X13_giveWhole x2 (x3 ||| x7) M)) ∧ (¬ x1 = 9 → K (some (.int (f_X13_giveWhole x2 (x3 ^^^ x7)))) (m_X13_giveWhole x2 (x3 ^^^ x7) M)))))))))))))))))))) ∧ ((P_X13_isReal x2) → ((x1 ≤ (3 : Int32) → ((q_X13_realMade x1 x2 x5 x9) ∧ K (some (.int (f_X13_givesReal x2 (f_X13_realMade x1 x2 x5 x9)))) (m_X13_givesReal x2 (f_X13_realMade x1 x2 x5 x9) M))) ∧ (¬ x1 ≤ (3 : Int32) → ((¬ (Op.cmpValue (FP.dcmp x9 FP.dconst0) .l) = 0 → ((q_X13_realMade x1 x2 x5 x9) ∧ K (some (.int (f_X13_givesReal x2 (f_X13_realMade x1 x2 x5 x9)))) (m_X13_givesReal x2 (f_X13_realMade x1 x2 x5 x9) M))) ∧ ((Op.cmpValue (FP.dcmp x9 FP.dconst0) .l) = 0 → K (some (.int (5 : Int32))) M))))))) ∧ (x1 = (7 : Int32) → G 12 [some (.ref 605), some (.int x1), some (.int x2), some (.long x3), none, some (.double x5), none, some (.long x7), none, some (.double x9), none, none, none] [] M)))) : G 0 [some (.ref 605), some (.int x1), some (.int x2), some (.long x3), none, some (.double x5), none, some (.long x7), none, some (.double x9), none, none, none] [] M :=
  (hc.1 _ _ _ (i_iload rfl (i_ic (i_icmp_eq (fun q1660 => (h.1 q1660)) (fun q1660 => (hc.2.1 _ _ _ (i_iload rfl (i_ic (i_icmp_ne (fun q1661 => (hc.2.2.2.2.2.2.2.2.2.2.2.2.2.2.2.2.1 _ _ _ (i_iload rfl (i_callS1 (Nat.le_of_ble_eq_true rfl) (c_X13_isReal hW  (i_rI (i_bI_eq (fun q1662 => (hc.2.2.2.2.2.2.2.2.2.2.2.2.2.2.2.2.2.2.2.2.2.2.1 _ _ _ (i_iload rfl (And.intro (fun q1663 => (hc.2.2.2.2.2.2.2.2.2.2.2.2.2.2.2.2.2.2.2.2.2.2.2.1 _ _ _ (i_aload rfl (i_iload rfl (i_lload rfl (i_lload rfl (i_ladd (i_callV3 (Nat.le_of_ble_eq_true rfl) (okS hW Sk_605) (c_X13_giveWhole hW  (i_rI (i_iret (Wf_m_X13_giveWhole (M := M) x2 (x3 + x7) hW).1 ((((h.2 q1660).1 q1661).1 q1662).1 q1663)))))))))))) (fun q1663 => (And.intro (fun q1664 => (hc.2.2.2.2.2.2.2.2.2.2.2.2.2.2.2.2.2.2.2.2.2.2.2.2.1 _ _ _ (i_aload rfl (i_iload rfl (i_lload rfl (i_lload rfl (i_lsub (i_callV3 (Nat.le_of_ble_eq_true rfl) (okS hW Sk_605) (c_X13_giveWhole hW  (i_rI (i_iret (Wf_m_X13_giveWhole (M := M) x2 (x3 - x7) hW).1 (((((h.2 q1660).1 q1661).1 q1662).2 q1663).1 q1664)))))))))))) (fun q1664 => (And.intro (fun q1665 => (hc.2.2.2.2.2.2.2.2.2.2.2.2.2.2.2.2.2.2.2.2.2.2.2.2.2.1 _ _ _ (i_aload rfl (i_iload rfl (i_lload rfl (i_lload rfl (i_lmul (i_callV3 (Nat.le_of_ble_eq_true rfl) (okS hW Sk_605) (c_X13_giveWhole hW  (i_rI (i_iret (Wf_m_X13_giveWhole (M := M) x2 (x3 * x7) hW).1 ((((((h.2 q1660).1 q1661).1 q1662).2 q1663).2 q1664).1 q1665)))))))))))) (fun q1665 => (And.intro (fun q1666 => (((((((h.2 q1660).1 q1661).1 q1662).2 q1663).2 q1664).2 q1665).1 q1666)) (fun q1666 => (And.intro (fun q1667 => ((((((((h.2 q1660).1 q1661).1 q1662).2 q1663).2 q1664).2 q1665).2 q1666).1 q1667)) (fun q1667 => (And.intro (fun q1668 => (hc.2.2.2.2.2.2.2.2.2.2.2.2.2.2.2.2.2.2.2.2.2.2.2.2.2.2.2.2.2.2.2.2.2.2.2 _ _ _ (i_aload rfl (i_iload rfl (i_lload rfl (i_lload rfl (i_lxor (i_callV3 (Nat.le_of_ble_eq_true rfl) (okS hW Sk_605) (c_X13_giveWhole hW  (i_rI (i_iret (Wf_m_X13_giveWhole (M := M) x2 (x3 ^^^ x7) hW).1 (((((((((h.2 q1660).1 q1661).1 q1662).2 q1663).2 q1664).2 q1665).2 q1666).2 q1667).1 q1668)))))))))))) (fun q1668 => (And.intro (fun q1669 => (hc.2.2.2.2.2.2.2.2.2.2.2.2.2.2.2.2.2.2.2.2.2.2.2.2.2.2.2.2.2.2.2.2.2.2.2 _ _ _ (i_aload rfl (i_iload rfl (i_lload rfl (i_lload rfl (i_lxor (i_callV3 (Nat.le_of_ble_eq_true rfl) (okS hW Sk_605) (c_X13_giveWhole hW  (i_rI (i_iret (Wf_m_X13_giveWhole (M := M) x2 (x3 ^^^ x7) hW).1 ((((((((((h.2 q1660).1 q1661).1 q1662).2 q1663).2 q1664).2 q1665).2 q1666).2 q1667).2 q1668).1 q1669)))))))))))) (fun q1669 => (And.intro (fun q1670 => (hc.2.2.2.2.2.2.2.2.2.2.2.2.2.2.2.2.2.2.2.2.2.2.2.2.2.2.2.2.2.2.2.2.2.1 _ _ _ (i_aload rfl (i_iload rfl (i_lload rfl (i_lload rfl (i_land (i_callV3 (Nat.le_of_ble_eq_true rfl) (okS hW Sk_605) (c_X13_giveWhole hW  (i_rI (i_iret (Wf_m_X13_giveWhole (M := M) x2 (x3 &&& x7) hW).1 (((((((((((h.2 q1660).1 q1661).1 q1662).2 q1663).2 q1664).2 q1665).2 q1666).2 q1667).2 q1668).2 q1669).1 q1670)))))))))))) (fun q1670 => (And.intro (fun q1671 => (hc.2.2.2.2.2.2.2.2.2.2.2.2.2.2.2.2.2.2.2.2.2.2.2.2.2.2.2.2.2.2.2.2.2.2.1 _ _ _ (i_aload rfl (i_iload rfl (i_lload rfl (i_lload rfl (i_lor (i_callV3 (Nat.le_of_ble_eq_true rfl) (okS hW Sk_605) (c_X13_giveWhole hW  (i_rI (i_iret (Wf_m_X13_giveWhole (M := M) x2 (x3 ||| x7) hW).1 ((((((((((((h.2 q1660).1 q1661).1 q1662).2 q1663).2 q1664).2 q1665).2 q1666).2 q1667).2 q1668).2 q1669).2 q1670).1 q1671)))))))))))) (fun q1671 => (hc.2.2.2.2.2.2.2.2.2.2.2.2.2.2.2.2.2.2.2.2.2.2.2.2.2.2.2.2.2.2.2.2.2.2.2 _ _ _ (i_aload rfl (i_iload rfl (i_lload rfl (i_lload rfl (i_lxor (i_callV3 (Nat.le_of_ble_eq_true rfl) (okS hW Sk_605) (c_X13_giveWhole hW  (i_rI (i_iret (Wf_m_X13_giveWhole (M := M) x2 (x3 ^^^ x7) hW).1 ((((((((((((h.2 q1660).1 q1661).1 q1662).2 q1663).2 q1664).2 q1665).2 q1666).2 q1667).2 q1668).2 q1669).2 q1670).2 q1671)))))))))))))))))))))))))))))))) (fun q1662 => (hc.2.2.2.2.2.2.2.2.2.2.2.2.2.2.2.2.2.1 _ _ _ (i_iload rfl (i_ic (i_icmp_le (fun q1672 => (hc.2.2.2.2.2.2.2.2.2.2.2.2.2.2.2.2.2.2.2.2.1 _ _ _ (i_aload rfl (i_iload rfl (i_iload rfl (i_iload rfl (i_dload rfl (i_dload rfl (i_callS4 (Nat.le_of_ble_eq_true rfl) (c_X13_realMade hW  ((((h.2 q1660).1 q1661).2 q1662).1 q1672).1 (i_rD (i_callV3 (Nat.le_of_ble_eq_true rfl) (okS hW Sk_605) (c_X13_givesReal hW  (i_rI (hc.2.2.2.2.2.2.2.2.2.2.2.2.2.2.2.2.2.2.2.2.2.1 _ _ _ (i_iret (Wf_m_X13_givesReal (M := M) x2 (f_X13_realMade x1 x2 x5 x9) hW).1 ((((h.2 q1660).1 q1661).2 q1662).1 q1672).2)))))))))))))))) (fun q1672 => (hc.2.2.2.2.2.2.2.2.2.2.2.2.2.2.2.2.2.2.1 _ _ _ (i_dload rfl (i_dconst0 (i_dcmp (i_if_ne (fun q1673 => (hc.2.2.2.2.2.2.2.2.2.2.2.2.2.2.2.2.2.2.2.2.1 _ _ _ (i_aload rfl (i_iload rfl (i_iload rfl (i_iload rfl (i_dload rfl (i_dload rfl (i_callS4 (Nat.le_of_ble_eq_true rfl) (c_X13_realMade hW  (((((h.2 q1660).1 q1661).2 q1662).2 q1672).1 q1673).1 (i_rD (i_callV3 (Nat.le_of_ble_eq_true rfl) (okS hW Sk_605) (c_X13_givesReal hW  (i_rI (hc.2.2.2.2.2.2.2.2.2.2.2.2.2.2.2.2.2.2.2.2.2.1 _ _ _ (i_iret (Wf_m_X13_givesReal (M := M) x2 (f_X13_realMade x1 x2 x5 x9) hW).1 (((((h.2 q1660).1 q1661).2 q1662).2 q1672).1 q1673).2)))))))))))))))) (fun q1673 => (hc.2.2.2.2.2.2.2.2.2.2.2.2.2.2.2.2.2.2.2.1 _ _ _ (i_ic (hc.2.2.2.2.2.2.2.2.2.2.2.2.2.2.2.2.2.2.2.2.2.1 _ _ _ (i_iret hW.1 (((((h.2 q1660).1 q1661).2 q1662).2 q1672).2 q1673)))))))))))))))))))))))) (fun q1661 => ((h.2 q1660).2 q1661)))))))))))
set_option maxRecDepth 100000 in
theorem eX13_make_12 {G : Nat → KT} {K : RT} (hc : cloX13_make G K wT) {x1 : Int32} {x2 : Int32} {x3 : Int64} {x5 : UInt64} {x7 : Int64} {x9 : UInt64} {o11 : Option Value} {o12 : Option Value} {M : Mem} (hW : Wf M) (h : sp_X13_order [.int x2, .long x3, .double x5, .long x7, .double x9] M (fun v M' => RX13_make_12_5 G K [some (.ref 605), some (.int x1), some (.int x2), some (.long x3), none, some (.double x5), none, some (.long x7), none, some (.double x9), none, o11, o12] (v.toList ++ []) M')) : G 12 [some (.ref 605), some (.int x1), some (.int x2), some (.long x3), none, some (.double x5), none, some (.long x7), none, some (.double x9), none, o11, o12] [] M :=
  (hc.2.2.1 _ _ _ (i_iload rfl (i_lload rfl (i_dload rfl (i_lload rfl (i_dload rfl (i_callS5 (Nat.le_of_ble_eq_true rfl) h)))))))
set_option maxRecDepth 100000 in
theorem eX13_make_54 {G : Nat → KT} {K : RT} (hc : cloX13_make G K wT) {o1 : Option Value} {o2 : Option Value} {x3 : Int64} {x5 : UInt64} {x7 : Int64} {x9 : UInt64} {o11 : Option Value} {o12 : Option Value} {s0 : Int32} {M : Mem} (hW : Wf M) (h : (s0 = 0 → ((s0 = 0 → K (some (.int (0 : Int32))) (uD (uL M 605 63 x7) 605 64 x9)) ∧ (¬ s0 = 0 → K (some (.int (0 : Int32))) (uD (uL M 605 63 x7) 605 64 x5)))) ∧ (¬ s0 = 0 → ((s0 = 0 → K (some (.int (0 : Int32))) (uD (uL M 605 63 x3) 605 64 x9)) ∧ (¬ s0 = 0 → K (some (.int (0 : Int32))) (uD (uL M 605 63 x3) 605 64 x5))))) : G 54 [some (.ref 605), o1, o2, some (.long x3), none, some (.double x5), none, some (.long x7), none, some (.double x9), none, o11, o12] [.int s0] M :=
  (hc.2.2.2.2.2.2.2.2.2.1 _ _ _ (i_istore (Nat.le_of_ble_eq_true rfl) (i_aload rfl (i_iload rfl (i_if_eq (fun q1674 => (hc.2.2.2.2.2.2.2.2.2.2.2.1 _ _ _ (i_lload rfl (hc.2.2.2.2.2.2.2.2.2.2.2.2.1 _ _ _ (i_putL (okS hW Sk_605) (i_aload rfl (i_iload rfl (i_if_eq (fun q1675 => (hc.2.2.2.2.2.2.2.2.2.2.2.2.2.2.1 _ _ _ (i_dload rfl (hc.2.2.2.2.2.2.2.2.2.2.2.2.2.2.2.1 _ _ _ (i_putD (okS hW Sk_605) (i_ic (i_iret hW.1 ((h.1 q1674).1 q1675)))))))) (fun q1675 => (hc.2.2.2.2.2.2.2.2.2.2.2.2.2.1 _ _ _ (i_dload rfl (hc.2.2.2.2.2.2.2.2.2.2.2.2.2.2.2.1 _ _ _ (i_putD (okS hW Sk_605) (i_ic (i_iret hW.1 ((h.1 q1674).2 q1675)))))))))))))))) (fun q1674 => (hc.2.2.2.2.2.2.2.2.2.2.1 _ _ _ (i_lload rfl (hc.2.2.2.2.2.2.2.2.2.2.2.2.1 _ _ _ (i_putL (okS hW Sk_605) (i_aload rfl (i_iload rfl (i_if_eq (fun q1676 => (hc.2.2.2.2.2.2.2.2.2.2.2.2.2.2.1 _ _ _ (i_dload rfl (hc.2.2.2.2.2.2.2.2.2.2.2.2.2.2.2.1 _ _ _ (i_putD (okS hW Sk_605) (i_ic (i_iret hW.1 ((h.2 q1674).1 q1676)))))))) (fun q1676 => (hc.2.2.2.2.2.2.2.2.2.2.2.2.2.1 _ _ _ (i_dload rfl (hc.2.2.2.2.2.2.2.2.2.2.2.2.2.2.2.1 _ _ _ (i_putD (okS hW Sk_605) (i_ic (i_iret hW.1 ((h.2 q1674).2 q1676)))))))))))))))))))))
set_option maxRecDepth 100000 in
theorem eX13_make_210 {G : Nat → KT} {K : RT} (hc : cloX13_make G K wT) {x1 : Int32} {x2 : Int32} {x3 : Int64} {o5 : Option Value} {o6 : Option Value} {x7 : Int64} {o9 : Option Value} {o10 : Option Value} {o11 : Option Value} {o12 : Option Value} {M : Mem} (hW : Wf M) (h : (¬ x7 = (0 : Int64) → ((¬ x1 = (4 : Int32) → ((¬ x7 = 0) ∧ K (some (.int (f_X13_giveWhole x2 (x3 - x3 / x7 * x7)))) (m_X13_giveWhole x2 (x3 - x3 / x7 * x7) M))) ∧ (x1 = (4 : Int32) → ((¬ x7 = 0) ∧ K (some (.int (f_X13_giveWhole x2 (x3 / x7)))) (m_X13_giveWhole x2 (x3 / x7) M))))) ∧ (x7 = (0 : Int64) → K (some (.int (5 : Int32))) M)) : G 210 [some (.ref 605), some (.int x1), some (.int x2), some (.long x3), none, o5, o6, some (.long x7), none, o9, o10, o11, o12] [] M :=
  (hc.2.2.2.2.2.2.2.2.2.2.2.2.2.2.2.2.2.2.2.2.2.2.2.2.2.2.1 _ _ _ (i_lload rfl (i_lc (i_lcmp (i_lcmp_ne (fun q1677 => (hc.2.2.2.2.2.2.2.2.2.2.2.2.2.2.2.2.2.2.2.2.2.2.2.2.2.2.2.2.1 _ _ _ (i_aload rfl (i_iload rfl (i_iload rfl (i_ic (i_icmp_ne (fun q1678 => (hc.2.2.2.2.2.2.2.2.2.2.2.2.2.2.2.2.2.2.2.2.2.2.2.2.2.2.2.2.2.2.1 _ _ _ (i_lload rfl (i_lload rfl (i_lrem ((h.1 q1677).1 q1678).1 (hc.2.2.2.2.2.2.2.2.2.2.2.2.2.2.2.2.2.2.2.2.2.2.2.2.2.2.2.2.2.2.2.1 _ _ _ (i_callV3 (Nat.le_of_ble_eq_true rfl) (okS hW Sk_605) (c_X13_giveWhole hW  (i_rI (hc.2.2.2.2.2.2.2.2.2.2.2.2.2.2.2.2.2.2.2.2.2.2.2.2.2.2.2.2.2.2.2.2.1 _ _ _ (i_iret (Wf_m_X13_giveWhole (M := M) x2 (x3 - x3 / x7 * x7) hW).1 ((h.1 q1677).1 q1678).2))))))))))) (fun q1678 => (hc.2.2.2.2.2.2.2.2.2.2.2.2.2.2.2.2.2.2.2.2.2.2.2.2.2.2.2.2.2.1 _ _ _ (i_lload rfl (i_lload rfl (i_ldiv ((h.1 q1677).2 q1678).1 (hc.2.2.2.2.2.2.2.2.2.2.2.2.2.2.2.2.2.2.2.2.2.2.2.2.2.2.2.2.2.2.2.1 _ _ _ (i_callV3 (Nat.le_of_ble_eq_true rfl) (okS hW Sk_605) (c_X13_giveWhole hW  (i_rI (hc.2.2.2.2.2.2.2.2.2.2.2.2.2.2.2.2.2.2.2.2.2.2.2.2.2.2.2.2.2.2.2.2.1 _ _ _ (i_iret (Wf_m_X13_giveWhole (M := M) x2 (x3 / x7) hW).1 ((h.1 q1677).2 q1678).2)))))))))))))))))) (fun q1677 => (hc.2.2.2.2.2.2.2.2.2.2.2.2.2.2.2.2.2.2.2.2.2.2.2.2.2.2.2.1 _ _ _ (i_ic (hc.2.2.2.2.2.2.2.2.2.2.2.2.2.2.2.2.2.2.2.2.2.2.2.2.2.2.2.2.2.2.2.2.1 _ _ _ (i_iret hW.1 (h.2 q1677)))))))))))
set_option maxRecDepth 100000 in
theorem rX13_make_12_5 {G : Nat → KT} {K : RT} (hc : cloX13_make G K wT) {x1 : Int32} {o2 : Option Value} {x3 : Int64} {x5 : UInt64} {x7 : Int64} {x9 : UInt64} {o11 : Option Value} {o12 : Option Value} {y : Int32} {M : Mem} (hW : Wf M) (h : (¬ x1 = (6 : Int32) → ((y < 0 → G 54 [some (.ref 605), some (.int x1), o2, some (.long x3), none, some (.double x5), none, some (.long x7), none, some (.double x9), none, some (.int y), o12] [.int (0 : Int32)] M) ∧ (¬ y < 0 → G 54 [some (.ref 605), some (.int x1), o2, some (.long x3), none, some (.double x5), none, some (.long x7), none, some (.double x9), none, some (.int y), o12] [.int (1 : Int32)] M))) ∧ (x1 = (6 : Int32) → ((0 < y → G 54 [some (.ref 605), some (.int x1), o2, some (.long x3), none, some (.double x5), none, some (.long x7), none, some (.double x9), none, some (.int y), o12] [.int (0 : Int32)] M) ∧ (¬ 0 < y → G 54 [some (.ref 605), some (.int x1), o2, some (.long x3), none, some (.double x5), none, some (.long x7), none, some (.double x9), none, some (.int y), o12] [.int (1 : Int32)] M)))) : RX13_make_12_5 G K [some (.ref 605), some (.int x1), o2, some (.long x3), none, some (.double x5), none, some (.long x7), none, some (.double x9), none, o11, o12] (Option.toList (some (.int y)) ++ []) M :=
  (i_rI (i_istore (Nat.le_of_ble_eq_true rfl) (i_iload rfl (i_ic (i_icmp_ne (fun q1679 => (hc.2.2.2.2.2.2.1 _ _ _ (i_iload rfl (i_if_lt (fun q1680 => (hc.2.2.2.2.2.2.2.2.1 _ _ _ (i_ic ((h.1 q1679).1 q1680)))) (fun q1680 => (hc.2.2.2.2.2.2.2.1 _ _ _ (i_ic ((h.1 q1679).2 q1680)))))))) (fun q1679 => (hc.2.2.2.1 _ _ _ (i_iload rfl (i_if_gt (fun q1681 => (hc.2.2.2.2.2.1 _ _ _ (i_ic ((h.2 q1679).1 q1681)))) (fun q1681 => (hc.2.2.2.2.1 _ _ _ (i_ic ((h.2 q1679).2 q1681)))))))))))))
theorem wX13_make {x1 : Int32} {x2 : Int32} {x3 : Int64} {x5 : UInt64} {x7 : Int64} {x9 : UInt64} {M : Mem} {K : RT} (hW : Wf M) (h : ∀ {G : Nat → KT}, cloX13_make G K wT → (x1 = (6 : Int32) → G 12 [some (.ref 605), some (.int x1), some (.int x2), some (.long x3), none, some (.double x5), none, some (.long x7), none, some (.double x9), none, none, none] [] M) ∧ (¬ x1 = (6 : Int32) → ((¬ x1 = (7 : Int32) → ((¬ (P_X13_isReal x2) → ((x1 = 1 → K (some (.int (f_X13_giveWhole x2 (x3 + x7)))) (m_X13_giveWhole x2 (x3 + x7) M)) ∧ (¬ x1 = 1 → ((x1 = 2 → K (some (.int (f_X13_giveWhole x2 (x3 - x7)))) (m_X13_giveWhole x2 (x3 - x7) M)) ∧ (¬ x1 = 2 → ((x1 = 3 → K (some (.int (f_X13_giveWhole x2 (x3 * x7)))) (m_X13_giveWhole x2 (x3 * x7) M)) ∧ (¬ x1 = 3 → ((x1 = 4 → G 210 [some (.ref 605), some (.int x1), some (.int x2), some (.long x3), none, some (.double x5), none, some (.long x7), none, some (.double x9), none, none, none] [] M) ∧ (¬ x1 = 4 → ((x1 = 5 → G 210 [some (.ref 605), some (.int x1), some (.int x2), some (.long x3), none, some (.double x5), none, some (.long x7), none, some (.double x9), none, none, none] [] M) ∧ (¬ x1 = 5 → ((x1 = 6 → K (some (.int (f_X13_giveWhole x2 (x3 ^^^ x7)))) (m_X13_giveWhole x2 (x3 ^^^ x7) M)) ∧ (¬ x1 = 6 → ((x1 = 7 → K (some (.int (f_X13_giveWhole x2 (x3 ^^^ x7)))) (m_X13_giveWhole x2 (x3 ^^^ x7) M)) ∧ (¬ x1 = 7 → ((x1 = 8 → K (some (.int (f_X13_giveWhole x2 (x3 &&& x7)))) (m_X13_giveWhole x2 (x3 &&& x7) M)) ∧ (¬ x1 = 8 → ((x1 = 9 → K (some (.int (f_X13_giveWhole x2 (x3 ||| x7)))) (m_X13_giveWhole x2 (x3 ||| x7) M)) ∧ (¬ x1 = 9 → K (some (.int (f_X13_giveWhole x2 (x3 ^^^ x7)))) (m_X13_giveWhole x2 (x3 ^^^ x7) M)))))))))))))))))))) ∧ ((P_X13_isReal x2) → ((x1 ≤ (3 : Int32) → ((q_X13_realMade x1 x2 x5 x9) ∧ K (some (.int (f_X13_givesReal x2 (f_X13_realMade x1 x2 x5 x9)))) (m_X13_givesReal x2 (f_X13_realMade x1 x2 x5 x9) M))) ∧ (¬ x1 ≤ (3 : Int32) → ((¬ (Op.cmpValue (FP.dcmp x9 FP.dconst0) .l) = 0 → ((q_X13_realMade x1 x2 x5 x9) ∧ K (some (.int (f_X13_givesReal x2 (f_X13_realMade x1 x2 x5 x9)))) (m_X13_givesReal x2 (f_X13_realMade x1 x2 x5 x9) M))) ∧ ((Op.cmpValue (FP.dcmp x9 FP.dconst0) .l) = 0 → K (some (.int (5 : Int32))) M))))))) ∧ (x1 = (7 : Int32) → G 12 [some (.ref 605), some (.int x1), some (.int x2), some (.long x3), none, some (.double x5), none, some (.long x7), none, some (.double x9), none, none, none] [] M)))) : sp_X13_make [.ref 605, .int x1, .int x2, .long x3, .double x5, .long x7, .double x9] M K := by
  refine ⟨Nat.le_of_ble_eq_true rfl, fun G hc => ?_⟩
  rw [hW.1] at hc
  exact eX13_make hc hW  (h hc)
set_option maxRecDepth 100000 in
theorem eX13_shift {G : Nat → KT} {K : RT} (hc : cloX13_shift G K wT) {x1 : Int32} {x2 : Int32} {x3 : Int64} {x5 : Int64} {M : Mem} (hW : Wf M) (h : (¬ x2 = 0 → ((x2 = (1 : Int32) → G 38 [some (.ref 605), some (.int x1), some (.int x2), some (.long x3), none, some (.long x5), none, none, none, none] [.int (15 : Int32), .long x5] M) ∧ (¬ x2 = (1 : Int32) → ((¬ x2 = (2 : Int32) → ((¬ x2 = (3 : Int32) → G 38 [some (.ref 605), some (.int x1), some (.int x2), some (.long x3), none, some (.long x5), none, none, none, none] [.int (63 : Int32), .long x5] M) ∧ (x2 = (3 : Int32) → G 38 [some (.ref 605), some (.int x1), some (.int x2), some (.long x3), none, some (.long x5), none, none, none, none] [.int (31 : Int32), .long x5] M))) ∧ (x2 = (2 : Int32) → G 38 [some (.ref 605), some (.int x1), some (.int x2), some (.long x3), none, some (.long x5), none, none, none, none] [.int (15 : Int32), .long x5] M))))) ∧ (x2 = 0 → G 38 [some (.ref 605), some (.int x1), some (.int x2), some (.long x3), none, some (.long x5), none, none, none, none] [.int (7 : Int32), .long x5] M)) : G 0 [some (.ref 605), some (.int x1), some (.int x2), some (.long x3), none, some (.long x5), none, none, none, none] [] M :=
  (hc.1 _ _ _ (i_lload rfl (i_iload rfl (i_if_ne (fun q1689 => (hc.2.2.1 _ _ _ (i_iload rfl (i_ic (i_icmp_eq (fun q1690 => (hc.2.2.2.2.1 _ _ _ (i_ic ((h.1 q1689).1 q1690)))) (fun q1690 => (hc.2.2.2.1 _ _ _ (i_iload rfl (i_ic (i_icmp_ne (fun q1691 => (hc.2.2.2.2.2.1 _ _ _ (i_iload rfl (i_ic (i_icmp_ne (fun q1692 => (hc.2.2.2.2.2.2.2.1 _ _ _ (i_ic ((((h.1 q1689).2 q1690).1 q1691).1 q1692)))) (fun q1692 => (hc.2.2.2.2.2.2.1 _ _ _ (i_ic ((((h.1 q1689).2 q1690).1 q1691).2 q1692))))))))) (fun q1691 => (hc.2.2.2.2.1 _ _ _ (i_ic (((h.1 q1689).2 q1690).2 q1691)))))))))))))) (fun q1689 => (hc.2.1 _ _ _ (i_ic (h.2 q1689))))))))
set_option maxRecDepth 100000 in
theorem eX13_shift_38 {G : Nat → KT} {K : RT} (hc : cloX13_shift G K wT) {x1 : Int32} {x2 : Int32} {x3 : Int64} {o5 : Option Value} {o6 : Option Value} {o7 : Option Value} {o8 : Option Value} {o9 : Option Value} {s0 : Int64} {s1 : Int32} {M : Mem} (hW : Wf M) (h : (¬ x2 = (4 : Int32) → G 62 [some (.ref 605), some (.int x1), some (.int x2), some (.long x3), none, o5, (lk o6), some (.int ((s0 &&& (s1.toInt64)).toInt32)), o8, o9] [.long (x3 &&& (((1 : Int64) <<< ((f_X13_width x2).toInt64 &&& 63)) - (1 : Int64)))] M) ∧ (x2 = (4 : Int32) → G 62 [some (.ref 605), some (.int x1), some (.int x2), some (.long x3), none, o5, (lk o6), some (.int ((s0 &&& (s1.toInt64)).toInt32)), o8, o9] [.long x3] M)) : G 38 [some (.ref 605), some (.int x1), some (.int x2), some (.long x3), none, o5, o6, o7, o8, o9] [.int s1, .long s0] M :=
  (hc.2.2.2.2.2.2.2.2.1 _ _ _ (i_i2l (i_land (i_l2i (i_istore (Nat.le_of_ble_eq_true rfl) (i_iload rfl (i_ic (i_icmp_ne (fun q1693 => (hc.2.2.2.2.2.2.2.2.2.2.1 _ _ _ (i_lload rfl (i_lc (i_iload rfl (i_callS1 (Nat.le_of_ble_eq_true rfl) (c_X13_width hW  (i_rI (i_lshl (i_lc (i_lsub (i_land (h.1 q1693))))))))))))) (fun q1693 => (hc.2.2.2.2.2.2.2.2.2.1 _ _ _ (i_lload rfl (h.2 q1693))))))))))))
set_option maxRecDepth 100000 in
theorem eX13_shift_62 {G : Nat → KT} {K : RT} (hc : cloX13_shift G K wT) {x1 : Int32} {x2 : Int32} {x3 : Int64} {o5 : Option Value} {o6 : Option Value} {x7 : Int32} {o8 : Option Value} {o9 : Option Value} {s0 : Int64} {M : Mem} (hW : Wf M) (h : (¬ x1 = (11 : Int32) → ((¬ x1 = (12 : Int32) → K (some (.int (f_X13_giveWhole x2 ((s0.toUInt64 >>> (x7.toInt64.toUInt64 &&& Int64.toUInt64 63)).toInt64)))) (m_X13_giveWhole x2 ((s0.toUInt64 >>> (x7.toInt64.toUInt64 &&& Int64.toUInt64 63)).toInt64) M)) ∧ (x1 = (12 : Int32) → K (some (.int (f_X13_giveWhole x2 (x3 >>> (x7.toInt64 &&& 63))))) (m_X13_giveWhole x2 (x3 >>> (x7.toInt64 &&& 63)) M)))) ∧ (x1 = (11 : Int32) → K (some (.int (f_X13_giveWhole x2 (x3 <<< (x7.toInt64 &&& 63))))) (m_X13_giveWhole x2 (x3 <<< (x7.toInt64 &&& 63)) M))) : G 62 [some (.ref 605), some (.int x1), some (.int x2), some (.long x3), none, o5, o6, some (.int x7), o8, o9] [.long s0] M :=
  (hc.2.2.2.2.2.2.2.2.2.2.2.1 _ _ _ (i_lstore (Nat.le_of_ble_eq_true rfl) (i_aload rfl (i_iload rfl (i_iload rfl (i_ic (i_icmp_ne (fun q1694 => (hc.2.2.2.2.2.2.2.2.2.2.2.2.2.1 _ _ _ (i_iload rfl (i_ic (i_icmp_ne (fun q1695 => (hc.2.2.2.2.2.2.2.2.2.2.2.2.2.2.2.1 _ _ _ (i_lload rfl (i_iload rfl (i_lushr (hc.2.2.2.2.2.2.2.2.2.2.2.2.2.2.2.2 _ _ _ (i_callV3 (Nat.le_of_ble_eq_true rfl) (okS hW Sk_605) (c_X13_giveWhole hW  (i_rI (i_iret (Wf_m_X13_giveWhole (M := M) x2 ((s0.toUInt64 >>> (x7.toInt64.toUInt64 &&& Int64.toUInt64 63)).toInt64) hW).1 ((h.1 q1694).1 q1695))))))))))) (fun q1695 => (hc.2.2.2.2.2.2.2.2.2.2.2.2.2.2.1 _ _ _ (i_lload rfl (i_iload rfl (i_lshr (hc.2.2.2.2.2.2.2.2.2.2.2.2.2.2.2.2 _ _ _ (i_callV3 (Nat.le_of_ble_eq_true rfl) (okS hW Sk_605) (c_X13_giveWhole hW  (i_rI (i_iret (Wf_m_X13_giveWhole (M := M) x2 (x3 >>> (x7.toInt64 &&& 63)) hW).1 ((h.1 q1694).2 q1695)))))))))))))))) (fun q1694 => (hc.2.2.2.2.2.2.2.2.2.2.2.2.1 _ _ _ (i_lload rfl (i_iload rfl (i_lshl (hc.2.2.2.2.2.2.2.2.2.2.2.2.2.2.2.2 _ _ _ (i_callV3 (Nat.le_of_ble_eq_true rfl) (okS hW Sk_605) (c_X13_giveWhole hW  (i_rI (i_iret (Wf_m_X13_giveWhole (M := M) x2 (x3 <<< (x7.toInt64 &&& 63)) hW).1 (h.2 q1694))))))))))))))))))
theorem wX13_shift {x1 : Int32} {x2 : Int32} {x3 : Int64} {x5 : Int64} {M : Mem} {K : RT} (hW : Wf M) (h : ∀ {G : Nat → KT}, cloX13_shift G K wT → (¬ x2 = 0 → ((x2 = (1 : Int32) → G 38 [some (.ref 605), some (.int x1), some (.int x2), some (.long x3), none, some (.long x5), none, none, none, none] [.int (15 : Int32), .long x5] M) ∧ (¬ x2 = (1 : Int32) → ((¬ x2 = (2 : Int32) → ((¬ x2 = (3 : Int32) → G 38 [some (.ref 605), some (.int x1), some (.int x2), some (.long x3), none, some (.long x5), none, none, none, none] [.int (63 : Int32), .long x5] M) ∧ (x2 = (3 : Int32) → G 38 [some (.ref 605), some (.int x1), some (.int x2), some (.long x3), none, some (.long x5), none, none, none, none] [.int (31 : Int32), .long x5] M))) ∧ (x2 = (2 : Int32) → G 38 [some (.ref 605), some (.int x1), some (.int x2), some (.long x3), none, some (.long x5), none, none, none, none] [.int (15 : Int32), .long x5] M))))) ∧ (x2 = 0 → G 38 [some (.ref 605), some (.int x1), some (.int x2), some (.long x3), none, some (.long x5), none, none, none, none] [.int (7 : Int32), .long x5] M)) : sp_X13_shift [.ref 605, .int x1, .int x2, .long x3, .long x5] M K := by
  refine ⟨Nat.le_of_ble_eq_true rfl, fun G hc => ?_⟩
  rw [hW.1] at hc
  exact eX13_shift hc hW  (h hc)
set_option maxRecDepth 100000 in
theorem eX13_root {G : Nat → KT} {K : RT} (hc : cloX13_root G K wT) {x0 : UInt64} {M : Mem} (hW : Wf M) (h : G 5 [some (.double x0), none, some (.double x0), none, some (.double FP.dconst1), none, none, none, none, none, none, none, none, none, none] [] M) : G 0 [some (.double x0), none, none, none, none, none, none, none, none, none, none, none, none, none, none] [] M :=
  (hc.1 _ _ _ (i_dload rfl (i_dstore (Nat.le_of_ble_eq_true rfl) (i_dconst1 (i_dstore (Nat.le_of_ble_eq_true rfl) h)))))
set_option maxRecDepth 100000 in
theorem eX13_root_5 {G : Nat → KT} {K : RT} (hc : cloX13_root G K wT) {o0 : Option Value} {o1 : Option Value} {x2 : UInt64} {x4 : UInt64} {o6 : Option Value} {o7 : Option Value} {o8 : Option Value} {o9 : Option Value} {o10 : Option Value} {o11 : Option Value} {o12 : Option Value} {o13 : Option Value} {o14 : Option Value} {M : Mem} (hW : Wf M) (h : (0 ≤ (Op.cmpValue (FP.dcmp x2 FP.dconst1) .g) → G 28 [o0, o1, some (.double x2), none, some (.double x4), none, o6, o7, o8, o9, o10, o11, o12, o13, o14] [] M) ∧ (¬ 0 ≤ (Op.cmpValue (FP.dcmp x2 FP.dconst1) .g) → ((vf_n64 (FP.dmul x2 (4616189618054758400 : UInt64))) ∧ (∀ y1 : UInt64, y1 = (FP.dmul x2 (4616189618054758400 : UInt64)) → (vf_n64 (FP.dmul x4 (4602678819172646912 : UInt64))) ∧ (∀ y2 : UInt64, y2 = (FP.dmul x4 (4602678819172646912 : UInt64)) → G 5 [o0, (lk o1), some (.double y1), none, some (.double y2), none, o6, o7, o8, o9, o10, o11, o12, o13, o14] [] M))))) : G 5 [o0, o1, some (.double x2), none, some (.double x4), none, o6, o7, o8, o9, o10, o11, o12, o13, o14] [] M :=
  (hc.2.1 _ _ _ (i_dload rfl (i_dconst1 (i_dcmp (i_if_ge (fun q1705 => (h.1 q1705)) (fun q1705 => (hc.2.2.1 _ _ _ (i_dload rfl (i_dc (i_dmul (h.2 q1705).1 (i_dstore (Nat.le_of_ble_eq_true rfl) (i_dload rfl (i_dc (i_dmul ((h.2 q1705).2 _ rfl).1 (i_dstore (Nat.le_of_ble_eq_true rfl) (((h.2 q1705).2 _ rfl).2 _ rfl))))))))))))))))
set_option maxRecDepth 100000 in
theorem eX13_root_28 {G : Nat → KT} {K : RT} (hc : cloX13_root G K wT) {o0 : Option Value} {o1 : Option Value} {x2 : UInt64} {x4 : UInt64} {o6 : Option Value} {o7 : Option Value} {o8 : Option Value} {o9 : Option Value} {o10 : Option Value} {o11 : Option Value} {o12 : Option Value} {o13 : Option Value} {o14 : Option Value} {M : Mem} (hW : Wf M) (h : ((Op.cmpValue (FP.dcmp x2 (4616189618054758400 : UInt64)) .l) < 0 → ((vf_n64 (FP.dmul x2 (4841369599423283200 : UInt64))) ∧ (∀ y3 : Int64, y3 = (FP.d2l (FP.dmul x2 (4841369599423283200 : UInt64))) → G 71 [o0, o1, some (.double x2), none, some (.double x4), none, some (.long y3), none, some (.long (0 : Int64)), none, some (.long (0 : Int64)), none, some (.int (52 : Int32)), o13, o14] [] M))) ∧ (¬ (Op.cmpValue (FP.dcmp x2 (4616189618054758400 : UInt64)) .l) < 0 → ((vf_n64 (FP.dmul x2 (4598175219545276416 : UInt64))) ∧ (∀ y4 : UInt64, y4 = (FP.dmul x2 (4598175219545276416 : UInt64)) → (vf_n64 (FP.dmul x4 (4611686018427387904 : UInt64))) ∧ (∀ y5 : UInt64, y5 = (FP.dmul x4 (4611686018427387904 : UInt64)) → G 28 [o0, (lk o1), some (.double y4), none, some (.double y5), none, o6, o7, o8, o9, o10, o11, o12, o13, o14] [] M))))) : G 28 [o0, o1, some (.double x2), none, some (.double x4), none, o6, o7, o8, o9, o10, o11, o12, o13, o14] [] M :=
  (hc.2.2.2.1 _ _ _ (i_dload rfl (i_dc (i_dcmp (i_if_lt (fun q1706 => (hc.2.2.2.2.2.1 _ _ _ (i_dload rfl (i_dc (i_dmul (h.1 q1706).1 (i_d2l (i_lstore (Nat.le_of_ble_eq_true rfl) (i_lc (i_lstore (Nat.le_of_ble_eq_true rfl) (i_lc (i_lstore (Nat.le_of_ble_eq_true rfl) (i_ic (i_istore (Nat.le_of_ble_eq_true rfl) ((h.1 q1706).2 _ rfl)))))))))))))) (fun q1706 => (hc.2.2.2.2.1 _ _ _ (i_dload rfl (i_dc (i_dmul (h.2 q1706).1 (i_dstore (Nat.le_of_ble_eq_true rfl) (i_dload rfl (i_dc (i_dmul ((h.2 q1706).2 _ rfl).1 (i_dstore (Nat.le_of_ble_eq_true rfl) (((h.2 q1706).2 _ rfl).2 _ rfl))))))))))))))))
set_option maxRecDepth 100000 in
theorem eX13_root_71 {G : Nat → KT} {K : RT} (hc : cloX13_root G K wT) {o0 : Option Value} {o1 : Option Value} {o2 : Option Value} {o3 : Option Value} {x4 : UInt64} {x6 : Int64} {x8 : Int64} {x10 : Int64} {x12 : Int32} {o13 : Option Value} {o14 : Option Value} {M : Mem} (hW : Wf M) (h : (x12 < (-54 : Int32) → ((¬ (x10 &&& (1 : Int64)) = (1 : Int64) → G 184 [o0, o1, o2, o3, some (.double x4), none, some (.long x6), none, some (.long x8), none, some (.long x10), none, some (.long (x10 >>> ((1 : Int32).toInt64 &&& 63))), none, o14] [.int (0 : Int32)] M) ∧ ((x10 &&& (1 : Int64)) = (1 : Int64) → ((¬ x8 = (0 : Int64) → G 184 [o0, o1, o2, o3, some (.double x4), none, some (.long x6), none, some (.long x8), none, some (.long x10), none, some (.long (x10 >>> ((1 : Int32).toInt64 &&& 63))), none, o14] [.int (1 : Int32)] M) ∧ (x8 = (0 : Int64) → ((¬ ((x10 >>> ((1 : Int32).toInt64 &&& 63)) &&& (1 : Int64)) = (1 : Int64) → G 184 [o0, o1, o2, o3, some (.double x4), none, some (.long x6), none, some (.long x8), none, some (.long x10), none, some (.long (x10 >>> ((1 : Int32).toInt64 &&& 63))), none, o14] [.int (0 : Int32)] M) ∧ (((x10 >>> ((1 : Int32).toInt64 &&& 63)) &&& (1 : Int64)) = (1 : Int64) → G 184 [o0, o1, o2, o3, some (.double x4), none, some (.long x6), none, some (.long x8), none, some (.long x10), none, some (.long (x10 >>> ((1 : Int32).toInt64 &&& 63))), none, o14] [.int (1 : Int32)] M))))))) ∧ (¬ x12 < (-54 : Int32) → ((x12 < 0 → G 100 [o0, o1, o2, o3, some (.double x4), none, some (.long x6), none, some (.long x8), none, some (.long x10), none, some (.int x12), o13, o14] [.long (0 : Int64), .long (x8 <<< ((2 : Int32).toInt64 &&& 63))] M) ∧ (¬ x12 < 0 → G 100 [o0, o1, o2, o3, some (.double x4), none, some (.long x6), none, some (.long x8), none, some (.long x10), none, some (.int x12), o13, o14] [.long ((x6 >>> (x12.toInt64 &&& 63)) &&& (3 : Int64)), .long (x8 <<< ((2 : Int32).toInt64 &&& 63))] M)))) : G 71 [o0, o1, o2, o3, some (.double x4), none, some (.long x6), none, some (.long x8), none, some (.long x10), none, some (.int x12), o13, o14] [] M :=
  (hc.2.2.2.2.2.2.1 _ _ _ (i_iload rfl (i_ic (i_icmp_lt (fun q1707 => (hc.2.2.2.2.2.2.2.2.2.2.2.2.2.1 _ _ _ (i_lload rfl (i_ic (i_lshr (i_lstore (Nat.le_of_ble_eq_true rfl) (i_lload rfl (i_lc (i_land (i_lc (i_lcmp (i_lcmp_ne (fun q1708 => (hc.2.2.2.2.2.2.2.2.2.2.2.2.2.2.2.2.2.1 _ _ _ (i_ic ((h.1 q1707).1 q1708)))) (fun q1708 => (hc.2.2.2.2.2.2.2.2.2.2.2.2.2.2.1 _ _ _ (i_lload rfl (i_lc (i_lcmp (i_lcmp_ne (fun q1709 => (hc.2.2.2.2.2.2.2.2.2.2.2.2.2.2.2.2.1 _ _ _ (i_ic (((h.1 q1707).2 q1708).1 q1709)))) (fun q1709 => (hc.2.2.2.2.2.2.2.2.2.2.2.2.2.2.2.1 _ _ _ (i_lload rfl (i_lc (i_land (i_lc (i_lcmp (i_lcmp_ne (fun q1710 => (hc.2.2.2.2.2.2.2.2.2.2.2.2.2.2.2.2.2.1 _ _ _ (i_ic ((((h.1 q1707).2 q1708).2 q1709).1 q1710)))) (fun q1710 => (hc.2.2.2.2.2.2.2.2.2.2.2.2.2.2.2.2.1 _ _ _ (i_ic ((((h.1 q1707).2 q1708).2 q1709).2 q1710)))))))))))))))))))))))))))))) (fun q1707 => (hc.2.2.2.2.2.2.2.1 _ _ _ (i_lload rfl (i_ic (i_lshl (i_iload rfl (i_if_lt (fun q1711 => (hc.2.2.2.2.2.2.2.2.2.1 _ _ _ (i_lc ((h.2 q1707).1 q1711)))) (fun q1711 => (hc.2.2.2.2.2.2.2.2.1 _ _ _ (i_lload rfl (i_iload rfl (i_lshr (i_lc (i_land ((h.2 q1707).2 q1711)))))))))))))))))))
set_option maxRecDepth 100000 in
theorem eX13_root_100 {G : Nat → KT} {K : RT} (hc : cloX13_root G K wT) {o0 : Option Value} {o1 : Option Value} {o2 : Option Value} {o3 : Option Value} {x4 : UInt64} {x6 : Int64} {o8 : Option Value} {o9 : Option Value} {x10 : Int64} {x12 : Int32} {o13 : Option Value} {o14 : Option Value} {s0 : Int64} {s1 : Int64} {M : Mem} (hW : Wf M) (h : ((s0 ||| s1) < (((2 : Int64) * (x10 <<< ((1 : Int32).toInt64 &&& 63))) + (1 : Int64)) → G 71 [o0, o1, o2, o3, some (.double x4), none, some (.long x6), none, some (.long (s0 ||| s1)), none, some (.long (x10 <<< ((1 : Int32).toInt64 &&& 63))), none, some (.int (x12 + (-2 : Int32))), o13, o14] [] M) ∧ (¬ (s0 ||| s1) < (((2 : Int64) * (x10 <<< ((1 : Int32).toInt64 &&& 63))) + (1 : Int64)) → (∀ y6 : Int64, y6 = ((s0 ||| s1) - (((2 : Int64) * (x10 <<< ((1 : Int32).toInt64 &&& 63))) + (1 : Int64))) → ∀ y7 : Int64, y7 = ((x10 <<< ((1 : Int32).toInt64 &&& 63)) + (1 : Int64)) → G 71 [o0, o1, o2, o3, some (.double x4), none, some (.long x6), none, some (.long y6), none, some (.long y7), none, some (.int (x12 + (-2 : Int32))), o13, o14] [] M))) : G 100 [o0, o1, o2, o3, some (.double x4), none, some (.long x6), none, o8, o9, some (.long x10), none, some (.int x12), o13, o14] [.long s1, .long s0] M :=
  (hc.2.2.2.2.2.2.2.2.2.2.1 _ _ _ (i_lor (i_lstore (Nat.le_of_ble_eq_true rfl) (i_lload rfl (i_ic (i_lshl (i_lstore (Nat.le_of_ble_eq_true rfl) (i_lload rfl (i_lc (i_lload rfl (i_lmul (i_lc (i_ladd (i_lcmp (i_lcmp_lt (fun q1712 => (hc.2.2.2.2.2.2.2.2.2.2.2.2.1 _ _ _ (i_iinc rfl (h.1 q1712)))) (fun q1712 => (hc.2.2.2.2.2.2.2.2.2.2.2.1 _ _ _ (i_lload rfl (i_lc (i_lload rfl (i_lmul (i_lc (i_ladd (i_lsub (i_lstore (Nat.le_of_ble_eq_true rfl) (i_lload rfl (i_lc (i_ladd (i_lstore (Nat.le_of_ble_eq_true rfl) (hc.2.2.2.2.2.2.2.2.2.2.2.2.1 _ _ _ (i_iinc rfl (((h.2 q1712) _ rfl) _ rfl))))))))))))))))))))))))))))))))
set_option maxRecDepth 100000 in
theorem eX13_root_184 {G : Nat → KT} {K : RT} (hc : cloX13_root G K wT) {o0 : Option Value} {o1 : Option Value} {o2 : Option Value} {o3 : Option Value} {x4 : UInt64} {o6 : Option Value} {o7 : Option Value} {o8 : Option Value} {o9 : Option Value} {o10 : Option Value} {o11 : Option Value} {x12 : Int64} {o14 : Option Value} {s0 : Int32} {M : Mem} (hW : Wf M) (h : (s0 = 0 → ((vf_n64 (FP.ddiv (FP.l2d x12) (4841369599423283200 : UInt64))) ∧ ((vf_n64 (FP.dmul (FP.ddiv (FP.l2d x12) (4841369599423283200 : UInt64)) x4)) ∧ K (some (.double (FP.dmul (FP.ddiv (FP.l2d x12) (4841369599423283200 : UInt64)) x4))) M))) ∧ (¬ s0 = 0 → ((vf_n64 (FP.ddiv (FP.l2d (x12 + (1 : Int64))) (4841369599423283200 : UInt64))) ∧ ((vf_n64 (FP.dmul (FP.ddiv (FP.l2d (x12 + (1 : Int64))) (4841369599423283200 : UInt64)) x4)) ∧ K (some (.double (FP.dmul (FP.ddiv (FP.l2d (x12 + (1 : Int64))) (4841369599423283200 : UInt64)) x4))) M)))) : G 184 [o0, o1, o2, o3, some (.double x4), none, o6, o7, o8, o9, o10, o11, some (.long x12), none, o14] [.int s0] M :=
  (hc.2.2.2.2.2.2.2.2.2.2.2.2.2.2.2.2.2.2.1 _ _ _ (i_istore (Nat.le_of_ble_eq_true rfl) (i_iload rfl (i_if_eq (fun q1713 => (hc.2.2.2.2.2.2.2.2.2.2.2.2.2.2.2.2.2.2.2.2.1 _ _ _ (i_lload rfl (hc.2.2.2.2.2.2.2.2.2.2.2.2.2.2.2.2.2.2.2.2.2 _ _ _ (i_l2d (i_dc (i_ddiv (h.1 q1713).1 (i_dload rfl (i_dmul (h.1 q1713).2.1 (i_dret hW.1 (h.1 q1713).2.2)))))))))) (fun q1713 => (hc.2.2.2.2.2.2.2.2.2.2.2.2.2.2.2.2.2.2.2.1 _ _ _ (i_lload rfl (i_lc (i_ladd (hc.2.2.2.2.2.2.2.2.2.2.2.2.2.2.2.2.2.2.2.2.2 _ _ _ (i_l2d (i_dc (i_ddiv (h.2 q1713).1 (i_dload rfl (i_dmul (h.2 q1713).2.1 (i_dret hW.1 (h.2 q1713).2.2))))))))))))))))
theorem wX13_root {x0 : UInt64} {M : Mem} {K : RT} (hW : Wf M) (h : ∀ {G : Nat → KT}, cloX13_root G K wT → G 5 [some (.double x0), none, some (.double x0), none, some (.double FP.dconst1), none, none, none, none, none, none, none, none, none, none] [] M) : sp_X13_root [.double x0] M K := by
  refine ⟨Nat.le_of_ble_eq_true rfl, fun G hc => ?_⟩
  rw [hW.1] at hc
  exact eX13_root hc hW  (h hc)
def RX13_alone_63_2 (G : Nat → KT) (K : RT) : KT := (w_callS 2 sp_X13_near (G 72))
set_option maxRecDepth 100000 in
theorem eX13_alone {G : Nat → KT} {K : RT} (hc : cloX13_alone G K wT) {x1 : Int32} {x2 : Int32} {x3 : Int64} {x5 : UInt64} {M : Mem} (hW : Wf M) (h : ((P_X13_isReal x2) → ((¬ x1 = (16 : Int32) → ((x1 = (14 : Int32) → G 105 [some (.ref 605), some (.int x1), some (.int x2), some (.long x3), none, some (.double x5), none, none] [] M) ∧ (¬ x1 = (14 : Int32) → (((Op.cmpValue (FP.dcmp x5 FP.dconst0) .g) < 0 → G 105 [some (.ref 605), some (.int x1), some (.int x2), some (.long x3), none, some (.double x5), none, none] [] M) ∧ (¬ (Op.cmpValue (FP.dcmp x5 FP.dconst0) .g) < 0 → ((¬ (Op.cmpValue (FP.dcmp x5 FP.dconst0) .l) = 0 → G 109 [some (.ref 605), some (.int x1), some (.int x2), some (.long x3), none, some (.double x5), none, none] [] M) ∧ ((Op.cmpValue (FP.dcmp x5 FP.dconst0) .l) = 0 → ((vf_n64 (FP.ddiv FP.dconst1 x5)) ∧ ((0 ≤ (Op.cmpValue (FP.dcmp (FP.ddiv FP.dconst1 x5) FP.dconst0) .g) → G 109 [some (.ref 605), some (.int x1), some (.int x2), some (.long x3), none, some (.double x5), none, none] [] M) ∧ (¬ 0 ≤ (Op.cmpValue (FP.dcmp (FP.ddiv FP.dconst1 x5) FP.dconst0) .g) → G 105 [some (.ref 605), some (.int x1), some (.int x2), some (.long x3), none, some (.double x5), none, none] [] M)))))))))) ∧ (x1 = (16 : Int32) → ((0 ≤ (Op.cmpValue (FP.dcmp x5 FP.dconst0) .g) → ((¬ (Op.cmpValue (FP.dcmp x5 FP.dconst0) .l) = 0 → sp_X13_root [.double x5] M (fun v M' => RX13_alone_63_2 G K [some (.ref 605), some (.int x1), some (.int x2), some (.long x3), none, some (.double x5), none, none] (v.toList ++ [.int x2, .int x2, .ref 605]) M')) ∧ ((Op.cmpValue (FP.dcmp x5 FP.dconst0) .l) = 0 → K (some (.int (f_X13_givesReal x2 x5))) (m_X13_givesReal x2 x5 M)))) ∧ (¬ 0 ≤ (Op.cmpValue (FP.dcmp x5 FP.dconst0) .g) → K (some (.int (6 : Int32))) M))))) ∧ (¬ (P_X13_isReal x2) → ((x1 = (14 : Int32) → K (some (.int (f_X13_giveWhole x2 (-x3)))) (m_X13_giveWhole x2 (-x3) M)) ∧ (¬ x1 = (14 : Int32) → (((0 : Int64) ≤ x3 → K (some (.int (f_X13_giveWhole x2 x3))) (m_X13_giveWhole x2 x3 M)) ∧ (¬ (0 : Int64) ≤ x3 → K (some (.int (f_X13_giveWhole x2 (-x3)))) (m_X13_giveWhole x2 (-x3) M))))))) : G 0 [some (.ref 605), some (.int x1), some (.int x2), some (.long x3), none, some (.double x5), none, none] [] M :=
  (hc.1 _ _ _ (i_iload rfl (i_callS1 (Nat.le_of_ble_eq_true rfl) (c_X13_isReal hW  (i_rI (i_bI_ne (fun q1724 => (hc.2.2.2.2.2.2.1 _ _ _ (i_iload rfl (i_ic (i_icmp_ne (fun q1725 => (hc.2.2.2.2.2.2.2.2.2.2.2.2.2.2.1 _ _ _ (i_iload rfl (i_ic (i_icmp_eq (fun q1726 => (((h.1 q1724).1 q1725).1 q1726)) (fun q1726 => (hc.2.2.2.2.2.2.2.2.2.2.2.2.2.2.2.1 _ _ _ (i_dload rfl (i_dconst0 (i_dcmp (i_if_lt (fun q1727 => ((((h.1 q1724).1 q1725).2 q1726).1 q1727)) (fun q1727 => (hc.2.2.2.2.2.2.2.2.2.2.2.2.2.2.2.2.1 _ _ _ (i_dload rfl (i_dconst0 (i_dcmp (i_if_ne (fun q1728 => (((((h.1 q1724).1 q1725).2 q1726).2 q1727).1 q1728)) (fun q1728 => (hc.2.2.2.2.2.2.2.2.2.2.2.2.2.2.2.2.2.1 _ _ _ (i_dconst1 (i_dload rfl (i_ddiv (((((h.1 q1724).1 q1725).2 q1726).2 q1727).2 q1728).1 (i_dconst0 (i_dcmp (i_if_ge (fun q1729 => ((((((h.1 q1724).1 q1725).2 q1726).2 q1727).2 q1728).2.1 q1729)) (fun q1729 => ((((((h.1 q1724).1 q1725).2 q1726).2 q1727).2 q1728).2.2 q1729))))))))))))))))))))))))))) (fun q1725 => (hc.2.2.2.2.2.2.2.1 _ _ _ (i_dload rfl (i_dconst0 (i_dcmp (i_if_ge (fun q1730 => (hc.2.2.2.2.2.2.2.2.2.1 _ _ _ (i_aload rfl (i_iload rfl (i_dload rfl (i_dconst0 (i_dcmp (i_if_ne (fun q1731 => (hc.2.2.2.2.2.2.2.2.2.2.2.1 _ _ _ (i_iload rfl (i_dload rfl (i_callS1 (Nat.le_of_ble_eq_true rfl) ((((h.1 q1724).2 q1725).1 q1730).1 q1731)))))) (fun q1731 => (hc.2.2.2.2.2.2.2.2.2.2.1 _ _ _ (i_dload rfl (hc.2.2.2.2.2.2.2.2.2.2.2.2.1 _ _ _ (i_callV3 (Nat.le_of_ble_eq_true rfl) (okS hW Sk_605) (c_X13_givesReal hW  (i_rI (hc.2.2.2.2.2.2.2.2.2.2.2.2.2.1 _ _ _ (i_iret (Wf_m_X13_givesReal (M := M) x2 x5 hW).1 ((((h.1 q1724).2 q1725).1 q1730).2 q1731)))))))))))))))))) (fun q1730 => (hc.2.2.2.2.2.2.2.2.1 _ _ _ (i_ic (hc.2.2.2.2.2.2.2.2.2.2.2.2.2.1 _ _ _ (i_iret hW.1 (((h.1 q1724).2 q1725).2 q1730))))))))))))))))) (fun q1724 => (hc.2.1 _ _ _ (i_aload rfl (i_iload rfl (i_iload rfl (i_ic (i_icmp_eq (fun q1732 => (hc.2.2.2.1 _ _ _ (i_lload rfl (i_lneg (hc.2.2.2.2.2.1 _ _ _ (i_callV3 (Nat.le_of_ble_eq_true rfl) (okS hW Sk_605) (c_X13_giveWhole hW  (i_rI (i_iret (Wf_m_X13_giveWhole (M := M) x2 (-x3) hW).1 ((h.2 q1724).1 q1732)))))))))) (fun q1732 => (hc.2.2.1 _ _ _ (i_lload rfl (i_lc (i_lcmp (i_lcmp_ge (fun q1733 => (hc.2.2.2.2.1 _ _ _ (i_lload rfl (hc.2.2.2.2.2.1 _ _ _ (i_callV3 (Nat.le_of_ble_eq_true rfl) (okS hW Sk_605) (c_X13_giveWhole hW  (i_rI (i_iret (Wf_m_X13_giveWhole (M := M) x2 x3 hW).1 (((h.2 q1724).2 q1732).1 q1733))))))))) (fun q1733 => (hc.2.2.2.1 _ _ _ (i_lload rfl (i_lneg (hc.2.2.2.2.2.1 _ _ _ (i_callV3 (Nat.le_of_ble_eq_true rfl) (okS hW Sk_605) (c_X13_giveWhole hW  (i_rI (i_iret (Wf_m_X13_giveWhole (M := M) x2 (-x3) hW).1 (((h.2 q1724).2 q1732).2 q1733)))))))))))))))))))))))))))))
set_option maxRecDepth 100000 in
theorem eX13_alone_105 {G : Nat → KT} {K : RT} (hc : cloX13_alone G K wT) {o1 : Option Value} {x2 : Int32} {o3 : Option Value} {o4 : Option Value} {x5 : UInt64} {o7 : Option Value} {M : Mem} (hW : Wf M) (h : K (some (.int (f_X13_givesReal x2 (FP.dneg x5)))) (m_X13_givesReal x2 (FP.dneg x5) M)) : G 105 [some (.ref 605), o1, some (.int x2), o3, o4, some (.double x5), none, o7] [] M :=
  (hc.2.2.2.2.2.2.2.2.2.2.2.2.2.2.2.2.2.2.1 _ _ _ (i_ic (hc.2.2.2.2.2.2.2.2.2.2.2.2.2.2.2.2.2.2.2.2.1 _ _ _ (i_istore (Nat.le_of_ble_eq_true rfl) (i_aload rfl (i_iload rfl (i_iload rfl (i_if_eq (fun q => absurd q (by decide)) (fun _ => (hc.2.2.2.2.2.2.2.2.2.2.2.2.2.2.2.2.2.2.2.2.2.1 _ _ _ (i_dload rfl (i_dneg (hc.2.2.2.2.2.2.2.2.2.2.2.2.2.2.2.2.2.2.2.2.2.2.2 _ _ _ (i_callV3 (Nat.le_of_ble_eq_true rfl) (okS hW Sk_605) (c_X13_givesReal hW  (i_rI (i_iret (Wf_m_X13_givesReal (M := M) x2 (FP.dneg x5) hW).1 h)))))))))))))))))
set_option maxRecDepth 100000 in
theorem eX13_alone_109 {G : Nat → KT} {K : RT} (hc : cloX13_alone G K wT) {o1 : Option Value} {x2 : Int32} {o3 : Option Value} {o4 : Option Value} {x5 : UInt64} {o7 : Option Value} {M : Mem} (hW : Wf M) (h : K (some (.int (f_X13_givesReal x2 x5))) (m_X13_givesReal x2 x5 M)) : G 109 [some (.ref 605), o1, some (.int x2), o3, o4, some (.double x5), none, o7] [] M :=
  (hc.2.2.2.2.2.2.2.2.2.2.2.2.2.2.2.2.2.2.2.1 _ _ _ (i_ic (hc.2.2.2.2.2.2.2.2.2.2.2.2.2.2.2.2.2.2.2.2.1 _ _ _ (i_istore (Nat.le_of_ble_eq_true rfl) (i_aload rfl (i_iload rfl (i_iload rfl (i_if_eq (fun _ => (hc.2.2.2.2.2.2.2.2.2.2.2.2.2.2.2.2.2.2.2.2.2.2.1 _ _ _ (i_dload rfl (hc.2.2.2.2.2.2.2.2.2.2.2.2.2.2.2.2.2.2.2.2.2.2.2 _ _ _ (i_callV3 (Nat.le_of_ble_eq_true rfl) (okS hW Sk_605) (c_X13_givesReal hW  (i_rI (i_iret (Wf_m_X13_givesReal (M := M) x2 x5 hW).1 h)))))))) (fun q => absurd q (by decide))))))))))
set_option maxRecDepth 100000 in
theorem rX13_alone_63_2 {G : Nat → KT} {K : RT} (hc : cloX13_alone G K wT) {o0 : Option Value} {o1 : Option Value} {o2 : Option Value} {o3 : Option Value} {o4 : Option Value} {o5 : Option Value} {o6 : Option Value} {o7 : Option Value} {s1 : Int32} {s2 : Int32} {y : UInt64} {M : Mem} (hW : Wf M) (h : (q_X13_near s2 y) ∧ K (some (.int (f_X13_givesReal s1 (f_X13_near s2 y)))) (m_X13_givesReal s1 (f_X13_near s2 y) M)) : RX13_alone_63_2 G K [o0, o1, o2, o3, o4, o5, o6, o7] (Option.toList (some (.double y)) ++ [.int s2, .int s1, .ref 605]) M :=
  (i_rD (i_callS2 (Nat.le_of_ble_eq_true rfl) (c_X13_near hW  h.1 (i_rD (hc.2.2.2.2.2.2.2.2.2.2.2.2.1 _ _ _ (i_callV3 (Nat.le_of_ble_eq_true rfl) (okS hW Sk_605) (c_X13_givesReal hW  (i_rI (hc.2.2.2.2.2.2.2.2.2.2.2.2.2.1 _ _ _ (i_iret (Wf_m_X13_givesReal (M := M) s1 (f_X13_near s2 y) hW).1 h.2))))))))))
theorem wX13_alone {x1 : Int32} {x2 : Int32} {x3 : Int64} {x5 : UInt64} {M : Mem} {K : RT} (hW : Wf M) (h : ∀ {G : Nat → KT}, cloX13_alone G K wT → ((P_X13_isReal x2) → ((¬ x1 = (16 : Int32) → ((x1 = (14 : Int32) → G 105 [some (.ref 605), some (.int x1), some (.int x2), some (.long x3), none, some (.double x5), none, none] [] M) ∧ (¬ x1 = (14 : Int32) → (((Op.cmpValue (FP.dcmp x5 FP.dconst0) .g) < 0 → G 105 [some (.ref 605), some (.int x1), some (.int x2), some (.long x3), none, some (.double x5), none, none] [] M) ∧ (¬ (Op.cmpValue (FP.dcmp x5 FP.dconst0) .g) < 0 → ((¬ (Op.cmpValue (FP.dcmp x5 FP.dconst0) .l) = 0 → G 109 [some (.ref 605), some (.int x1), some (.int x2), some (.long x3), none, some (.double x5), none, none] [] M) ∧ ((Op.cmpValue (FP.dcmp x5 FP.dconst0) .l) = 0 → ((vf_n64 (FP.ddiv FP.dconst1 x5)) ∧ ((0 ≤ (Op.cmpValue (FP.dcmp (FP.ddiv FP.dconst1 x5) FP.dconst0) .g) → G 109 [some (.ref 605), some (.int x1), some (.int x2), some (.long x3), none, some (.double x5), none, none] [] M) ∧ (¬ 0 ≤ (Op.cmpValue (FP.dcmp (FP.ddiv FP.dconst1 x5) FP.dconst0) .g) → G 105 [some (.ref 605), some (.int x1), some (.int x2), some (.long x3), none, some (.double x5), none, none] [] M)))))))))) ∧ (x1 = (16 : Int32) → ((0 ≤ (Op.cmpValue (FP.dcmp x5 FP.dconst0) .g) → ((¬ (Op.cmpValue (FP.dcmp x5 FP.dconst0) .l) = 0 → sp_X13_root [.double x5] M (fun v M' => RX13_alone_63_2 G K [some (.ref 605), some (.int x1), some (.int x2), some (.long x3), none, some (.double x5), none, none] (v.toList ++ [.int x2, .int x2, .ref 605]) M')) ∧ ((Op.cmpValue (FP.dcmp x5 FP.dconst0) .l) = 0 → K (some (.int (f_X13_givesReal x2 x5))) (m_X13_givesReal x2 x5 M)))) ∧ (¬ 0 ≤ (Op.cmpValue (FP.dcmp x5 FP.dconst0) .g) → K (some (.int (6 : Int32))) M))))) ∧ (¬ (P_X13_isReal x2) → ((x1 = (14 : Int32) → K (some (.int (f_X13_giveWhole x2 (-x3)))) (m_X13_giveWhole x2 (-x3) M)) ∧ (¬ x1 = (14 : Int32) → (((0 : Int64) ≤ x3 → K (some (.int (f_X13_giveWhole x2 x3))) (m_X13_giveWhole x2 x3 M)) ∧ (¬ (0 : Int64) ≤ x3 → K (some (.int (f_X13_giveWhole x2 (-x3)))) (m_X13_giveWhole x2 (-x3) M))))))) : sp_X13_alone [.ref 605, .int x1, .int x2, .long x3, .double x5] M K := by
  refine ⟨Nat.le_of_ble_eq_true rfl, fun G hc => ?_⟩
  rw [hW.1] at hc
  exact eX13_alone hc hW  (h hc)
set_option maxRecDepth 100000 in
theorem eX13_cast {G : Nat → KT} {K : RT} (hc : cloX13_cast G K wT) {x1 : Int32} {x2 : Int32} {x3 : Int64} {x5 : UInt64} {M : Mem} (hW : Wf M) (h : (¬ (P_X13_isReal x1) → (((P_X13_isReal x2) → ((¬ x1 = (4 : Int32) → K (some (.int (f_X13_giveWhole x1 ((FP.d2i x5).toInt64)))) (m_X13_giveWhole x1 ((FP.d2i x5).toInt64) M)) ∧ (x1 = (4 : Int32) → K (some (.int (f_X13_giveWhole x1 (FP.d2l x5)))) (m_X13_giveWhole x1 (FP.d2l x5) M)))) ∧ (¬ (P_X13_isReal x2) → K (some (.int (f_X13_giveWhole x1 x3))) (m_X13_giveWhole x1 x3 M)))) ∧ ((P_X13_isReal x1) → ((¬ (P_X13_isReal x2) → ((q_X13_nearLong x1 x3) ∧ K (some (.int (f_X13_givesReal x1 (f_X13_nearLong x1 x3)))) (m_X13_givesReal x1 (f_X13_nearLong x1 x3) M))) ∧ ((P_X13_isReal x2) → ((q_X13_near x1 x5) ∧ K (some (.int (f_X13_givesReal x1 (f_X13_near x1 x5)))) (m_X13_givesReal x1 (f_X13_near x1 x5) M)))))) : G 0 [some (.ref 605), some (.int x1), some (.int x2), some (.long x3), none, some (.double x5), none] [] M :=
  (hc.1 _ _ _ (i_iload rfl (i_callS1 (Nat.le_of_ble_eq_true rfl) (c_X13_isReal hW  (i_rI (i_bI_eq (fun q1734 => (hc.2.2.2.2.2.1 _ _ _ (i_iload rfl (i_callS1 (Nat.le_of_ble_eq_true rfl) (c_X13_isReal hW  (i_rI (i_bI_ne (fun q1735 => (hc.2.2.2.2.2.2.2.1 _ _ _ (i_aload rfl (i_iload rfl (i_iload rfl (i_ic (i_icmp_ne (fun q1736 => (hc.2.2.2.2.2.2.2.2.2.1 _ _ _ (i_dload rfl (i_d2i (i_i2l (hc.2.2.2.2.2.2.2.2.2.2 _ _ _ (i_callV3 (Nat.le_of_ble_eq_true rfl) (okS hW Sk_605) (c_X13_giveWhole hW  (i_rI (i_iret (Wf_m_X13_giveWhole (M := M) x1 ((FP.d2i x5).toInt64) hW).1 (((h.1 q1734).1 q1735).1 q1736))))))))))) (fun q1736 => (hc.2.2.2.2.2.2.2.2.1 _ _ _ (i_dload rfl (i_d2l (hc.2.2.2.2.2.2.2.2.2.2 _ _ _ (i_callV3 (Nat.le_of_ble_eq_true rfl) (okS hW Sk_605) (c_X13_giveWhole hW  (i_rI (i_iret (Wf_m_X13_giveWhole (M := M) x1 (FP.d2l x5) hW).1 (((h.1 q1734).1 q1735).2 q1736))))))))))))))))) (fun q1735 => (hc.2.2.2.2.2.2.1 _ _ _ (i_aload rfl (i_iload rfl (i_lload rfl (i_callV3 (Nat.le_of_ble_eq_true rfl) (okS hW Sk_605) (c_X13_giveWhole hW  (i_rI (i_iret (Wf_m_X13_giveWhole (M := M) x1 x3 hW).1 ((h.1 q1734).2 q1735))))))))))))))))) (fun q1734 => (hc.2.1 _ _ _ (i_aload rfl (i_iload rfl (i_iload rfl (i_callS1 (Nat.le_of_ble_eq_true rfl) (c_X13_isReal hW  (i_rI (i_bI_eq (fun q1737 => (hc.2.2.2.1 _ _ _ (i_iload rfl (i_lload rfl (i_callS2 (Nat.le_of_ble_eq_true rfl) (c_X13_nearLong hW  ((h.2 q1734).1 q1737).1 (i_rD (hc.2.2.2.2.1 _ _ _ (i_callV3 (Nat.le_of_ble_eq_true rfl) (okS hW Sk_605) (c_X13_givesReal hW  (i_rI (i_iret (Wf_m_X13_givesReal (M := M) x1 (f_X13_nearLong x1 x3) hW).1 ((h.2 q1734).1 q1737).2)))))))))))) (fun q1737 => (hc.2.2.1 _ _ _ (i_iload rfl (i_dload rfl (i_callS2 (Nat.le_of_ble_eq_true rfl) (c_X13_near hW  ((h.2 q1734).2 q1737).1 (i_rD (hc.2.2.2.2.1 _ _ _ (i_callV3 (Nat.le_of_ble_eq_true rfl) (okS hW Sk_605) (c_X13_givesReal hW  (i_rI (i_iret (Wf_m_X13_givesReal (M := M) x1 (f_X13_near x1 x5) hW).1 ((h.2 q1734).2 q1737).2)))))))))))))))))))))))))))
theorem wX13_cast {x1 : Int32} {x2 : Int32} {x3 : Int64} {x5 : UInt64} {M : Mem} {K : RT} (hW : Wf M) (h : (¬ (P_X13_isReal x1) → (((P_X13_isReal x2) → ((¬ x1 = (4 : Int32) → K (some (.int (f_X13_giveWhole x1 ((FP.d2i x5).toInt64)))) (m_X13_giveWhole x1 ((FP.d2i x5).toInt64) M)) ∧ (x1 = (4 : Int32) → K (some (.int (f_X13_giveWhole x1 (FP.d2l x5)))) (m_X13_giveWhole x1 (FP.d2l x5) M)))) ∧ (¬ (P_X13_isReal x2) → K (some (.int (f_X13_giveWhole x1 x3))) (m_X13_giveWhole x1 x3 M)))) ∧ ((P_X13_isReal x1) → ((¬ (P_X13_isReal x2) → ((q_X13_nearLong x1 x3) ∧ K (some (.int (f_X13_givesReal x1 (f_X13_nearLong x1 x3)))) (m_X13_givesReal x1 (f_X13_nearLong x1 x3) M))) ∧ ((P_X13_isReal x2) → ((q_X13_near x1 x5) ∧ K (some (.int (f_X13_givesReal x1 (f_X13_near x1 x5)))) (m_X13_givesReal x1 (f_X13_near x1 x5) M)))))) : sp_X13_cast [.ref 605, .int x1, .int x2, .long x3, .double x5] M K := by
  refine ⟨Nat.le_of_ble_eq_true rfl, fun G hc => ?_⟩
  rw [hW.1] at hc
  exact eX13_cast hc hW  h
noncomputable def f_X13_cast (x1 : Int32) (x2 : Int32) (x3 : Int64) (x5 : UInt64) : Int32 := (iT ((P_X13_isReal x1)) (iT ((P_X13_isReal x2)) (f_X13_givesReal x1 (f_X13_near x1 x5)) (f_X13_givesReal x1 (f_X13_nearLong x1 x3))) (iT ((P_X13_isReal x2)) (if x1 = (4 : Int32) then (f_X13_giveWhole x1 (FP.d2l x5)) else (f_X13_giveWhole x1 ((FP.d2i x5).toInt64))) (f_X13_giveWhole x1 x3)))
noncomputable def m_X13_cast (x1 : Int32) (x2 : Int32) (x3 : Int64) (x5 : UInt64) (M : Mem) : Mem := (iT ((P_X13_isReal x1)) (iT ((P_X13_isReal x2)) (m_X13_givesReal x1 (f_X13_near x1 x5) M) (m_X13_givesReal x1 (f_X13_nearLong x1 x3) M)) (iT ((P_X13_isReal x2)) (if x1 = (4 : Int32) then (m_X13_giveWhole x1 (FP.d2l x5) M) else (m_X13_giveWhole x1 ((FP.d2i x5).toInt64) M)) (m_X13_giveWhole x1 x3 M)))
def q_X13_cast (x1 : Int32) (x2 : Int32) (x3 : Int64) (x5 : UInt64) : Prop := ((P_X13_isReal x1) → ((¬ (P_X13_isReal x2) → (q_X13_nearLong x1 x3)) ∧ ((P_X13_isReal x2) → (q_X13_near x1 x5))))
theorem c_X13_cast {x1 : Int32} {x2 : Int32} {x3 : Int64} {x5 : UInt64} {M : Mem} {K : RT} (hW : Wf M) (hp : q_X13_cast x1 x2 x3 x5) (h : K (some (.int (f_X13_cast x1 x2 x3 x5))) (m_X13_cast x1 x2 x3 x5 M)) : sp_X13_cast [.ref 605, .int x1, .int x2, .long x3, .double x5] M K := by
  refine wX13_cast hW  ?_
  unfold f_X13_cast m_X13_cast at h
  unfold q_X13_cast at hp
  refine ⟨fun q0 => ?_, fun q0 => ?_⟩
  · skip
    try simp only [iT_f q0] at h
    refine ⟨fun q1 => ?_, fun q1 => ?_⟩
    · skip
      try simp only [iT_t q1] at h
      refine ⟨fun q2 => ?_, fun q2 => ?_⟩
      · skip
        try simp only [if_neg q2] at h
        first | exact h | contradiction
      · skip
        try simp only [if_pos q2] at h
        first | exact h | contradiction
    · skip
      try simp only [iT_f q1] at h
      first | exact h | contradiction
  · have hq0 := hp q0
    try simp only [iT_t q0] at h
    refine ⟨fun q1 => ?_, fun q1 => ?_⟩
    · have hq1 := hq0.1 q1
      try simp only [iT_f q1] at h
      refine ⟨hq1, ?_⟩
      first | exact h | contradiction
    · have hq1 := hq0.2 q1
      try simp only [iT_t q1] at h
      refine ⟨hq1, ?_⟩
      first | exact h | contradiction
theorem Wf_m_X13_cast (x1 : Int32) (x2 : Int32) (x3 : Int64) (x5 : UInt64) {M : Mem} (hW : Wf M) : Wf (m_X13_cast x1 x2 x3 x5 M) := by
  unfold m_X13_cast
  try unfold iT
  split
  · skip
    try unfold iT
    split
    · skip
      exact (Wf_m_X13_givesReal (M := M) x1 (f_X13_near x1 x5) hW)
    · skip
      exact (Wf_m_X13_givesReal (M := M) x1 (f_X13_nearLong x1 x3) hW)
  · skip
    try unfold iT
    split
    · skip
      split
      · skip
        exact (Wf_m_X13_giveWhole (M := M) x1 (FP.d2l x5) hW)
      · skip
        exact (Wf_m_X13_giveWhole (M := M) x1 ((FP.d2i x5).toInt64) hW)
    · skip
      exact (Wf_m_X13_giveWhole (M := M) x1 x3 hW)
set_option maxRecDepth 100000 in
theorem eX13_leastOf {G : Nat → KT} {K : RT} (hc : cloX13_leastOf G K wT) {x0 : Int32} {M : Mem} (hW : Wf M) (h : (¬ x0 = 0 → ((¬ x0 = (1 : Int32) → ((¬ x0 = (2 : Int32) → ((¬ x0 = (3 : Int32) → K (some (.long (-9223372036854775808 : Int64))) M) ∧ (x0 = (3 : Int32) → K (some (.long (-2147483648 : Int64))) M))) ∧ (x0 = (2 : Int32) → K (some (.long (0 : Int64))) M))) ∧ (x0 = (1 : Int32) → K (some (.long (-32768 : Int64))) M))) ∧ (x0 = 0 → K (some (.long (-128 : Int64))) M)) : G 0 [some (.int x0)] [] M :=
  (hc.1 _ _ _ (i_iload rfl (i_if_ne (fun q1738 => (hc.2.2.1 _ _ _ (i_iload rfl (i_ic (i_icmp_ne (fun q1739 => (hc.2.2.2.2.1 _ _ _ (i_iload rfl (i_ic (i_icmp_ne (fun q1740 => (hc.2.2.2.2.2.2.1 _ _ _ (i_iload rfl (i_ic (i_icmp_ne (fun q1741 => (hc.2.2.2.2.2.2.2.2.1 _ _ _ (i_lc (hc.2.2.2.2.2.2.2.2.2 _ _ _ (i_lret hW.1 ((((h.1 q1738).1 q1739).1 q1740).1 q1741)))))) (fun q1741 => (hc.2.2.2.2.2.2.2.1 _ _ _ (i_lc (hc.2.2.2.2.2.2.2.2.2 _ _ _ (i_lret hW.1 ((((h.1 q1738).1 q1739).1 q1740).2 q1741))))))))))) (fun q1740 => (hc.2.2.2.2.2.1 _ _ _ (i_lc (hc.2.2.2.2.2.2.2.2.2 _ _ _ (i_lret hW.1 (((h.1 q1738).1 q1739).2 q1740))))))))))) (fun q1739 => (hc.2.2.2.1 _ _ _ (i_lc (hc.2.2.2.2.2.2.2.2.2 _ _ _ (i_lret hW.1 ((h.1 q1738).2 q1739))))))))))) (fun q1738 => (hc.2.1 _ _ _ (i_lc (hc.2.2.2.2.2.2.2.2.2 _ _ _ (i_lret hW.1 (h.2 q1738)))))))))
theorem wX13_leastOf {x0 : Int32} {M : Mem} {K : RT} (hW : Wf M) (h : (¬ x0 = 0 → ((¬ x0 = (1 : Int32) → ((¬ x0 = (2 : Int32) → ((¬ x0 = (3 : Int32) → K (some (.long (-9223372036854775808 : Int64))) M) ∧ (x0 = (3 : Int32) → K (some (.long (-2147483648 : Int64))) M))) ∧ (x0 = (2 : Int32) → K (some (.long (0 : Int64))) M))) ∧ (x0 = (1 : Int32) → K (some (.long (-32768 : Int64))) M))) ∧ (x0 = 0 → K (some (.long (-128 : Int64))) M)) : sp_X13_leastOf [.int x0] M K := by
  refine ⟨Nat.le_of_ble_eq_true rfl, fun G hc => ?_⟩
  rw [hW.1] at hc
  exact eX13_leastOf hc hW  h
noncomputable def f_X13_leastOf (x0 : Int32) : Int64 := (if x0 = 0 then (-128 : Int64) else (if x0 = (1 : Int32) then (-32768 : Int64) else (if x0 = (2 : Int32) then (0 : Int64) else (if x0 = (3 : Int32) then (-2147483648 : Int64) else (-9223372036854775808 : Int64)))))
theorem c_X13_leastOf {x0 : Int32} {M : Mem} {K : RT} (hW : Wf M) (h : K (some (.long (f_X13_leastOf x0))) M) : sp_X13_leastOf [.int x0] M K := by
  refine wX13_leastOf hW  ?_
  unfold f_X13_leastOf at h
  refine ⟨fun q0 => ?_, fun q0 => ?_⟩
  · skip
    try simp only [if_neg q0] at h
    refine ⟨fun q1 => ?_, fun q1 => ?_⟩
    · skip
      try simp only [if_neg q1] at h
      refine ⟨fun q2 => ?_, fun q2 => ?_⟩
      · skip
        try simp only [if_neg q2] at h
        refine ⟨fun q3 => ?_, fun q3 => ?_⟩
        · skip
          try simp only [if_neg q3] at h
          first | exact h | contradiction
        · skip
          try simp only [if_pos q3] at h
          first | exact h | contradiction
      · skip
        try simp only [if_pos q2] at h
        first | exact h | contradiction
    · skip
      try simp only [if_pos q1] at h
      first | exact h | contradiction
  · skip
    try simp only [if_pos q0] at h
    first | exact h | contradiction
set_option maxRecDepth 100000 in
theorem eX13_mostOf {G : Nat → KT} {K : RT} (hc : cloX13_mostOf G K wT) {x0 : Int32} {M : Mem} (hW : Wf M) (h : (¬ x0 = 0 → ((¬ x0 = (1 : Int32) → ((¬ x0 = (2 : Int32) → ((¬ x0 = (3 : Int32) → K (some (.long (9223372036854775807 : Int64))) M) ∧ (x0 = (3 : Int32) → K (some (.long (2147483647 : Int64))) M))) ∧ (x0 = (2 : Int32) → K (some (.long (65535 : Int64))) M))) ∧ (x0 = (1 : Int32) → K (some (.long (32767 : Int64))) M))) ∧ (x0 = 0 → K (some (.long (127 : Int64))) M)) : G 0 [some (.int x0)] [] M :=
  (hc.1 _ _ _ (i_iload rfl (i_if_ne (fun q1742 => (hc.2.2.1 _ _ _ (i_iload rfl (i_ic (i_icmp_ne (fun q1743 => (hc.2.2.2.2.1 _ _ _ (i_iload rfl (i_ic (i_icmp_ne (fun q1744 => (hc.2.2.2.2.2.2.1 _ _ _ (i_iload rfl (i_ic (i_icmp_ne (fun q1745 => (hc.2.2.2.2.2.2.2.2.1 _ _ _ (i_lc (hc.2.2.2.2.2.2.2.2.2 _ _ _ (i_lret hW.1 ((((h.1 q1742).1 q1743).1 q1744).1 q1745)))))) (fun q1745 => (hc.2.2.2.2.2.2.2.1 _ _ _ (i_lc (hc.2.2.2.2.2.2.2.2.2 _ _ _ (i_lret hW.1 ((((h.1 q1742).1 q1743).1 q1744).2 q1745))))))))))) (fun q1744 => (hc.2.2.2.2.2.1 _ _ _ (i_lc (hc.2.2.2.2.2.2.2.2.2 _ _ _ (i_lret hW.1 (((h.1 q1742).1 q1743).2 q1744))))))))))) (fun q1743 => (hc.2.2.2.1 _ _ _ (i_lc (hc.2.2.2.2.2.2.2.2.2 _ _ _ (i_lret hW.1 ((h.1 q1742).2 q1743))))))))))) (fun q1742 => (hc.2.1 _ _ _ (i_lc (hc.2.2.2.2.2.2.2.2.2 _ _ _ (i_lret hW.1 (h.2 q1742)))))))))
theorem wX13_mostOf {x0 : Int32} {M : Mem} {K : RT} (hW : Wf M) (h : (¬ x0 = 0 → ((¬ x0 = (1 : Int32) → ((¬ x0 = (2 : Int32) → ((¬ x0 = (3 : Int32) → K (some (.long (9223372036854775807 : Int64))) M) ∧ (x0 = (3 : Int32) → K (some (.long (2147483647 : Int64))) M))) ∧ (x0 = (2 : Int32) → K (some (.long (65535 : Int64))) M))) ∧ (x0 = (1 : Int32) → K (some (.long (32767 : Int64))) M))) ∧ (x0 = 0 → K (some (.long (127 : Int64))) M)) : sp_X13_mostOf [.int x0] M K := by
  refine ⟨Nat.le_of_ble_eq_true rfl, fun G hc => ?_⟩
  rw [hW.1] at hc
  exact eX13_mostOf hc hW  h
noncomputable def f_X13_mostOf (x0 : Int32) : Int64 := (if x0 = 0 then (127 : Int64) else (if x0 = (1 : Int32) then (32767 : Int64) else (if x0 = (2 : Int32) then (65535 : Int64) else (if x0 = (3 : Int32) then (2147483647 : Int64) else (9223372036854775807 : Int64)))))
theorem c_X13_mostOf {x0 : Int32} {M : Mem} {K : RT} (hW : Wf M) (h : K (some (.long (f_X13_mostOf x0))) M) : sp_X13_mostOf [.int x0] M K := by
  refine wX13_mostOf hW  ?_
  unfold f_X13_mostOf at h
  refine ⟨fun q0 => ?_, fun q0 => ?_⟩
  · skip
    try simp only [if_neg q0] at h
    refine ⟨fun q1 => ?_, fun q1 => ?_⟩
    · skip
      try simp only [if_neg q1] at h
      refine ⟨fun q2 => ?_, fun q2 => ?_⟩
      · skip
        try simp only [if_neg q2] at h
        refine ⟨fun q3 => ?_, fun q3 => ?_⟩
        · skip
          try simp only [if_neg q3] at h
          first | exact h | contradiction
        · skip
          try simp only [if_pos q3] at h
          first | exact h | contradiction
      · skip
        try simp only [if_pos q2] at h
        first | exact h | contradiction
    · skip
      try simp only [if_pos q1] at h
      first | exact h | contradiction
  · skip
    try simp only [if_pos q0] at h
    first | exact h | contradiction
set_option maxRecDepth 100000 in
theorem eX13_held {G : Nat → KT} {K : RT} (hc : cloX13_held G K wT) {x1 : Int32} {x2 : Int32} {x3 : Int64} {x5 : UInt64} {M : Mem} (hW : Wf M) (h : (¬ (P_X13_isReal x2) → G 14 [some (.ref 605), some (.int x1), some (.int x2), some (.long x3), none, some (.double x5), none, none, none] [.long x3] M) ∧ ((P_X13_isReal x2) → G 14 [some (.ref 605), some (.int x1), some (.int x2), some (.long x3), none, some (.double x5), none, none, none] [.long (FP.d2l x5)] M)) : G 0 [some (.ref 605), some (.int x1), some (.int x2), some (.long x3), none, some (.double x5), none, none, none] [] M :=
  (hc.1 _ _ _ (i_iload rfl (i_callS1 (Nat.le_of_ble_eq_true rfl) (c_X13_isReal hW  (i_rI (i_bI_eq (fun q1749 => (hc.2.2.1 _ _ _ (i_lload rfl (h.1 q1749)))) (fun q1749 => (hc.2.1 _ _ _ (i_dload rfl (i_d2l (h.2 q1749)))))))))))
set_option maxRecDepth 100000 in
theorem eX13_held_14 {G : Nat → KT} {K : RT} (hc : cloX13_held G K wT) {x1 : Int32} {o2 : Option Value} {o3 : Option Value} {o4 : Option Value} {o5 : Option Value} {o6 : Option Value} {o7 : Option Value} {o8 : Option Value} {s0 : Int64} {M : Mem} (hW : Wf M) (h : ((f_X13_leastOf x1) ≤ s0 → ((s0 ≤ (f_X13_mostOf x1) → K (some (.int (f_X13_giveWhole x1 s0))) (m_X13_giveWhole x1 s0 M)) ∧ (¬ s0 ≤ (f_X13_mostOf x1) → K (some (.int (f_X13_giveWhole x1 (f_X13_mostOf x1)))) (m_X13_giveWhole x1 (f_X13_mostOf x1) M)))) ∧ (¬ (f_X13_leastOf x1) ≤ s0 → K (some (.int (f_X13_giveWhole x1 (f_X13_leastOf x1)))) (m_X13_giveWhole x1 (f_X13_leastOf x1) M))) : G 14 [some (.ref 605), some (.int x1), o2, o3, o4, o5, o6, o7, o8] [.long s0] M :=
  (hc.2.2.2.1 _ _ _ (i_lstore (Nat.le_of_ble_eq_true rfl) (i_lload rfl (i_iload rfl (i_callS1 (Nat.le_of_ble_eq_true rfl) (c_X13_leastOf hW  (i_rJ (i_lcmp (i_lcmp_ge (fun q1750 => (hc.2.2.2.2.2.1 _ _ _ (i_lload rfl (i_iload rfl (i_callS1 (Nat.le_of_ble_eq_true rfl) (c_X13_mostOf hW  (i_rJ (i_lcmp (i_lcmp_le (fun q1751 => (hc.2.2.2.2.2.2.2.1 _ _ _ (i_lload rfl (hc.2.2.2.2.2.2.2.2 _ _ _ (i_lstore (Nat.le_of_ble_eq_true rfl) (i_aload rfl (i_iload rfl (i_lload rfl (i_callV3 (Nat.le_of_ble_eq_true rfl) (okS hW Sk_605) (c_X13_giveWhole hW  (i_rI (i_iret (Wf_m_X13_giveWhole (M := M) x1 s0 hW).1 ((h.1 q1750).1 q1751))))))))))))) (fun q1751 => (hc.2.2.2.2.2.2.1 _ _ _ (i_iload rfl (i_callS1 (Nat.le_of_ble_eq_true rfl) (c_X13_mostOf hW  (i_rJ (hc.2.2.2.2.2.2.2.2 _ _ _ (i_lstore (Nat.le_of_ble_eq_true rfl) (i_aload rfl (i_iload rfl (i_lload rfl (i_callV3 (Nat.le_of_ble_eq_true rfl) (okS hW Sk_605) (c_X13_giveWhole hW  (i_rI (i_iret (Wf_m_X13_giveWhole (M := M) x1 (f_X13_mostOf x1) hW).1 ((h.1 q1750).2 q1751))))))))))))))))))))))))) (fun q1750 => (hc.2.2.2.2.1 _ _ _ (i_iload rfl (i_callS1 (Nat.le_of_ble_eq_true rfl) (c_X13_leastOf hW  (i_rJ (hc.2.2.2.2.2.2.2.2 _ _ _ (i_lstore (Nat.le_of_ble_eq_true rfl) (i_aload rfl (i_iload rfl (i_lload rfl (i_callV3 (Nat.le_of_ble_eq_true rfl) (okS hW Sk_605) (c_X13_giveWhole hW  (i_rI (i_iret (Wf_m_X13_giveWhole (M := M) x1 (f_X13_leastOf x1) hW).1 (h.2 q1750)))))))))))))))))))))))))
theorem wX13_held {x1 : Int32} {x2 : Int32} {x3 : Int64} {x5 : UInt64} {M : Mem} {K : RT} (hW : Wf M) (h : ∀ {G : Nat → KT}, cloX13_held G K wT → (¬ (P_X13_isReal x2) → G 14 [some (.ref 605), some (.int x1), some (.int x2), some (.long x3), none, some (.double x5), none, none, none] [.long x3] M) ∧ ((P_X13_isReal x2) → G 14 [some (.ref 605), some (.int x1), some (.int x2), some (.long x3), none, some (.double x5), none, none, none] [.long (FP.d2l x5)] M)) : sp_X13_held [.ref 605, .int x1, .int x2, .long x3, .double x5] M K := by
  refine ⟨Nat.le_of_ble_eq_true rfl, fun G hc => ?_⟩
  rw [hW.1] at hc
  exact eX13_held hc hW  (h hc)
set_option maxRecDepth 100000 in
theorem eX13_registerOf {G : Nat → KT} {K : RT} (hc : cloX13_registerOf G K wT) {x1 : Int32} {x2 : Int32} {M : Mem} (hW : Wf M) (h : (vp_in x1 100) ∧ ((q_X13_manyOf (gI M 618 (x1).toNatClampNeg) M) ∧ (∀ y1 : Int32, y1 = (f_X13_manyOf (gI M 618 (x1).toNatClampNeg) M) → G 17 [some (.ref 605), some (.int x1), some (.int x2), some (.int y1), some (.int (0 : Int32)), some (.int (0 : Int32))] [] M))) : G 0 [some (.ref 605), some (.int x1), some (.int x2), none, none, none] [] M :=
  (hc.1 _ _ _ (i_aload rfl (i_aload rfl (i_getR (okS hW Sk_605) (nv_605_24 hW) (i_iload rfl (i_iald hW Ss_618 h.1 (i_callV2 (Nat.le_of_ble_eq_true rfl) (okS hW Sk_605) (c_X13_manyOf hW  h.2.1 (i_rI (i_istore (Nat.le_of_ble_eq_true rfl) (i_ic (i_istore (Nat.le_of_ble_eq_true rfl) (i_ic (i_istore (Nat.le_of_ble_eq_true rfl) (h.2.2 _ rfl)))))))))))))))
set_option maxRecDepth 100000 in
theorem eX13_registerOf_17 {G : Nat → KT} {K : RT} (hc : cloX13_registerOf G K wT) {x1 : Int32} {x2 : Int32} {x3 : Int32} {x4 : Int32} {x5 : Int32} {M : Mem} (hW : Wf M) (h : (x3 ≤ x5 → K (some (.int (-1 : Int32))) M) ∧ (¬ x3 ≤ x5 → ((vp_in x1 100) ∧ ((q_X13_letter (gI M 618 (x1).toNatClampNeg) x5 M) ∧ ((¬ (f_X13_letter (gI M 618 (x1).toNatClampNeg) x5 M) = (86 : Int32) → G 17 [some (.ref 605), some (.int x1), some (.int x2), some (.int x3), some (.int x4), some (.int (x5 + (1 : Int32)))] [] M) ∧ ((f_X13_letter (gI M 618 (x1).toNatClampNeg) x5 M) = (86 : Int32) → ((¬ x4 = x2 → G 17 [some (.ref 605), some (.int x1), some (.int x2), some (.int x3), some (.int (x4 + (1 : Int32))), some (.int (x5 + (1 : Int32)))] [] M) ∧ (x4 = x2 → ((q_X13_operandOf x1 x5 M) ∧ K (some (.int (f_X13_operandOf x1 x5 M))) M))))))))) : G 17 [some (.ref 605), some (.int x1), some (.int x2), some (.int x3), some (.int x4), some (.int x5)] [] M :=
  (hc.2.1 _ _ _ (i_iload rfl (i_iload rfl (i_icmp_ge (fun q1755 => (hc.2.2.2.2.2.2.2 _ _ _ (i_ic (i_iret hW.1 (h.1 q1755))))) (fun q1755 => (hc.2.2.1 _ _ _ (i_aload rfl (i_aload rfl (i_getR (okS hW Sk_605) (nv_605_24 hW) (i_iload rfl (i_iald hW Ss_618 (h.2 q1755).1 (i_iload rfl (i_callV3 (Nat.le_of_ble_eq_true rfl) (okS hW Sk_605) (c_X13_letter hW  (h.2 q1755).2.1 (i_rI (i_ic (i_icmp_ne (fun q1756 => (hc.2.2.2.2.2.2.1 _ _ _ (i_iinc rfl ((h.2 q1755).2.2.1 q1756)))) (fun q1756 => (hc.2.2.2.1 _ _ _ (i_iload rfl (i_iload rfl (i_icmp_ne (fun q1757 => (hc.2.2.2.2.2.1 _ _ _ (i_iinc rfl (hc.2.2.2.2.2.2.1 _ _ _ (i_iinc rfl (((h.2 q1755).2.2.2 q1756).1 q1757)))))) (fun q1757 => (hc.2.2.2.2.1 _ _ _ (i_aload rfl (i_iload rfl (i_iload rfl (i_callV3 (Nat.le_of_ble_eq_true rfl) (okS hW Sk_605) (c_X13_operandOf hW  (((h.2 q1755).2.2.2 q1756).2 q1757).1 (i_rI (i_iret hW.1 (((h.2 q1755).2.2.2 q1756).2 q1757).2)))))))))))))))))))))))))))))))
theorem wX13_registerOf {x1 : Int32} {x2 : Int32} {M : Mem} {K : RT} (hW : Wf M) (h : ∀ {G : Nat → KT}, cloX13_registerOf G K wT → (vp_in x1 100) ∧ ((q_X13_manyOf (gI M 618 (x1).toNatClampNeg) M) ∧ (∀ y1 : Int32, y1 = (f_X13_manyOf (gI M 618 (x1).toNatClampNeg) M) → G 17 [some (.ref 605), some (.int x1), some (.int x2), some (.int y1), some (.int (0 : Int32)), some (.int (0 : Int32))] [] M))) : sp_X13_registerOf [.ref 605, .int x1, .int x2] M K := by
  refine ⟨Nat.le_of_ble_eq_true rfl, fun G hc => ?_⟩
  rw [hW.1] at hc
  exact eX13_registerOf hc hW  (h hc)
set_option maxRecDepth 100000 in
theorem eX13_isAlike {G : Nat → KT} {K : RT} (hc : cloX13_isAlike G K wT) {x0 : Int32} {M : Mem} (hW : Wf M) (h : ((P_X13_in (x0.toInt64) (1 : Int64) (23 : Int64)) → K (some (.int (1 : Int32))) M) ∧ (¬ (P_X13_in (x0.toInt64) (1 : Int64) (23 : Int64)) → (((P_X13_in (x0.toInt64) (32 : Int64) (33 : Int64)) → K (some (.int (1 : Int32))) M) ∧ (¬ (P_X13_in (x0.toInt64) (32 : Int64) (33 : Int64)) → ((¬ (P_X13_in (x0.toInt64) (35 : Int64) (40 : Int64)) → K (some (.int (0 : Int32))) M) ∧ ((P_X13_in (x0.toInt64) (35 : Int64) (40 : Int64)) → K (some (.int (1 : Int32))) M)))))) : G 0 [some (.int x0)] [] M :=
  (hc.1 _ _ _ (i_iload rfl (i_i2l (i_lc (i_lc (i_callS3 (Nat.le_of_ble_eq_true rfl) (c_X13_in hW  (i_rI (i_bI_ne (fun q1758 => (hc.2.2.2.1 _ _ _ (i_ic (hc.2.2.2.2.2 _ _ _ (i_zret (by decide) hW.1 (h.1 q1758)))))) (fun q1758 => (hc.2.1 _ _ _ (i_iload rfl (i_i2l (i_lc (i_lc (i_callS3 (Nat.le_of_ble_eq_true rfl) (c_X13_in hW  (i_rI (i_bI_ne (fun q1759 => (hc.2.2.2.1 _ _ _ (i_ic (hc.2.2.2.2.2 _ _ _ (i_zret (by decide) hW.1 ((h.2 q1758).1 q1759)))))) (fun q1759 => (hc.2.2.1 _ _ _ (i_iload rfl (i_i2l (i_lc (i_lc (i_callS3 (Nat.le_of_ble_eq_true rfl) (c_X13_in hW  (i_rI (i_bI_eq (fun q1760 => (hc.2.2.2.2.1 _ _ _ (i_ic (hc.2.2.2.2.2 _ _ _ (i_zret (by decide) hW.1 (((h.2 q1758).2 q1759).1 q1760)))))) (fun q1760 => (hc.2.2.2.1 _ _ _ (i_ic (hc.2.2.2.2.2 _ _ _ (i_zret (by decide) hW.1 (((h.2 q1758).2 q1759).2 q1760)))))))))))))))))))))))))))))))))))
theorem wX13_isAlike {x0 : Int32} {M : Mem} {K : RT} (hW : Wf M) (h : ((P_X13_in (x0.toInt64) (1 : Int64) (23 : Int64)) → K (some (.int (1 : Int32))) M) ∧ (¬ (P_X13_in (x0.toInt64) (1 : Int64) (23 : Int64)) → (((P_X13_in (x0.toInt64) (32 : Int64) (33 : Int64)) → K (some (.int (1 : Int32))) M) ∧ (¬ (P_X13_in (x0.toInt64) (32 : Int64) (33 : Int64)) → ((¬ (P_X13_in (x0.toInt64) (35 : Int64) (40 : Int64)) → K (some (.int (0 : Int32))) M) ∧ ((P_X13_in (x0.toInt64) (35 : Int64) (40 : Int64)) → K (some (.int (1 : Int32))) M)))))) : sp_X13_isAlike [.int x0] M K := by
  refine ⟨Nat.le_of_ble_eq_true rfl, fun G hc => ?_⟩
  rw [hW.1] at hc
  exact eX13_isAlike hc hW  h
def P_X13_isAlike (x0 : Int32) : Prop := (((P_X13_in (x0.toInt64) (1 : Int64) (23 : Int64))) ∨ (((P_X13_in (x0.toInt64) (32 : Int64) (33 : Int64))) ∨ ((P_X13_in (x0.toInt64) (35 : Int64) (40 : Int64)))))
theorem c_X13_isAlike {x0 : Int32} {M : Mem} {K : RT} (hW : Wf M) (h : K (some (.int (pI (P_X13_isAlike x0)))) M) : sp_X13_isAlike [.int x0] M K := by
  refine wX13_isAlike hW  ?_
  unfold P_X13_isAlike at h
  refine ⟨fun q0 => ?_, fun q0 => ?_⟩
  · skip
    exact pI_goT h (by simp only [eq_true q0, not_true_eq_false, not_false_eq_true, true_and, false_and, and_true, and_false, true_or, or_true, false_or, or_false, iff_self])
  · skip
    refine ⟨fun q1 => ?_, fun q1 => ?_⟩
    · skip
      exact pI_goT h (by simp only [eq_false q0, eq_true q1, not_true_eq_false, not_false_eq_true, true_and, false_and, and_true, and_false, true_or, or_true, false_or, or_false, iff_self])
    · skip
      refine ⟨fun q2 => ?_, fun q2 => ?_⟩
      · skip
        exact pI_goF h (by simp only [eq_false q0, eq_false q1, eq_false q2, not_true_eq_false, not_false_eq_true, true_and, false_and, and_true, and_false, true_or, or_true, false_or, or_false, iff_self])
      · skip
        exact pI_goT h (by simp only [eq_false q0, eq_false q1, eq_true q2, not_true_eq_false, not_false_eq_true, true_and, false_and, and_true, and_false, true_or, or_true, false_or, or_false, iff_self])
set_option maxRecDepth 100000 in
theorem eX13_wantsWhole {G : Nat → KT} {K : RT} (hc : cloX13_wantsWhole G K wT) {x0 : Int32} {x1 : Int32} {M : Mem} (hW : Wf M) (h : ((P_X13_in (x0.toInt64) (8 : Int64) (13 : Int64)) → K (some (.int (1 : Int32))) M) ∧ (¬ (P_X13_in (x0.toInt64) (8 : Int64) (13 : Int64)) → (((P_X13_in (x0.toInt64) (41 : Int64) (43 : Int64)) → K (some (.int (1 : Int32))) M) ∧ (¬ (P_X13_in (x0.toInt64) (41 : Int64) (43 : Int64)) → ((¬ x0 = (25 : Int32) → K (some (.int (0 : Int32))) M) ∧ (x0 = (25 : Int32) → ((¬ x1 = 0 → K (some (.int (0 : Int32))) M) ∧ (x1 = 0 → K (some (.int (1 : Int32))) M)))))))) : G 0 [some (.int x0), some (.int x1)] [] M :=
  (hc.1 _ _ _ (i_iload rfl (i_i2l (i_lc (i_lc (i_callS3 (Nat.le_of_ble_eq_true rfl) (c_X13_in hW  (i_rI (i_bI_ne (fun q1761 => (hc.2.2.2.2.1 _ _ _ (i_ic (hc.2.2.2.2.2.2 _ _ _ (i_zret (by decide) hW.1 (h.1 q1761)))))) (fun q1761 => (hc.2.1 _ _ _ (i_iload rfl (i_i2l (i_lc (i_lc (i_callS3 (Nat.le_of_ble_eq_true rfl) (c_X13_in hW  (i_rI (i_bI_ne (fun q1762 => (hc.2.2.2.2.1 _ _ _ (i_ic (hc.2.2.2.2.2.2 _ _ _ (i_zret (by decide) hW.1 ((h.2 q1761).1 q1762)))))) (fun q1762 => (hc.2.2.1 _ _ _ (i_iload rfl (i_ic (i_icmp_ne (fun q1763 => (hc.2.2.2.2.2.1 _ _ _ (i_ic (hc.2.2.2.2.2.2 _ _ _ (i_zret (by decide) hW.1 (((h.2 q1761).2 q1762).1 q1763)))))) (fun q1763 => (hc.2.2.2.1 _ _ _ (i_iload rfl (i_if_ne (fun q1764 => (hc.2.2.2.2.2.1 _ _ _ (i_ic (hc.2.2.2.2.2.2 _ _ _ (i_zret (by decide) hW.1 ((((h.2 q1761).2 q1762).2 q1763).1 q1764)))))) (fun q1764 => (hc.2.2.2.2.1 _ _ _ (i_ic (hc.2.2.2.2.2.2 _ _ _ (i_zret (by decide) hW.1 ((((h.2 q1761).2 q1762).2 q1763).2 q1764))))))))))))))))))))))))))))))))))
theorem wX13_wantsWhole {x0 : Int32} {x1 : Int32} {M : Mem} {K : RT} (hW : Wf M) (h : ((P_X13_in (x0.toInt64) (8 : Int64) (13 : Int64)) → K (some (.int (1 : Int32))) M) ∧ (¬ (P_X13_in (x0.toInt64) (8 : Int64) (13 : Int64)) → (((P_X13_in (x0.toInt64) (41 : Int64) (43 : Int64)) → K (some (.int (1 : Int32))) M) ∧ (¬ (P_X13_in (x0.toInt64) (41 : Int64) (43 : Int64)) → ((¬ x0 = (25 : Int32) → K (some (.int (0 : Int32))) M) ∧ (x0 = (25 : Int32) → ((¬ x1 = 0 → K (some (.int (0 : Int32))) M) ∧ (x1 = 0 → K (some (.int (1 : Int32))) M)))))))) : sp_X13_wantsWhole [.int x0, .int x1] M K := by
  refine ⟨Nat.le_of_ble_eq_true rfl, fun G hc => ?_⟩
  rw [hW.1] at hc
  exact eX13_wantsWhole hc hW  h
def P_X13_wantsWhole (x0 : Int32) (x1 : Int32) : Prop := (((P_X13_in (x0.toInt64) (8 : Int64) (13 : Int64))) ∨ (((P_X13_in (x0.toInt64) (41 : Int64) (43 : Int64))) ∨ ((x0 = (25 : Int32)) ∧ (x1 = 0))))
theorem c_X13_wantsWhole {x0 : Int32} {x1 : Int32} {M : Mem} {K : RT} (hW : Wf M) (h : K (some (.int (pI (P_X13_wantsWhole x0 x1)))) M) : sp_X13_wantsWhole [.int x0, .int x1] M K := by
  refine wX13_wantsWhole hW  ?_
  unfold P_X13_wantsWhole at h
  refine ⟨fun q0 => ?_, fun q0 => ?_⟩
  · skip
    exact pI_goT h (by simp only [eq_true q0, not_true_eq_false, not_false_eq_true, true_and, false_and, and_true, and_false, true_or, or_true, false_or, or_false, iff_self])
  · skip
    refine ⟨fun q1 => ?_, fun q1 => ?_⟩
    · skip
      exact pI_goT h (by simp only [eq_false q0, eq_true q1, not_true_eq_false, not_false_eq_true, true_and, false_and, and_true, and_false, true_or, or_true, false_or, or_false, iff_self])
    · skip
      refine ⟨fun q2 => ?_, fun q2 => ?_⟩
      · skip
        exact pI_goF h (by simp only [eq_false q0, eq_false q1, eq_false q2, not_true_eq_false, not_false_eq_true, true_and, false_and, and_true, and_false, true_or, or_true, false_or, or_false, iff_self])
      · skip
        refine ⟨fun q3 => ?_, fun q3 => ?_⟩
        · skip
          exact pI_goF h (by simp only [eq_false q0, eq_false q1, eq_true q2, eq_false q3, not_true_eq_false, not_false_eq_true, true_and, false_and, and_true, and_false, true_or, or_true, false_or, or_false, iff_self])
        · skip
          exact pI_goT h (by simp only [eq_false q0, eq_false q1, eq_true q2, eq_true q3, not_true_eq_false, not_false_eq_true, true_and, false_and, and_true, and_false, true_or, or_true, false_or, or_false, iff_self])
set_option maxRecDepth 100000 in
theorem eX13_placesOf {G : Nat → KT} {K : RT} (hc : cloX13_placesOf G K wT) {x0 : Int32} {M : Mem} (hW : Wf M) (h : (x0 = (26 : Int32) → K (some (.int (1 : Int32))) M) ∧ (¬ x0 = (26 : Int32) → ((¬ x0 = (27 : Int32) → ((¬ x0 = (34 : Int32) → K (some (.int (-1 : Int32))) M) ∧ (x0 = (34 : Int32) → K (some (.int (2 : Int32))) M))) ∧ (x0 = (27 : Int32) → K (some (.int (1 : Int32))) M)))) : G 0 [some (.int x0)] [] M :=
  (hc.1 _ _ _ (i_iload rfl (i_ic (i_icmp_eq (fun q1765 => (hc.2.2.1 _ _ _ (i_ic (hc.2.2.2.2.2.2 _ _ _ (i_iret hW.1 (h.1 q1765)))))) (fun q1765 => (hc.2.1 _ _ _ (i_iload rfl (i_ic (i_icmp_ne (fun q1766 => (hc.2.2.2.1 _ _ _ (i_iload rfl (i_ic (i_icmp_ne (fun q1767 => (hc.2.2.2.2.2.1 _ _ _ (i_ic (hc.2.2.2.2.2.2 _ _ _ (i_iret hW.1 (((h.2 q1765).1 q1766).1 q1767)))))) (fun q1767 => (hc.2.2.2.2.1 _ _ _ (i_ic (hc.2.2.2.2.2.2 _ _ _ (i_iret hW.1 (((h.2 q1765).1 q1766).2 q1767))))))))))) (fun q1766 => (hc.2.2.1 _ _ _ (i_ic (hc.2.2.2.2.2.2 _ _ _ (i_iret hW.1 ((h.2 q1765).2 q1766)))))))))))))))
theorem wX13_placesOf {x0 : Int32} {M : Mem} {K : RT} (hW : Wf M) (h : (x0 = (26 : Int32) → K (some (.int (1 : Int32))) M) ∧ (¬ x0 = (26 : Int32) → ((¬ x0 = (27 : Int32) → ((¬ x0 = (34 : Int32) → K (some (.int (-1 : Int32))) M) ∧ (x0 = (34 : Int32) → K (some (.int (2 : Int32))) M))) ∧ (x0 = (27 : Int32) → K (some (.int (1 : Int32))) M)))) : sp_X13_placesOf [.int x0] M K := by
  refine ⟨Nat.le_of_ble_eq_true rfl, fun G hc => ?_⟩
  rw [hW.1] at hc
  exact eX13_placesOf hc hW  h
noncomputable def f_X13_placesOf (x0 : Int32) : Int32 := (if x0 = (26 : Int32) then (1 : Int32) else (if x0 = (27 : Int32) then (1 : Int32) else (if x0 = (34 : Int32) then (2 : Int32) else (-1 : Int32))))
theorem c_X13_placesOf {x0 : Int32} {M : Mem} {K : RT} (hW : Wf M) (h : K (some (.int (f_X13_placesOf x0))) M) : sp_X13_placesOf [.int x0] M K := by
  refine wX13_placesOf hW  ?_
  unfold f_X13_placesOf at h
  refine ⟨fun q0 => ?_, fun q0 => ?_⟩
  · skip
    try simp only [if_pos q0] at h
    first | exact h | contradiction
  · skip
    try simp only [if_neg q0] at h
    refine ⟨fun q1 => ?_, fun q1 => ?_⟩
    · skip
      try simp only [if_neg q1] at h
      refine ⟨fun q2 => ?_, fun q2 => ?_⟩
      · skip
        try simp only [if_neg q2] at h
        first | exact h | contradiction
      · skip
        try simp only [if_pos q2] at h
        first | exact h | contradiction
    · skip
      try simp only [if_pos q1] at h
      first | exact h | contradiction
set_option maxRecDepth 100000 in
theorem eX13_judged {G : Nat → KT} {K : RT} (hc : cloX13_judged G K wT) {x0 : Int32} {x1 : Int32} {x2 : Int32} {x3 : Int32} {x4 : Int32} {x5 : Int32} {x6 : Int32} {M : Mem} (hW : Wf M) (h : G 6 [some (.int x0), some (.int x1), some (.int x2), some (.int x3), some (.int x4), some (.int x5), some (.int x6), some (.int (1 : Int32)), some (.int (0 : Int32)), none, none, none] [] M) : G 0 [some (.int x0), some (.int x1), some (.int x2), some (.int x3), some (.int x4), some (.int x5), some (.int x6), none, none, none, none, none] [] M :=
  (hc.1 _ _ _ (i_ic (i_istore (Nat.le_of_ble_eq_true rfl) (i_ic (i_istore (Nat.le_of_ble_eq_true rfl) h)))))
set_option maxRecDepth 100000 in
theorem eX13_judged_6 {G : Nat → KT} {K : RT} (hc : cloX13_judged G K wT) {x0 : Int32} {x1 : Int32} {x2 : Int32} {x3 : Int32} {x4 : Int32} {x5 : Int32} {x6 : Int32} {x7 : Int32} {x8 : Int32} {o9 : Option Value} {o10 : Option Value} {o11 : Option Value} {M : Mem} (hW : Wf M) (h : ((3 : Int32) ≤ x8 → ((¬ x7 = 0 → ((x3 = (-2 : Int32) → G 207 [some (.int x0), some (.int x1), some (.int x2), some (.int x3), some (.int x4), some (.int x5), some (.int x6), some (.int x7), some (.int x8), o9, o10, o11] [] M) ∧ (¬ x3 = (-2 : Int32) → ((¬ x4 = x2 → K (some (.int (2 : Int32))) M) ∧ (x4 = x2 → G 207 [some (.int x0), some (.int x1), some (.int x2), some (.int x3), some (.int x4), some (.int x5), some (.int x6), some (.int x7), some (.int x8), o9, o10, o11] [] M))))) ∧ (x7 = 0 → K (some (.int (1 : Int32))) M))) ∧ (¬ (3 : Int32) ≤ x8 → ((¬ x8 = 0 → ((¬ x8 = (1 : Int32) → ((x5 = (-2 : Int32) → G 47 [some (.int x0), some (.int x1), some (.int x2), some (.int x3), some (.int x4), some (.int x5), some (.int x6), some (.int x7), some (.int x8), some (.int x5), o10, o11] [.int (0 : Int32)] M) ∧ (¬ x5 = (-2 : Int32) → G 47 [some (.int x0), some (.int x1), some (.int x2), some (.int x3), some (.int x4), some (.int x5), some (.int x6), some (.int x7), some (.int x8), some (.int x5), o10, o11] [.int (1 : Int32)] M))) ∧ (x8 = (1 : Int32) → ((x3 = (-2 : Int32) → G 47 [some (.int x0), some (.int x1), some (.int x2), some (.int x3), some (.int x4), some (.int x5), some (.int x6), some (.int x7), some (.int x8), some (.int x3), o10, o11] [.int (0 : Int32)] M) ∧ (¬ x3 = (-2 : Int32) → G 47 [some (.int x0), some (.int x1), some (.int x2), some (.int x3), some (.int x4), some (.int x5), some (.int x6), some (.int x7), some (.int x8), some (.int x3), o10, o11] [.int (1 : Int32)] M))))) ∧ (x8 = 0 → ((x1 = (-2 : Int32) → G 47 [some (.int x0), some (.int x1), some (.int x2), some (.int x3), some (.int x4), some (.int x5), some (.int x6), some (.int x7), some (.int x8), some (.int x1), o10, o11] [.int (0 : Int32)] M) ∧ (¬ x1 = (-2 : Int32) → G 47 [some (.int x0), some (.int x1), some (.int x2), some (.int x3), some (.int x4), some (.int x5), some (.int x6), some (.int x7), some (.int x8), some (.int x1), o10, o11] [.int (1 : Int32)] M)))))) : G 6 [some (.int x0), some (.int x1), some (.int x2), some (.int x3), some (.int x4), some (.int x5), some (.int x6), some (.int x7), some (.int x8), o9, o10, o11] [] M :=
  (hc.2.1 _ _ _ (i_iload rfl (i_ic (i_icmp_ge (fun q1801 => (hc.2.2.2.2.2.2.2.2.2.2.2.2.2.2.2.2.2.2.2.2.2.2.2.2.2.2.2.2.2.2.2.2.2.2.2.1 _ _ _ (i_iload rfl (i_if_ne (fun q1802 => (hc.2.2.2.2.2.2.2.2.2.2.2.2.2.2.2.2.2.2.2.2.2.2.2.2.2.2.2.2.2.2.2.2.2.2.2.2.2.1 _ _ _ (i_iload rfl (i_ic (i_icmp_eq (fun q1803 => (((h.1 q1801).1 q1802).1 q1803)) (fun q1803 => (hc.2.2.2.2.2.2.2.2.2.2.2.2.2.2.2.2.2.2.2.2.2.2.2.2.2.2.2.2.2.2.2.2.2.2.2.2.2.2.1 _ _ _ (i_iload rfl (i_iload rfl (i_icmp_ne (fun q1804 => (hc.2.2.2.2.2.2.2.2.2.2.2.2.2.2.2.2.2.2.2.2.2.2.2.2.2.2.2.2.2.2.2.2.2.2.2.2.2.2.2.2.2.2.1 _ _ _ (i_ic (hc.2.2.2.2.2.2.2.2.2.2.2.2.2.2.2.2.2.2.2.2.2.2.2.2.2.2.2.2.2.2.2.2.2.2.2.2.2.2.2.2.2.2.2 _ _ _ (i_iret hW.1 ((((h.1 q1801).1 q1802).2 q1803).1 q1804)))))) (fun q1804 => ((((h.1 q1801).1 q1802).2 q1803).2 q1804)))))))))))) (fun q1802 => (hc.2.2.2.2.2.2.2.2.2.2.2.2.2.2.2.2.2.2.2.2.2.2.2.2.2.2.2.2.2.2.2.2.2.2.2.2.1 _ _ _ (i_ic (i_iret hW.1 ((h.1 q1801).2 q1802))))))))) (fun q1801 => (hc.2.2.1 _ _ _ (i_iload rfl (i_if_ne (fun q1805 => (hc.2.2.2.2.1 _ _ _ (i_iload rfl (i_ic (i_icmp_ne (fun q1806 => (hc.2.2.2.2.2.2.1 _ _ _ (i_iload rfl (hc.2.2.2.2.2.2.2.1 _ _ _ (i_istore (Nat.le_of_ble_eq_true rfl) (i_iload rfl (i_ic (i_icmp_eq (fun q1807 => (hc.2.2.2.2.2.2.2.2.2.1 _ _ _ (i_ic ((((h.2 q1801).1 q1805).1 q1806).1 q1807)))) (fun q1807 => (hc.2.2.2.2.2.2.2.2.1 _ _ _ (i_ic ((((h.2 q1801).1 q1805).1 q1806).2 q1807)))))))))))) (fun q1806 => (hc.2.2.2.2.2.1 _ _ _ (i_iload rfl (hc.2.2.2.2.2.2.2.1 _ _ _ (i_istore (Nat.le_of_ble_eq_true rfl) (i_iload rfl (i_ic (i_icmp_eq (fun q1808 => (hc.2.2.2.2.2.2.2.2.2.1 _ _ _ (i_ic ((((h.2 q1801).1 q1805).2 q1806).1 q1808)))) (fun q1808 => (hc.2.2.2.2.2.2.2.2.1 _ _ _ (i_ic ((((h.2 q1801).1 q1805).2 q1806).2 q1808))))))))))))))))) (fun q1805 => (hc.2.2.2.1 _ _ _ (i_iload rfl (hc.2.2.2.2.2.2.2.1 _ _ _ (i_istore (Nat.le_of_ble_eq_true rfl) (i_iload rfl (i_ic (i_icmp_eq (fun q1809 => (hc.2.2.2.2.2.2.2.2.2.1 _ _ _ (i_ic (((h.2 q1801).2 q1805).1 q1809)))) (fun q1809 => (hc.2.2.2.2.2.2.2.2.1 _ _ _ (i_ic (((h.2 q1801).2 q1805).2 q1809))))))))))))))))))))
set_option maxRecDepth 100000 in
theorem eX13_judged_47 {G : Nat → KT} {K : RT} (hc : cloX13_judged G K wT) {x0 : Int32} {x1 : Int32} {x2 : Int32} {x3 : Int32} {x4 : Int32} {x5 : Int32} {x6 : Int32} {x7 : Int32} {x8 : Int32} {x9 : Int32} {o10 : Option Value} {o11 : Option Value} {s0 : Int32} {M : Mem} (hW : Wf M) (h : (x7 = 0 → G 121 [some (.int x0), some (.int x1), some (.int x2), some (.int x3), some (.int x4), some (.int x5), some (.int x6), some (.int x7), some (.int x8), some (.int x9), some (.int s0), o11] [.int (0 : Int32)] M) ∧ (¬ x7 = 0 → ((x9 = (-1 : Int32) → G 121 [some (.int x0), some (.int x1), some (.int x2), some (.int x3), some (.int x4), some (.int x5), some (.int x6), some (.int x7), some (.int x8), some (.int x9), some (.int s0), o11] [.int (0 : Int32)] M) ∧ (¬ x9 = (-1 : Int32) → ((s0 = 0 → G 82 [some (.int x0), some (.int x1), some (.int x2), some (.int x3), some (.int x4), some (.int x5), some (.int x6), some (.int x7), some (.int x8), some (.int x9), some (.int s0), o11] [] M) ∧ (¬ s0 = 0 → ((¬ (P_X13_wantsWhole x0 x8) → G 82 [some (.int x0), some (.int x1), some (.int x2), some (.int x3), some (.int x4), some (.int x5), some (.int x6), some (.int x7), some (.int x8), some (.int x9), some (.int s0), o11] [] M) ∧ ((P_X13_wantsWhole x0 x8) → (((P_X13_isReal x9) → G 121 [some (.int x0), some (.int x1), some (.int x2), some (.int x3), some (.int x4), some (.int x5), some (.int x6), some (.int x7), some (.int x8), some (.int x9), some (.int s0), o11] [.int (0 : Int32)] M) ∧ (¬ (P_X13_isReal x9) → G 82 [some (.int x0), some (.int x1), some (.int x2), some (.int x3), some (.int x4), some (.int x5), some (.int x6), some (.int x7), some (.int x8), some (.int x9), some (.int s0), o11] [] M)))))))))) : G 47 [some (.int x0), some (.int x1), some (.int x2), some (.int x3), some (.int x4), some (.int x5), some (.int x6), some (.int x7), some (.int x8), some (.int x9), o10, o11] [.int s0] M :=
  (hc.2.2.2.2.2.2.2.2.2.2.1 _ _ _ (i_istore (Nat.le_of_ble_eq_true rfl) (i_iload rfl (i_if_eq (fun q1810 => (hc.2.2.2.2.2.2.2.2.2.2.2.2.2.2.2.2.2.2.2.2.2.1 _ _ _ (i_ic (h.1 q1810)))) (fun q1810 => (hc.2.2.2.2.2.2.2.2.2.2.2.1 _ _ _ (i_iload rfl (i_ic (i_icmp_eq (fun q1811 => (hc.2.2.2.2.2.2.2.2.2.2.2.2.2.2.2.2.2.2.2.2.2.1 _ _ _ (i_ic ((h.2 q1810).1 q1811)))) (fun q1811 => (hc.2.2.2.2.2.2.2.2.2.2.2.2.1 _ _ _ (i_iload rfl (i_if_eq (fun q1812 => (((h.2 q1810).2 q1811).1 q1812)) (fun q1812 => (hc.2.2.2.2.2.2.2.2.2.2.2.2.2.1 _ _ _ (i_iload rfl (i_iload rfl (i_callS2 (Nat.le_of_ble_eq_true rfl) (c_X13_wantsWhole hW  (i_rI (i_bI_eq (fun q1813 => ((((h.2 q1810).2 q1811).2 q1812).1 q1813)) (fun q1813 => (hc.2.2.2.2.2.2.2.2.2.2.2.2.2.2.1 _ _ _ (i_iload rfl (i_callS1 (Nat.le_of_ble_eq_true rfl) (c_X13_isReal hW  (i_rI (i_bI_ne (fun q1814 => (hc.2.2.2.2.2.2.2.2.2.2.2.2.2.2.2.2.2.2.2.2.2.1 _ _ _ (i_ic (((((h.2 q1810).2 q1811).2 q1812).2 q1813).1 q1814)))) (fun q1814 => (((((h.2 q1810).2 q1811).2 q1812).2 q1813).2 q1814))))))))))))))))))))))))))))))
set_option maxRecDepth 100000 in
theorem eX13_judged_82 {G : Nat → KT} {K : RT} (hc : cloX13_judged G K wT) {x0 : Int32} {x1 : Int32} {x2 : Int32} {x3 : Int32} {x4 : Int32} {x5 : Int32} {x6 : Int32} {o7 : Option Value} {x8 : Int32} {x9 : Int32} {x10 : Int32} {o11 : Option Value} {M : Mem} (hW : Wf M) (h : (x10 = 0 → ((¬ (f_X13_placesOf x0) = x8 → G 121 [some (.int x0), some (.int x1), some (.int x2), some (.int x3), some (.int x4), some (.int x5), some (.int x6), o7, some (.int x8), some (.int x9), some (.int x10), o11] [.int (1 : Int32)] M) ∧ ((f_X13_placesOf x0) = x8 → ((¬ x9 = (3 : Int32) → G 121 [some (.int x0), some (.int x1), some (.int x2), some (.int x3), some (.int x4), some (.int x5), some (.int x6), o7, some (.int x8), some (.int x9), some (.int x10), o11] [.int (0 : Int32)] M) ∧ (x9 = (3 : Int32) → G 121 [some (.int x0), some (.int x1), some (.int x2), some (.int x3), some (.int x4), some (.int x5), some (.int x6), o7, some (.int x8), some (.int x9), some (.int x10), o11] [.int (1 : Int32)] M))))) ∧ (¬ x10 = 0 → ((¬ x0 = (16 : Int32) → ((¬ (f_X13_placesOf x0) = x8 → G 121 [some (.int x0), some (.int x1), some (.int x2), some (.int x3), some (.int x4), some (.int x5), some (.int x6), o7, some (.int x8), some (.int x9), some (.int x10), o11] [.int (1 : Int32)] M) ∧ ((f_X13_placesOf x0) = x8 → ((¬ x9 = (3 : Int32) → G 121 [some (.int x0), some (.int x1), some (.int x2), some (.int x3), some (.int x4), some (.int x5), some (.int x6), o7, some (.int x8), some (.int x9), some (.int x10), o11] [.int (0 : Int32)] M) ∧ (x9 = (3 : Int32) → G 121 [some (.int x0), some (.int x1), some (.int x2), some (.int x3), some (.int x4), some (.int x5), some (.int x6), o7, some (.int x8), some (.int x9), some (.int x10), o11] [.int (1 : Int32)] M))))) ∧ (x0 = (16 : Int32) → ((¬ (P_X13_isReal x9) → G 121 [some (.int x0), some (.int x1), some (.int x2), some (.int x3), some (.int x4), some (.int x5), some (.int x6), o7, some (.int x8), some (.int x9), some (.int x10), o11] [.int (0 : Int32)] M) ∧ ((P_X13_isReal x9) → ((¬ (f_X13_placesOf x0) = x8 → G 121 [some (.int x0), some (.int x1), some (.int x2), some (.int x3), some (.int x4), some (.int x5), some (.int x6), o7, some (.int x8), some (.int x9), some (.int x10), o11] [.int (1 : Int32)] M) ∧ ((f_X13_placesOf x0) = x8 → ((¬ x9 = (3 : Int32) → G 121 [some (.int x0), some (.int x1), some (.int x2), some (.int x3), some (.int x4), some (.int x5), some (.int x6), o7, some (.int x8), some (.int x9), some (.int x10), o11] [.int (0 : Int32)] M) ∧ (x9 = (3 : Int32) → G 121 [some (.int x0), some (.int x1), some (.int x2), some (.int x3), some (.int x4), some (.int x5), some (.int x6), o7, some (.int x8), some (.int x9), some (.int x10), o11] [.int (1 : Int32)] M)))))))))) : G 82 [some (.int x0), some (.int x1), some (.int x2), some (.int x3), some (.int x4), some (.int x5), some (.int x6), o7, some (.int x8), some (.int x9), some (.int x10), o11] [] M :=
  (hc.2.2.2.2.2.2.2.2.2.2.2.2.2.2.2.1 _ _ _ (i_iload rfl (i_if_eq (fun q1815 => (hc.2.2.2.2.2.2.2.2.2.2.2.2.2.2.2.2.2.2.1 _ _ _ (i_iload rfl (i_callS1 (Nat.le_of_ble_eq_true rfl) (c_X13_placesOf hW  (i_rI (i_iload rfl (i_icmp_ne (fun q1816 => (hc.2.2.2.2.2.2.2.2.2.2.2.2.2.2.2.2.2.2.2.2.1 _ _ _ (i_ic ((h.1 q1815).1 q1816)))) (fun q1816 => (hc.2.2.2.2.2.2.2.2.2.2.2.2.2.2.2.2.2.2.2.1 _ _ _ (i_iload rfl (i_ic (i_icmp_ne (fun q1817 => (hc.2.2.2.2.2.2.2.2.2.2.2.2.2.2.2.2.2.2.2.2.2.1 _ _ _ (i_ic (((h.1 q1815).2 q1816).1 q1817)))) (fun q1817 => (hc.2.2.2.2.2.2.2.2.2.2.2.2.2.2.2.2.2.2.2.2.1 _ _ _ (i_ic (((h.1 q1815).2 q1816).2 q1817))))))))))))))))) (fun q1815 => (hc.2.2.2.2.2.2.2.2.2.2.2.2.2.2.2.2.1 _ _ _ (i_iload rfl (i_ic (i_icmp_ne (fun q1818 => (hc.2.2.2.2.2.2.2.2.2.2.2.2.2.2.2.2.2.2.1 _ _ _ (i_iload rfl (i_callS1 (Nat.le_of_ble_eq_true rfl) (c_X13_placesOf hW  (i_rI (i_iload rfl (i_icmp_ne (fun q1819 => (hc.2.2.2.2.2.2.2.2.2.2.2.2.2.2.2.2.2.2.2.2.1 _ _ _ (i_ic (((h.2 q1815).1 q1818).1 q1819)))) (fun q1819 => (hc.2.2.2.2.2.2.2.2.2.2.2.2.2.2.2.2.2.2.2.1 _ _ _ (i_iload rfl (i_ic (i_icmp_ne (fun q1820 => (hc.2.2.2.2.2.2.2.2.2.2.2.2.2.2.2.2.2.2.2.2.2.1 _ _ _ (i_ic ((((h.2 q1815).1 q1818).2 q1819).1 q1820)))) (fun q1820 => (hc.2.2.2.2.2.2.2.2.2.2.2.2.2.2.2.2.2.2.2.2.1 _ _ _ (i_ic ((((h.2 q1815).1 q1818).2 q1819).2 q1820))))))))))))))))) (fun q1818 => (hc.2.2.2.2.2.2.2.2.2.2.2.2.2.2.2.2.2.1 _ _ _ (i_iload rfl (i_callS1 (Nat.le_of_ble_eq_true rfl) (c_X13_isReal hW  (i_rI (i_bI_eq (fun q1821 => (hc.2.2.2.2.2.2.2.2.2.2.2.2.2.2.2.2.2.2.2.2.2.1 _ _ _ (i_ic (((h.2 q1815).2 q1818).1 q1821)))) (fun q1821 => (hc.2.2.2.2.2.2.2.2.2.2.2.2.2.2.2.2.2.2.1 _ _ _ (i_iload rfl (i_callS1 (Nat.le_of_ble_eq_true rfl) (c_X13_placesOf hW  (i_rI (i_iload rfl (i_icmp_ne (fun q1822 => (hc.2.2.2.2.2.2.2.2.2.2.2.2.2.2.2.2.2.2.2.2.1 _ _ _ (i_ic ((((h.2 q1815).2 q1818).2 q1821).1 q1822)))) (fun q1822 => (hc.2.2.2.2.2.2.2.2.2.2.2.2.2.2.2.2.2.2.2.1 _ _ _ (i_iload rfl (i_ic (i_icmp_ne (fun q1823 => (hc.2.2.2.2.2.2.2.2.2.2.2.2.2.2.2.2.2.2.2.2.2.1 _ _ _ (i_ic (((((h.2 q1815).2 q1818).2 q1821).2 q1822).1 q1823)))) (fun q1823 => (hc.2.2.2.2.2.2.2.2.2.2.2.2.2.2.2.2.2.2.2.2.1 _ _ _ (i_ic (((((h.2 q1815).2 q1818).2 q1821).2 q1822).2 q1823))))))))))))))))))))))))))))))))
set_option maxRecDepth 100000 in
theorem eX13_judged_121 {G : Nat → KT} {K : RT} (hc : cloX13_judged G K wT) {x0 : Int32} {x1 : Int32} {x2 : Int32} {x3 : Int32} {x4 : Int32} {x5 : Int32} {x6 : Int32} {o7 : Option Value} {x8 : Int32} {x9 : Int32} {x10 : Int32} {o11 : Option Value} {s0 : Int32} {M : Mem} (hW : Wf M) (h : ((P_X13_isAlike x0) → G 147 [some (.int x0), some (.int x1), some (.int x2), some (.int x3), some (.int x4), some (.int x5), some (.int x6), some (.int s0), some (.int x8), some (.int x9), some (.int x10), o11] [.int (1 : Int32)] M) ∧ (¬ (P_X13_isAlike x0) → ((¬ x0 = (34 : Int32) → G 147 [some (.int x0), some (.int x1), some (.int x2), some (.int x3), some (.int x4), some (.int x5), some (.int x6), some (.int s0), some (.int x8), some (.int x9), some (.int x10), o11] [.int (0 : Int32)] M) ∧ (x0 = (34 : Int32) → ((¬ x8 = (1 : Int32) → G 147 [some (.int x0), some (.int x1), some (.int x2), some (.int x3), some (.int x4), some (.int x5), some (.int x6), some (.int s0), some (.int x8), some (.int x9), some (.int x10), o11] [.int (0 : Int32)] M) ∧ (x8 = (1 : Int32) → G 147 [some (.int x0), some (.int x1), some (.int x2), some (.int x3), some (.int x4), some (.int x5), some (.int x6), some (.int s0), some (.int x8), some (.int x9), some (.int x10), o11] [.int (1 : Int32)] M)))))) : G 121 [some (.int x0), some (.int x1), some (.int x2), some (.int x3), some (.int x4), some (.int x5), some (.int x6), o7, some (.int x8), some (.int x9), some (.int x10), o11] [.int s0] M :=
  (hc.2.2.2.2.2.2.2.2.2.2.2.2.2.2.2.2.2.2.2.2.2.2.1 _ _ _ (i_istore (Nat.le_of_ble_eq_true rfl) (i_iload rfl (i_callS1 (Nat.le_of_ble_eq_true rfl) (c_X13_isAlike hW  (i_rI (i_bI_ne (fun q1824 => (hc.2.2.2.2.2.2.2.2.2.2.2.2.2.2.2.2.2.2.2.2.2.2.2.2.2.1 _ _ _ (i_ic (h.1 q1824)))) (fun q1824 => (hc.2.2.2.2.2.2.2.2.2.2.2.2.2.2.2.2.2.2.2.2.2.2.2.1 _ _ _ (i_iload rfl (i_ic (i_icmp_ne (fun q1825 => (hc.2.2.2.2.2.2.2.2.2.2.2.2.2.2.2.2.2.2.2.2.2.2.2.2.2.2.1 _ _ _ (i_ic ((h.2 q1824).1 q1825)))) (fun q1825 => (hc.2.2.2.2.2.2.2.2.2.2.2.2.2.2.2.2.2.2.2.2.2.2.2.2.1 _ _ _ (i_iload rfl (i_ic (i_icmp_ne (fun q1826 => (hc.2.2.2.2.2.2.2.2.2.2.2.2.2.2.2.2.2.2.2.2.2.2.2.2.2.2.1 _ _ _ (i_ic (((h.2 q1824).2 q1825).1 q1826)))) (fun q1826 => (hc.2.2.2.2.2.2.2.2.2.2.2.2.2.2.2.2.2.2.2.2.2.2.2.2.2.1 _ _ _ (i_ic (((h.2 q1824).2 q1825).2 q1826)))))))))))))))))))))
set_option maxRecDepth 100000 in
theorem eX13_judged_147 {G : Nat → KT} {K : RT} (hc : cloX13_judged G K wT) {x0 : Int32} {x1 : Int32} {x2 : Int32} {x3 : Int32} {x4 : Int32} {x5 : Int32} {x6 : Int32} {x7 : Int32} {x8 : Int32} {x9 : Int32} {x10 : Int32} {o11 : Option Value} {s0 : Int32} {M : Mem} (hW : Wf M) (h : (x7 = 0 → G 6 [some (.int x0), some (.int x1), some (.int x2), some (.int x3), some (.int x4), some (.int x5), some (.int x6), some (.int (0 : Int32)), some (.int (x8 + (1 : Int32))), some (.int x9), some (.int x10), some (.int s0)] [] M) ∧ (¬ x7 = 0 → ((x10 = 0 → G 6 [some (.int x0), some (.int x1), some (.int x2), some (.int x3), some (.int x4), some (.int x5), some (.int x6), some (.int (1 : Int32)), some (.int (x8 + (1 : Int32))), some (.int x9), some (.int x10), some (.int s0)] [] M) ∧ (¬ x10 = 0 → ((s0 = 0 → G 6 [some (.int x0), some (.int x1), some (.int x2), some (.int x3), some (.int x4), some (.int x5), some (.int x6), some (.int (1 : Int32)), some (.int (x8 + (1 : Int32))), some (.int x9), some (.int x10), some (.int s0)] [] M) ∧ (¬ s0 = 0 → ((x8 = 0 → G 6 [some (.int x0), some (.int x1), some (.int x2), some (.int x3), some (.int x4), some (.int x5), some (.int x6), some (.int (1 : Int32)), some (.int (x8 + (1 : Int32))), some (.int x9), some (.int x10), some (.int s0)] [] M) ∧ (¬ x8 = 0 → ((¬ x9 = x1 → G 6 [some (.int x0), some (.int x1), some (.int x2), some (.int x3), some (.int x4), some (.int x5), some (.int x6), some (.int (0 : Int32)), some (.int (x8 + (1 : Int32))), some (.int x9), some (.int x10), some (.int s0)] [] M) ∧ (x9 = x1 → G 6 [some (.int x0), some (.int x1), some (.int x2), some (.int x3), some (.int x4), some (.int x5), some (.int x6), some (.int (1 : Int32)), some (.int (x8 + (1 : Int32))), some (.int x9), some (.int x10), some (.int s0)] [] M)))))))))) : G 147 [some (.int x0), some (.int x1), some (.int x2), some (.int x3), some (.int x4), some (.int x5), some (.int x6), some (.int x7), some (.int x8), some (.int x9), some (.int x10), o11] [.int s0] M :=
  (hc.2.2.2.2.2.2.2.2.2.2.2.2.2.2.2.2.2.2.2.2.2.2.2.2.2.2.2.1 _ _ _ (i_istore (Nat.le_of_ble_eq_true rfl) (i_iload rfl (i_if_eq (fun q1827 => (hc.2.2.2.2.2.2.2.2.2.2.2.2.2.2.2.2.2.2.2.2.2.2.2.2.2.2.2.2.2.2.2.2.2.1 _ _ _ (i_ic (hc.2.2.2.2.2.2.2.2.2.2.2.2.2.2.2.2.2.2.2.2.2.2.2.2.2.2.2.2.2.2.2.2.2.2.1 _ _ _ (i_istore (Nat.le_of_ble_eq_true rfl) (i_iinc rfl (h.1 q1827))))))) (fun q1827 => (hc.2.2.2.2.2.2.2.2.2.2.2.2.2.2.2.2.2.2.2.2.2.2.2.2.2.2.2.2.1 _ _ _ (i_iload rfl (i_if_eq (fun q1828 => (hc.2.2.2.2.2.2.2.2.2.2.2.2.2.2.2.2.2.2.2.2.2.2.2.2.2.2.2.2.2.2.2.2.1 _ _ _ (i_ic (hc.2.2.2.2.2.2.2.2.2.2.2.2.2.2.2.2.2.2.2.2.2.2.2.2.2.2.2.2.2.2.2.2.2.2.1 _ _ _ (i_istore (Nat.le_of_ble_eq_true rfl) (i_iinc rfl ((h.2 q1827).1 q1828))))))) (fun q1828 => (hc.2.2.2.2.2.2.2.2.2.2.2.2.2.2.2.2.2.2.2.2.2.2.2.2.2.2.2.2.2.1 _ _ _ (i_iload rfl (i_if_eq (fun q1829 => (hc.2.2.2.2.2.2.2.2.2.2.2.2.2.2.2.2.2.2.2.2.2.2.2.2.2.2.2.2.2.2.2.2.1 _ _ _ (i_ic (hc.2.2.2.2.2.2.2.2.2.2.2.2.2.2.2.2.2.2.2.2.2.2.2.2.2.2.2.2.2.2.2.2.2.2.1 _ _ _ (i_istore (Nat.le_of_ble_eq_true rfl) (i_iinc rfl (((h.2 q1827).2 q1828).1 q1829))))))) (fun q1829 => (hc.2.2.2.2.2.2.2.2.2.2.2.2.2.2.2.2.2.2.2.2.2.2.2.2.2.2.2.2.2.2.1 _ _ _ (i_iload rfl (i_if_eq (fun q1830 => (hc.2.2.2.2.2.2.2.2.2.2.2.2.2.2.2.2.2.2.2.2.2.2.2.2.2.2.2.2.2.2.2.2.1 _ _ _ (i_ic (hc.2.2.2.2.2.2.2.2.2.2.2.2.2.2.2.2.2.2.2.2.2.2.2.2.2.2.2.2.2.2.2.2.2.2.1 _ _ _ (i_istore (Nat.le_of_ble_eq_true rfl) (i_iinc rfl ((((h.2 q1827).2 q1828).2 q1829).1 q1830))))))) (fun q1830 => (hc.2.2.2.2.2.2.2.2.2.2.2.2.2.2.2.2.2.2.2.2.2.2.2.2.2.2.2.2.2.2.2.1 _ _ _ (i_iload rfl (i_iload rfl (i_icmp_ne (fun q1831 => (hc.2.2.2.2.2.2.2.2.2.2.2.2.2.2.2.2.2.2.2.2.2.2.2.2.2.2.2.2.2.2.2.2.2.1 _ _ _ (i_ic (hc.2.2.2.2.2.2.2.2.2.2.2.2.2.2.2.2.2.2.2.2.2.2.2.2.2.2.2.2.2.2.2.2.2.2.1 _ _ _ (i_istore (Nat.le_of_ble_eq_true rfl) (i_iinc rfl (((((h.2 q1827).2 q1828).2 q1829).2 q1830).1 q1831))))))) (fun q1831 => (hc.2.2.2.2.2.2.2.2.2.2.2.2.2.2.2.2.2.2.2.2.2.2.2.2.2.2.2.2.2.2.2.2.1 _ _ _ (i_ic (hc.2.2.2.2.2.2.2.2.2.2.2.2.2.2.2.2.2.2.2.2.2.2.2.2.2.2.2.2.2.2.2.2.2.2.1 _ _ _ (i_istore (Nat.le_of_ble_eq_true rfl) (i_iinc rfl (((((h.2 q1827).2 q1828).2 q1829).2 q1830).2 q1831))))))))))))))))))))))))))))
set_option maxRecDepth 100000 in
theorem eX13_judged_207 {G : Nat → KT} {K : RT} (hc : cloX13_judged G K wT) {o0 : Option Value} {o1 : Option Value} {x2 : Int32} {o3 : Option Value} {o4 : Option Value} {x5 : Int32} {x6 : Int32} {o7 : Option Value} {o8 : Option Value} {o9 : Option Value} {o10 : Option Value} {o11 : Option Value} {M : Mem} (hW : Wf M) (h : (x5 = (-2 : Int32) → K (some (.int (0 : Int32))) M) ∧ (¬ x5 = (-2 : Int32) → ((¬ x6 = x2 → K (some (.int (2 : Int32))) M) ∧ (x6 = x2 → K (some (.int (0 : Int32))) M)))) : G 207 [o0, o1, some (.int x2), o3, o4, some (.int x5), some (.int x6), o7, o8, o9, o10, o11] [] M :=
  (hc.2.2.2.2.2.2.2.2.2.2.2.2.2.2.2.2.2.2.2.2.2.2.2.2.2.2.2.2.2.2.2.2.2.2.2.2.2.2.2.1 _ _ _ (i_iload rfl (i_ic (i_icmp_eq (fun q1832 => (hc.2.2.2.2.2.2.2.2.2.2.2.2.2.2.2.2.2.2.2.2.2.2.2.2.2.2.2.2.2.2.2.2.2.2.2.2.2.2.2.2.2.1 _ _ _ (i_ic (hc.2.2.2.2.2.2.2.2.2.2.2.2.2.2.2.2.2.2.2.2.2.2.2.2.2.2.2.2.2.2.2.2.2.2.2.2.2.2.2.2.2.2.2 _ _ _ (i_iret hW.1 (h.1 q1832)))))) (fun q1832 => (hc.2.2.2.2.2.2.2.2.2.2.2.2.2.2.2.2.2.2.2.2.2.2.2.2.2.2.2.2.2.2.2.2.2.2.2.2.2.2.2.2.1 _ _ _ (i_iload rfl (i_iload rfl (i_icmp_ne (fun q1833 => (hc.2.2.2.2.2.2.2.2.2.2.2.2.2.2.2.2.2.2.2.2.2.2.2.2.2.2.2.2.2.2.2.2.2.2.2.2.2.2.2.2.2.2.1 _ _ _ (i_ic (hc.2.2.2.2.2.2.2.2.2.2.2.2.2.2.2.2.2.2.2.2.2.2.2.2.2.2.2.2.2.2.2.2.2.2.2.2.2.2.2.2.2.2.2 _ _ _ (i_iret hW.1 ((h.2 q1832).1 q1833)))))) (fun q1833 => (hc.2.2.2.2.2.2.2.2.2.2.2.2.2.2.2.2.2.2.2.2.2.2.2.2.2.2.2.2.2.2.2.2.2.2.2.2.2.2.2.2.2.1 _ _ _ (i_ic (hc.2.2.2.2.2.2.2.2.2.2.2.2.2.2.2.2.2.2.2.2.2.2.2.2.2.2.2.2.2.2.2.2.2.2.2.2.2.2.2.2.2.2.2 _ _ _ (i_iret hW.1 ((h.2 q1832).2 q1833)))))))))))))))
theorem wX13_judged {x0 : Int32} {x1 : Int32} {x2 : Int32} {x3 : Int32} {x4 : Int32} {x5 : Int32} {x6 : Int32} {M : Mem} {K : RT} (hW : Wf M) (h : ∀ {G : Nat → KT}, cloX13_judged G K wT → G 6 [some (.int x0), some (.int x1), some (.int x2), some (.int x3), some (.int x4), some (.int x5), some (.int x6), some (.int (1 : Int32)), some (.int (0 : Int32)), none, none, none] [] M) : sp_X13_judged [.int x0, .int x1, .int x2, .int x3, .int x4, .int x5, .int x6] M K := by
  refine ⟨Nat.le_of_ble_eq_true rfl, fun G hc => ?_⟩
  rw [hW.1] at hc
  exact eX13_judged hc hW  (h hc)
set_option maxRecDepth 100000 in
theorem eX13_kindAt {G : Nat → KT} {K : RT} (hc : cloX13_kindAt G K wT) {x1 : Int32} {M : Mem} (hW : Wf M) (h : (0 ≤ x1 → ((vp_in x1 8) ∧ K (some (.int (gI M 624 (x1).toNatClampNeg))) M)) ∧ (¬ 0 ≤ x1 → K (some (.int (-2 : Int32))) M)) : G 0 [some (.ref 605), some (.int x1)] [] M :=
  (hc.1 _ _ _ (i_iload rfl (i_if_ge (fun q1834 => (hc.2.2.1 _ _ _ (i_aload rfl (i_getR (okS hW Sk_605) (nv_605_34 hW) (i_iload rfl (i_iald hW Ss_624 (h.1 q1834).1 (hc.2.2.2 _ _ _ (i_iret hW.1 (h.1 q1834).2)))))))) (fun q1834 => (hc.2.1 _ _ _ (i_ic (hc.2.2.2 _ _ _ (i_iret hW.1 (h.2 q1834)))))))))
theorem wX13_kindAt {x1 : Int32} {M : Mem} {K : RT} (hW : Wf M) (h : (0 ≤ x1 → ((vp_in x1 8) ∧ K (some (.int (gI M 624 (x1).toNatClampNeg))) M)) ∧ (¬ 0 ≤ x1 → K (some (.int (-2 : Int32))) M)) : sp_X13_kindAt [.ref 605, .int x1] M K := by
  refine ⟨Nat.le_of_ble_eq_true rfl, fun G hc => ?_⟩
  rw [hW.1] at hc
  exact eX13_kindAt hc hW  h
noncomputable def f_X13_kindAt (x1 : Int32) (M : Mem) : Int32 := (if 0 ≤ x1 then (gI M 624 (x1).toNatClampNeg) else (-2 : Int32))
def q_X13_kindAt (x1 : Int32) (M : Mem) : Prop := (0 ≤ x1 → (vp_in x1 8))
theorem c_X13_kindAt {x1 : Int32} {M : Mem} {K : RT} (hW : Wf M) (hp : q_X13_kindAt x1 M) (h : K (some (.int (f_X13_kindAt x1 M))) M) : sp_X13_kindAt [.ref 605, .int x1] M K := by
  refine wX13_kindAt hW  ?_
  unfold f_X13_kindAt at h
  unfold q_X13_kindAt at hp
  refine ⟨fun q0 => ?_, fun q0 => ?_⟩
  · have hq0 := hp q0
    try simp only [if_pos q0] at h
    refine ⟨hq0, ?_⟩
    first | exact h | contradiction
  · skip
    try simp only [if_neg q0] at h
    first | exact h | contradiction
set_option maxRecDepth 100000 in
theorem eX13_lengthAt {G : Nat → KT} {K : RT} (hc : cloX13_lengthAt G K wT) {x1 : Int32} {M : Mem} (hW : Wf M) (h : (0 ≤ x1 → ((vp_in x1 8) ∧ K (some (.int (gI M 625 (x1).toNatClampNeg))) M)) ∧ (¬ 0 ≤ x1 → K (some (.int (0 : Int32))) M)) : G 0 [some (.ref 605), some (.int x1)] [] M :=
  (hc.1 _ _ _ (i_iload rfl (i_if_ge (fun q1835 => (hc.2.2.1 _ _ _ (i_aload rfl (i_getR (okS hW Sk_605) (nv_605_35 hW) (i_iload rfl (i_iald hW Ss_625 (h.1 q1835).1 (hc.2.2.2 _ _ _ (i_iret hW.1 (h.1 q1835).2)))))))) (fun q1835 => (hc.2.1 _ _ _ (i_ic (hc.2.2.2 _ _ _ (i_iret hW.1 (h.2 q1835)))))))))
theorem wX13_lengthAt {x1 : Int32} {M : Mem} {K : RT} (hW : Wf M) (h : (0 ≤ x1 → ((vp_in x1 8) ∧ K (some (.int (gI M 625 (x1).toNatClampNeg))) M)) ∧ (¬ 0 ≤ x1 → K (some (.int (0 : Int32))) M)) : sp_X13_lengthAt [.ref 605, .int x1] M K := by
  refine ⟨Nat.le_of_ble_eq_true rfl, fun G hc => ?_⟩
  rw [hW.1] at hc
  exact eX13_lengthAt hc hW  h
noncomputable def f_X13_lengthAt (x1 : Int32) (M : Mem) : Int32 := (if 0 ≤ x1 then (gI M 625 (x1).toNatClampNeg) else (0 : Int32))
def q_X13_lengthAt (x1 : Int32) (M : Mem) : Prop := (0 ≤ x1 → (vp_in x1 8))
theorem c_X13_lengthAt {x1 : Int32} {M : Mem} {K : RT} (hW : Wf M) (hp : q_X13_lengthAt x1 M) (h : K (some (.int (f_X13_lengthAt x1 M))) M) : sp_X13_lengthAt [.ref 605, .int x1] M K := by
  refine wX13_lengthAt hW  ?_
  unfold f_X13_lengthAt at h
  unfold q_X13_lengthAt at hp
  refine ⟨fun q0 => ?_, fun q0 => ?_⟩
  · have hq0 := hp q0
    try simp only [if_pos q0] at h
    refine ⟨hq0, ?_⟩
    first | exact h | contradiction
  · skip
    try simp only [if_neg q0] at h
    first | exact h | contradiction
def RX13_judgedNow_0_3 (G : Nat → KT) (K : RT) : KT := (w_istore 2 (w_aload 0 (w_iload 1 (w_ic 1 (w_callV 10 3 sp_X13_registerOf (w_istore 3 (w_aload 0 (w_iload 1 (w_ic 2 (w_callV 10 3 sp_X13_registerOf (w_istore 4 (w_aload 0 (w_getf 10 24 3 (w_iload 1 (w_iald (w_if_ne (G 35) (G 31)))))))))))))))))
def RX13_judgedNow_0_8 (G : Nat → KT) (K : RT) : KT := (w_istore 3 (w_aload 0 (w_iload 1 (w_ic 2 (w_callV 10 3 sp_X13_registerOf (w_istore 4 (w_aload 0 (w_getf 10 24 3 (w_iload 1 (w_iald (w_if_ne (G 35) (G 31))))))))))))
def RX13_judgedNow_0_13 (G : Nat → KT) (K : RT) : KT := (w_istore 4 (w_aload 0 (w_getf 10 24 3 (w_iload 1 (w_iald (w_if_ne (G 35) (G 31)))))))
def RX13_judgedNow_35_22 (G : Nat → KT) (K : RT) : KT := (G 76)
set_option maxRecDepth 100000 in
theorem eX13_judgedNow {G : Nat → KT} {K : RT} (hc : cloX13_judgedNow G K wT) {x1 : Int32} {M : Mem} (hW : Wf M) (h : sp_X13_registerOf [.ref 605, .int x1, .int (0 : Int32)] M (fun v M' => RX13_judgedNow_0_3 G K [some (.ref 605), some (.int x1), none, none, none] (v.toList ++ []) M')) : G 0 [some (.ref 605), some (.int x1), none, none, none] [] M :=
  (hc.1 _ _ _ (i_aload rfl (i_iload rfl (i_ic (i_callV3 (Nat.le_of_ble_eq_true rfl) (okS hW Sk_605) h)))))
set_option maxRecDepth 100000 in
theorem rX13_judgedNow_0_3 {G : Nat → KT} {K : RT} (hc : cloX13_judgedNow G K wT) {x1 : Int32} {o2 : Option Value} {o3 : Option Value} {o4 : Option Value} {y : Int32} {M : Mem} (hW : Wf M) (h : sp_X13_registerOf [.ref 605, .int x1, .int (1 : Int32)] M (fun v M' => RX13_judgedNow_0_8 G K [some (.ref 605), some (.int x1), some (.int y), o3, o4] (v.toList ++ []) M')) : RX13_judgedNow_0_3 G K [some (.ref 605), some (.int x1), o2, o3, o4] (Option.toList (some (.int y)) ++ []) M :=
  (i_rI (i_istore (Nat.le_of_ble_eq_true rfl) (i_aload rfl (i_iload rfl (i_ic (i_callV3 (Nat.le_of_ble_eq_true rfl) (okS hW Sk_605) h))))))
set_option maxRecDepth 100000 in
theorem rX13_judgedNow_0_8 {G : Nat → KT} {K : RT} (hc : cloX13_judgedNow G K wT) {x1 : Int32} {x2 : Int32} {o3 : Option Value} {o4 : Option Value} {y : Int32} {M : Mem} (hW : Wf M) (h : sp_X13_registerOf [.ref 605, .int x1, .int (2 : Int32)] M (fun v M' => RX13_judgedNow_0_13 G K [some (.ref 605), some (.int x1), some (.int x2), some (.int y), o4] (v.toList ++ []) M')) : RX13_judgedNow_0_8 G K [some (.ref 605), some (.int x1), some (.int x2), o3, o4] (Option.toList (some (.int y)) ++ []) M :=
  (i_rI (i_istore (Nat.le_of_ble_eq_true rfl) (i_aload rfl (i_iload rfl (i_ic (i_callV3 (Nat.le_of_ble_eq_true rfl) (okS hW Sk_605) h))))))
set_option maxRecDepth 100000 in
theorem rX13_judgedNow_0_13 {G : Nat → KT} {K : RT} (hc : cloX13_judgedNow G K wT) {x1 : Int32} {x2 : Int32} {x3 : Int32} {o4 : Option Value} {y : Int32} {M : Mem} (hW : Wf M) (h : (vp_in x1 100) ∧ ((¬ (gI M 618 (x1).toNatClampNeg) = 0 → ((vp_in x1 100) ∧ ((q_X13_kindAt x2 M) ∧ ((q_X13_lengthAt x2 M) ∧ ((q_X13_kindAt x3 M) ∧ ((q_X13_lengthAt x3 M) ∧ ((q_X13_kindAt y M) ∧ ((q_X13_lengthAt y M) ∧ sp_X13_judged [.int (gI M 618 (x1).toNatClampNeg), .int (f_X13_kindAt x2 M), .int (f_X13_lengthAt x2 M), .int (f_X13_kindAt x3 M), .int (f_X13_lengthAt x3 M), .int (f_X13_kindAt y M), .int (f_X13_lengthAt y M)] M (fun v M' => RX13_judgedNow_35_22 G K [some (.ref 605), some (.int x1), some (.int x2), some (.int x3), some (.int y)] (v.toList ++ []) M'))))))))) ∧ ((gI M 618 (x1).toNatClampNeg) = 0 → K (some (.int (0 : Int32))) M))) : RX13_judgedNow_0_13 G K [some (.ref 605), some (.int x1), some (.int x2), some (.int x3), o4] (Option.toList (some (.int y)) ++ []) M :=
  (i_rI (i_istore (Nat.le_of_ble_eq_true rfl) (i_aload rfl (i_getR (okS hW Sk_605) (nv_605_24 hW) (i_iload rfl (i_iald hW Ss_618 h.1 (i_if_ne (fun q1837 => (hc.2.2.1 _ _ _ (i_aload rfl (i_getR (okS hW Sk_605) (nv_605_24 hW) (i_iload rfl (i_iald hW Ss_618 (h.2.1 q1837).1 (i_aload rfl (i_iload rfl (i_callV2 (Nat.le_of_ble_eq_true rfl) (okS hW Sk_605) (c_X13_kindAt hW  (h.2.1 q1837).2.1 (i_rI (i_aload rfl (i_iload rfl (i_callV2 (Nat.le_of_ble_eq_true rfl) (okS hW Sk_605) (c_X13_lengthAt hW  (h.2.1 q1837).2.2.1 (i_rI (i_aload rfl (i_iload rfl (i_callV2 (Nat.le_of_ble_eq_true rfl) (okS hW Sk_605) (c_X13_kindAt hW  (h.2.1 q1837).2.2.2.1 (i_rI (i_aload rfl (i_iload rfl (i_callV2 (Nat.le_of_ble_eq_true rfl) (okS hW Sk_605) (c_X13_lengthAt hW  (h.2.1 q1837).2.2.2.2.1 (i_rI (i_aload rfl (i_iload rfl (i_callV2 (Nat.le_of_ble_eq_true rfl) (okS hW Sk_605) (c_X13_kindAt hW  (h.2.1 q1837).2.2.2.2.2.1 (i_rI (i_aload rfl (i_iload rfl (i_callV2 (Nat.le_of_ble_eq_true rfl) (okS hW Sk_605) (c_X13_lengthAt hW  (h.2.1 q1837).2.2.2.2.2.2.1 (i_rI (i_callS7 (Nat.le_of_ble_eq_true rfl) (h.2.1 q1837).2.2.2.2.2.2.2))))))))))))))))))))))))))))))))))))) (fun q1837 => (hc.2.1 _ _ _ (i_ic (hc.2.2.2 _ _ _ (i_iret hW.1 (h.2.2 q1837)))))))))))))
set_option maxRecDepth 100000 in
theorem rX13_judgedNow_35_22 {G : Nat → KT} {K : RT} (hc : cloX13_judgedNow G K wT) {o0 : Option Value} {o1 : Option Value} {o2 : Option Value} {o3 : Option Value} {o4 : Option Value} {y : Int32} {M : Mem} (hW : Wf M) (h : K (some (.int y)) M) : RX13_judgedNow_35_22 G K [o0, o1, o2, o3, o4] (Option.toList (some (.int y)) ++ []) M :=
  (i_rI (hc.2.2.2 _ _ _ (i_iret hW.1 h)))
theorem wX13_judgedNow {x1 : Int32} {M : Mem} {K : RT} (hW : Wf M) (h : ∀ {G : Nat → KT}, cloX13_judgedNow G K wT → sp_X13_registerOf [.ref 605, .int x1, .int (0 : Int32)] M (fun v M' => RX13_judgedNow_0_3 G K [some (.ref 605), some (.int x1), none, none, none] (v.toList ++ []) M')) : sp_X13_judgedNow [.ref 605, .int x1] M K := by
  refine ⟨Nat.le_of_ble_eq_true rfl, fun G hc => ?_⟩
  rw [hW.1] at hc
  exact eX13_judgedNow hc hW  (h hc)
end D02
