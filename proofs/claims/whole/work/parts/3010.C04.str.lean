section C04
set_option maxRecDepth 100000 in
theorem eJ3_checkIndex_8e157 {G : Nat → KT} {K : RT} (hc : cloJ3_checkIndex_8e157 G K wT) {x0 : Int32} {x1 : Int32} {x2 : Nat} {M : Mem} (hW : Wf M) (h : (x0 < 0 → False) ∧ (¬ x0 < 0 → ((x0 < x1 → K (some (.int x0)) M) ∧ (¬ x0 < x1 → False)))) : G 0 [some (.int x0), some (.int x1), some (.ref x2)] [] M :=
  (hc.1 _ _ _ (i_iload rfl (i_if_lt (fun q83 => (hc.2.2.1 _ _ _ (i_aload rfl (i_iload rfl (i_iload rfl (h.1 q83)))))) (fun q83 => (hc.2.1 _ _ _ (i_iload rfl (i_iload rfl (i_icmp_lt (fun q84 => (hc.2.2.2 _ _ _ (i_iload rfl (i_iret hW.1 ((h.2 q83).1 q84))))) (fun q84 => (hc.2.2.1 _ _ _ (i_aload rfl (i_iload rfl (i_iload rfl ((h.2 q83).2 q84))))))))))))))
theorem wJ3_checkIndex_8e157 {x0 : Int32} {x1 : Int32} {x2 : Nat} {M : Mem} {K : RT} (hW : Wf M) (h : (x0 < 0 → False) ∧ (¬ x0 < 0 → ((x0 < x1 → K (some (.int x0)) M) ∧ (¬ x0 < x1 → False)))) : sp_J3_checkIndex_8e157 [.int x0, .int x1, .ref x2] M K := by
  refine ⟨Nat.le_of_ble_eq_true rfl, fun G hc => ?_⟩
  rw [hW.1] at hc
  exact eJ3_checkIndex_8e157 hc hW  h
set_option maxRecDepth 100000 in
theorem eJ3_checkIndex_8e157N {G : Nat → KT} {K : RT} (hc : cloJ3_checkIndex_8e157 G K wT) {x0 : Int32} {x1 : Int32} {M : Mem} (hW : Wf M) (h : (x0 < 0 → False) ∧ (¬ x0 < 0 → ((x0 < x1 → K (some (.int x0)) M) ∧ (¬ x0 < x1 → False)))) : G 0 [some (.int x0), some (.int x1), some .null] [] M :=
  (hc.1 _ _ _ (i_iload rfl (i_if_lt (fun q2495 => (hc.2.2.1 _ _ _ (False.elim (h.1 q2495)))) (fun q2495 => (hc.2.1 _ _ _ (i_iload rfl (i_iload rfl (i_icmp_lt (fun q2496 => (hc.2.2.2 _ _ _ (i_iload rfl (i_iret hW.1 ((h.2 q2495).1 q2496))))) (fun q2496 => (hc.2.2.1 _ _ _ (False.elim ((h.2 q2495).2 q2496))))))))))))
theorem wJ3_checkIndex_8e157N {x0 : Int32} {x1 : Int32} {M : Mem} {K : RT} (hW : Wf M) (h : (x0 < 0 → False) ∧ (¬ x0 < 0 → ((x0 < x1 → K (some (.int x0)) M) ∧ (¬ x0 < x1 → False)))) : sp_J3_checkIndex_8e157 [.int x0, .int x1, .null] M K := by
  refine ⟨Nat.le_of_ble_eq_true rfl, fun G hc => ?_⟩
  rw [hW.1] at hc
  exact eJ3_checkIndex_8e157N hc hW  h
set_option maxRecDepth 100000 in
theorem eJ0_coder_7d493 {G : Nat → KT} {K : RT} (hc : cloJ0_coder_7d493 G K wT) {x0 : Nat} {M : Mem} (hW : Wf M) (hx0 : isTx x0) (h : K (some (.int (0 : Int32))) M) : G 0 [some (.ref x0)] [] M :=
  (hc.1 _ _ _ (i_ic (i_if_eq (fun q => absurd q (by decide)) (fun _ => (hc.2.1 _ _ _ (i_aload rfl (i_strcoder hx0 (hc.2.2.2 _ _ _ (i_bret (by decide) hW.1 h)))))))))
theorem wJ0_coder_7d493 {x0 : Nat} {M : Mem} {K : RT} (hW : Wf M) (hx0 : isTx x0) (h : K (some (.int (0 : Int32))) M) : sp_J0_coder_7d493 [.ref x0] M K := by
  refine ⟨Nat.le_of_ble_eq_true rfl, fun G hc => ?_⟩
  rw [hW.1] at hc
  exact eJ0_coder_7d493 hc hW hx0 h
noncomputable def f_J0_coder_7d493 (x0 : Nat) : Int32 := (0 : Int32)
theorem c_J0_coder_7d493 {x0 : Nat} {M : Mem} {K : RT} (hW : Wf M) (hx0 : isTx x0) (h : K (some (.int (f_J0_coder_7d493 x0))) M) : sp_J0_coder_7d493 [.ref x0] M K := by
  refine wJ0_coder_7d493 hW hx0 ?_
  unfold f_J0_coder_7d493 at h
  first | exact h | contradiction
set_option maxRecDepth 100000 in
theorem eJ0_length_8abf5 {G : Nat → KT} {K : RT} (hc : cloJ0_length_8abf5 G K wT) {x0 : Nat} {M : Mem} (hW : Wf M) (hx0 : isTx x0) (h : K (some (.int ((Int32.ofNat (tBy.getD ((x0 + 200) - 100400) []).length) >>> ((f_J0_coder_7d493 x0) &&& 31)))) M) : G 0 [some (.ref x0)] [] M :=
  (hc _ _ _ (i_aload rfl (i_strvalue hx0 (i_strlen (isBy_of hx0) (i_aload rfl (i_callT1 (Nat.le_of_ble_eq_true rfl) hx0 (c_J0_coder_7d493 hW hx0 (i_rI (i_ishr (i_iret hW.1 h))))))))))
theorem wJ0_length_8abf5 {x0 : Nat} {M : Mem} {K : RT} (hW : Wf M) (hx0 : isTx x0) (h : K (some (.int ((Int32.ofNat (tBy.getD ((x0 + 200) - 100400) []).length) >>> ((f_J0_coder_7d493 x0) &&& 31)))) M) : sp_J0_length_8abf5 [.ref x0] M K := by
  refine ⟨Nat.le_of_ble_eq_true rfl, fun G hc => ?_⟩
  rw [hW.1] at hc
  exact eJ0_length_8abf5 hc hW hx0 h
noncomputable def f_J0_length_8abf5 (x0 : Nat) : Int32 := ((Int32.ofNat (tBy.getD ((x0 + 200) - 100400) []).length) >>> ((f_J0_coder_7d493 x0) &&& 31))
theorem c_J0_length_8abf5 {x0 : Nat} {M : Mem} {K : RT} (hW : Wf M) (hx0 : isTx x0) (h : K (some (.int (f_J0_length_8abf5 x0))) M) : sp_J0_length_8abf5 [.ref x0] M K := by
  refine wJ0_length_8abf5 hW hx0 ?_
  unfold f_J0_length_8abf5 at h
  first | exact h | contradiction
set_option maxRecDepth 100000 in
theorem eJ0_isLatin1_aae02 {G : Nat → KT} {K : RT} (hc : cloJ0_isLatin1_aae02 G K wT) {x0 : Nat} {M : Mem} (hW : Wf M) (hx0 : isTx x0) (h : K (some (.int (1 : Int32))) M) : G 0 [some (.ref x0)] [] M :=
  (hc.1 _ _ _ (i_ic (i_if_eq (fun q => absurd q (by decide)) (fun _ => (hc.2.1 _ _ _ (i_aload rfl (i_strcoder hx0 (i_if_ne (fun q => absurd q (by decide)) (fun _ => (hc.2.2.1 _ _ _ (i_ic (hc.2.2.2.2 _ _ _ (i_zret (by decide) hW.1 h)))))))))))))
theorem wJ0_isLatin1_aae02 {x0 : Nat} {M : Mem} {K : RT} (hW : Wf M) (hx0 : isTx x0) (h : K (some (.int (1 : Int32))) M) : sp_J0_isLatin1_aae02 [.ref x0] M K := by
  refine ⟨Nat.le_of_ble_eq_true rfl, fun G hc => ?_⟩
  rw [hW.1] at hc
  exact eJ0_isLatin1_aae02 hc hW hx0 h
def P_J0_isLatin1_aae02 (x0 : Nat) : Prop := True
theorem c_J0_isLatin1_aae02 {x0 : Nat} {M : Mem} {K : RT} (hW : Wf M) (hx0 : isTx x0) (h : K (some (.int (pI (P_J0_isLatin1_aae02 x0)))) M) : sp_J0_isLatin1_aae02 [.ref x0] M K := by
  refine wJ0_isLatin1_aae02 hW hx0 ?_
  unfold P_J0_isLatin1_aae02 at h
  exact pI_goT h (by simp only [not_true_eq_false, not_false_eq_true, true_and, false_and, and_true, and_false, true_or, or_true, false_or, or_false, iff_self])
def RJ1_charAt_3b067_0_3 (G : Nat → KT) (K : RT) : KT := (w_aload 0 (w_iload 1 (w_strld (w_ic 255 (w_iand (w_i2c (w_cret wT K)))))))
set_option maxRecDepth 100000 in
theorem eJ1_charAt_3b067 {G : Nat → KT} {K : RT} (hc : cloJ1_charAt_3b067 G K wT) {x0 : Nat} {x1 : Int32} {M : Mem} (hW : Wf M) (hx0 : isBy x0) (h : sp_J0_checkIndex_df160 [.int x1, .int (Int32.ofNat (tBy.getD (x0 - 100400) []).length)] M (fun v M' => RJ1_charAt_3b067_0_3 G K [some (.ref x0), some (.int x1)] (v.toList ++ []) M')) : G 0 [some (.ref x0), some (.int x1)] [] M :=
  (hc _ _ _ (i_iload rfl (i_aload rfl (i_strlen hx0 (i_callS2 (Nat.le_of_ble_eq_true rfl) h)))))
set_option maxRecDepth 100000 in
theorem rJ1_charAt_3b067_0_3 {G : Nat → KT} {K : RT} (hc : cloJ1_charAt_3b067 G K wT) {x0 : Nat} {x1 : Int32} {M : Mem} (hW : Wf M) (hx0 : isBy x0) (h : (vp_in x1 (tBy.getD (x0 - 100400) []).length) ∧ ((0 ≤ ((((Int32.ofNat ((tBy.getD (x0 - 100400) []).getD (x1).toNatClampNeg 0)) &&& (255 : Int32)).toUInt32 % 65536).toInt32) ∧ ((((Int32.ofNat ((tBy.getD (x0 - 100400) []).getD (x1).toNatClampNeg 0)) &&& (255 : Int32)).toUInt32 % 65536).toInt32) < 65536) ∧ K (some (.int ((((Int32.ofNat ((tBy.getD (x0 - 100400) []).getD (x1).toNatClampNeg 0)) &&& (255 : Int32)).toUInt32 % 65536).toInt32))) M)) : RJ1_charAt_3b067_0_3 G K [some (.ref x0), some (.int x1)] (Option.toList none ++ []) M :=
  (i_rN (i_aload rfl (i_iload rfl (i_strld hx0 h.1 (i_ic (i_iand (i_i2c (i_cret h.2.1 hW.1 h.2.2))))))))
theorem wJ1_charAt_3b067 {x0 : Nat} {x1 : Int32} {M : Mem} {K : RT} (hW : Wf M) (hx0 : isBy x0) (h : ∀ {G : Nat → KT}, cloJ1_charAt_3b067 G K wT → sp_J0_checkIndex_df160 [.int x1, .int (Int32.ofNat (tBy.getD (x0 - 100400) []).length)] M (fun v M' => RJ1_charAt_3b067_0_3 G K [some (.ref x0), some (.int x1)] (v.toList ++ []) M')) : sp_J1_charAt_3b067 [.ref x0, .int x1] M K := by
  refine ⟨Nat.le_of_ble_eq_true rfl, fun G hc => ?_⟩
  rw [hW.1] at hc
  exact eJ1_charAt_3b067 hc hW hx0 (h hc)
def RJ0_charAt_5068e_7_3 (G : Nat → KT) (K : RT) : KT := (w_cret wT K)
set_option maxRecDepth 100000 in
theorem eJ0_charAt_5068e {G : Nat → KT} {K : RT} (hc : cloJ0_charAt_5068e G K wT) {x0 : Nat} {x1 : Int32} {M : Mem} (hW : Wf M) (hx0 : isTx x0) (h : (¬ (P_J0_isLatin1_aae02 x0) → False) ∧ ((P_J0_isLatin1_aae02 x0) → sp_J1_charAt_3b067 [.ref (x0 + 200), .int x1] M (fun v M' => RJ0_charAt_5068e_7_3 G K [some (.ref x0), some (.int x1)] (v.toList ++ []) M'))) : G 0 [some (.ref x0), some (.int x1)] [] M :=
  (hc.1 _ _ _ (i_aload rfl (i_callT1 (Nat.le_of_ble_eq_true rfl) hx0 (c_J0_isLatin1_aae02 hW hx0 (i_rI (i_bI_eq (fun q86 => (hc.2.2 _ _ _ (i_aload rfl (i_strvalue hx0 (i_iload rfl (h.1 q86)))))) (fun q86 => (hc.2.1 _ _ _ (i_aload rfl (i_strvalue hx0 (i_iload rfl (i_callS2 (Nat.le_of_ble_eq_true rfl) (h.2 q86)))))))))))))
set_option maxRecDepth 100000 in
theorem rJ0_charAt_5068e_7_3 {G : Nat → KT} {K : RT} (hc : cloJ0_charAt_5068e G K wT) {o0 : Option Value} {o1 : Option Value} {y : Int32} {M : Mem} (hW : Wf M) (h : (0 ≤ y ∧ y < 65536) ∧ K (some (.int y)) M) : RJ0_charAt_5068e_7_3 G K [o0, o1] (Option.toList (some (.int y)) ++ []) M :=
  (i_rI (i_cret h.1 hW.1 h.2))
theorem wJ0_charAt_5068e {x0 : Nat} {x1 : Int32} {M : Mem} {K : RT} (hW : Wf M) (hx0 : isTx x0) (h : ∀ {G : Nat → KT}, cloJ0_charAt_5068e G K wT → (¬ (P_J0_isLatin1_aae02 x0) → False) ∧ ((P_J0_isLatin1_aae02 x0) → sp_J1_charAt_3b067 [.ref (x0 + 200), .int x1] M (fun v M' => RJ0_charAt_5068e_7_3 G K [some (.ref x0), some (.int x1)] (v.toList ++ []) M'))) : sp_J0_charAt_5068e [.ref x0, .int x1] M K := by
  refine ⟨Nat.le_of_ble_eq_true rfl, fun G hc => ?_⟩
  rw [hW.1] at hc
  exact eJ0_charAt_5068e hc hW hx0 (h hc)
set_option maxRecDepth 100000 in
theorem eJ1_canEncode_9a6ad {G : Nat → KT} {K : RT} (hc : cloJ1_canEncode_9a6ad G K wT) {x0 : Int32} {M : Mem} (hW : Wf M) (h : (x0 < 0 → K (some (.int (0 : Int32))) M) ∧ (¬ x0 < 0 → (((255 : Int32) < x0 → K (some (.int (0 : Int32))) M) ∧ (¬ (255 : Int32) < x0 → K (some (.int (1 : Int32))) M)))) : G 0 [some (.int x0)] [] M :=
  (hc.1 _ _ _ (i_iload rfl (i_if_lt (fun q114 => (hc.2.2.2.1 _ _ _ (i_ic (hc.2.2.2.2 _ _ _ (i_zret (by decide) hW.1 (h.1 q114)))))) (fun q114 => (hc.2.1 _ _ _ (i_iload rfl (i_ic (i_icmp_gt (fun q115 => (hc.2.2.2.1 _ _ _ (i_ic (hc.2.2.2.2 _ _ _ (i_zret (by decide) hW.1 ((h.2 q114).1 q115)))))) (fun q115 => (hc.2.2.1 _ _ _ (i_ic (hc.2.2.2.2 _ _ _ (i_zret (by decide) hW.1 ((h.2 q114).2 q115))))))))))))))
theorem wJ1_canEncode_9a6ad {x0 : Int32} {M : Mem} {K : RT} (hW : Wf M) (h : (x0 < 0 → K (some (.int (0 : Int32))) M) ∧ (¬ x0 < 0 → (((255 : Int32) < x0 → K (some (.int (0 : Int32))) M) ∧ (¬ (255 : Int32) < x0 → K (some (.int (1 : Int32))) M)))) : sp_J1_canEncode_9a6ad [.int x0] M K := by
  refine ⟨Nat.le_of_ble_eq_true rfl, fun G hc => ?_⟩
  rw [hW.1] at hc
  exact eJ1_canEncode_9a6ad hc hW  h
def P_J1_canEncode_9a6ad (x0 : Int32) : Prop := ((¬ x0 < 0) ∧ (¬ (255 : Int32) < x0))
theorem c_J1_canEncode_9a6ad {x0 : Int32} {M : Mem} {K : RT} (hW : Wf M) (h : K (some (.int (pI (P_J1_canEncode_9a6ad x0)))) M) : sp_J1_canEncode_9a6ad [.int x0] M K := by
  refine wJ1_canEncode_9a6ad hW  ?_
  unfold P_J1_canEncode_9a6ad at h
  refine ⟨fun q0 => ?_, fun q0 => ?_⟩
  · skip
    exact pI_goF h (by simp only [eq_true q0, not_true_eq_false, not_false_eq_true, true_and, false_and, and_true, and_false, true_or, or_true, false_or, or_false, iff_self])
  · skip
    refine ⟨fun q1 => ?_, fun q1 => ?_⟩
    · skip
      exact pI_goF h (by simp only [eq_false q0, eq_true q1, not_true_eq_false, not_false_eq_true, true_and, false_and, and_true, and_false, true_or, or_true, false_or, or_false, iff_self])
    · skip
      exact pI_goT h (by simp only [eq_false q0, eq_false q1, not_true_eq_false, not_false_eq_true, true_and, false_and, and_true, and_false, true_or, or_true, false_or, or_false, iff_self])
set_option maxRecDepth 100000 in
theorem eJ1_indexOfChar_4cfef {G : Nat → KT} {K : RT} (hc : cloJ1_indexOfChar_4cfef G K wT) {x0 : Nat} {x1 : Int32} {x2 : Int32} {x3 : Int32} {M : Mem} (hW : Wf M) (hx0 : isBy x0) (h : G 7 [some (.ref x0), some (.int x1), some (.int x2), some (.int x3), some (.int (x1.toInt8.toInt32)), some (.int x2)] [] M) : G 0 [some (.ref x0), some (.int x1), some (.int x2), some (.int x3), none, none] [] M :=
  (hc.1 _ _ _ (i_iload rfl (i_i2b (i_istore (Nat.le_of_ble_eq_true rfl) (i_iload rfl (i_istore (Nat.le_of_ble_eq_true rfl) h))))))
set_option maxRecDepth 100000 in
theorem eJ1_indexOfChar_4cfef_7 {G : Nat → KT} {K : RT} (hc : cloJ1_indexOfChar_4cfef G K wT) {x0 : Nat} {o1 : Option Value} {o2 : Option Value} {x3 : Int32} {x4 : Int32} {x5 : Int32} {M : Mem} (hW : Wf M) (hx0 : isBy x0) (h : (x3 ≤ x5 → K (some (.int (-1 : Int32))) M) ∧ (¬ x3 ≤ x5 → ((vp_in x5 (tBy.getD (x0 - 100400) []).length) ∧ ((¬ (Int32.ofNat ((tBy.getD (x0 - 100400) []).getD (x5).toNatClampNeg 0)) = x4 → G 7 [some (.ref x0), o1, o2, some (.int x3), some (.int x4), some (.int (x5 + (1 : Int32)))] [] M) ∧ ((Int32.ofNat ((tBy.getD (x0 - 100400) []).getD (x5).toNatClampNeg 0)) = x4 → K (some (.int x5)) M))))) : G 7 [some (.ref x0), o1, o2, some (.int x3), some (.int x4), some (.int x5)] [] M :=
  (hc.2.1 _ _ _ (i_iload rfl (i_iload rfl (i_icmp_ge (fun q120 => (hc.2.2.2.2.2 _ _ _ (i_ic (i_iret hW.1 (h.1 q120))))) (fun q120 => (hc.2.2.1 _ _ _ (i_aload rfl (i_iload rfl (i_strld hx0 (h.2 q120).1 (i_iload rfl (i_icmp_ne (fun q121 => (hc.2.2.2.2.1 _ _ _ (i_iinc rfl ((h.2 q120).2.1 q121)))) (fun q121 => (hc.2.2.2.1 _ _ _ (i_iload rfl (i_iret hW.1 ((h.2 q120).2.2 q121))))))))))))))))
theorem wJ1_indexOfChar_4cfef {x0 : Nat} {x1 : Int32} {x2 : Int32} {x3 : Int32} {M : Mem} {K : RT} (hW : Wf M) (hx0 : isBy x0) (h : ∀ {G : Nat → KT}, cloJ1_indexOfChar_4cfef G K wT → G 7 [some (.ref x0), some (.int x1), some (.int x2), some (.int x3), some (.int (x1.toInt8.toInt32)), some (.int x2)] [] M) : sp_J1_indexOfChar_4cfef [.ref x0, .int x1, .int x2, .int x3] M K := by
  refine ⟨Nat.le_of_ble_eq_true rfl, fun G hc => ?_⟩
  rw [hW.1] at hc
  exact eJ1_indexOfChar_4cfef hc hW hx0 (h hc)
def RJ1_indexOf_4cfef_29_4 (G : Nat → KT) (K : RT) : KT := (w_iret wT K)
set_option maxRecDepth 100000 in
theorem eJ1_indexOf_4cfef {G : Nat → KT} {K : RT} (hc : cloJ1_indexOf_4cfef G K wT) {x0 : Nat} {x1 : Int32} {x2 : Int32} {x3 : Int32} {M : Mem} (hW : Wf M) (hx0 : isBy x0) (h : ((P_J1_canEncode_9a6ad x1) → (∀ y1 : Int32, y1 = (f_J9_min_7cf53 x3 (Int32.ofNat (tBy.getD (x0 - 100400) []).length)) → ((f_J9_max_7cf53 x2 (0 : Int32)) < y1 → sp_J1_indexOfChar_4cfef [.ref x0, .int x1, .int (f_J9_max_7cf53 x2 (0 : Int32)), .int y1] M (fun v M' => RJ1_indexOf_4cfef_29_4 G K [some (.ref x0), some (.int x1), some (.int (f_J9_max_7cf53 x2 (0 : Int32))), some (.int y1)] (v.toList ++ []) M')) ∧ (¬ (f_J9_max_7cf53 x2 (0 : Int32)) < y1 → K (some (.int (-1 : Int32))) M))) ∧ (¬ (P_J1_canEncode_9a6ad x1) → K (some (.int (-1 : Int32))) M)) : G 0 [some (.ref x0), some (.int x1), some (.int x2), some (.int x3)] [] M :=
  (hc.1 _ _ _ (i_iload rfl (i_callS1 (Nat.le_of_ble_eq_true rfl) (c_J1_canEncode_9a6ad hW  (i_rI (i_bI_ne (fun q124 => (hc.2.2.1 _ _ _ (i_iload rfl (i_ic (i_callS2 (Nat.le_of_ble_eq_true rfl) (c_J9_max_7cf53 hW  (i_rI (i_istore (Nat.le_of_ble_eq_true rfl) (i_iload rfl (i_aload rfl (i_strlen hx0 (i_callS2 (Nat.le_of_ble_eq_true rfl) (c_J9_min_7cf53 hW  (i_rI (i_istore (Nat.le_of_ble_eq_true rfl) (i_iload rfl (i_iload rfl (i_icmp_lt (fun q125 => (hc.2.2.2.2 _ _ _ (i_aload rfl (i_iload rfl (i_iload rfl (i_iload rfl (i_callS4 (Nat.le_of_ble_eq_true rfl) (((h.1 q124) _ rfl).1 q125)))))))) (fun q125 => (hc.2.2.2.1 _ _ _ (i_ic (i_iret hW.1 (((h.1 q124) _ rfl).2 q125))))))))))))))))))))))) (fun q124 => (hc.2.1 _ _ _ (i_ic (i_iret hW.1 (h.2 q124)))))))))))
set_option maxRecDepth 100000 in
theorem rJ1_indexOf_4cfef_29_4 {G : Nat → KT} {K : RT} (hc : cloJ1_indexOf_4cfef G K wT) {o0 : Option Value} {o1 : Option Value} {o2 : Option Value} {o3 : Option Value} {y : Int32} {M : Mem} (hW : Wf M) (h : K (some (.int y)) M) : RJ1_indexOf_4cfef_29_4 G K [o0, o1, o2, o3] (Option.toList (some (.int y)) ++ []) M :=
  (i_rI (i_iret hW.1 h))
theorem wJ1_indexOf_4cfef {x0 : Nat} {x1 : Int32} {x2 : Int32} {x3 : Int32} {M : Mem} {K : RT} (hW : Wf M) (hx0 : isBy x0) (h : ∀ {G : Nat → KT}, cloJ1_indexOf_4cfef G K wT → ((P_J1_canEncode_9a6ad x1) → (∀ y1 : Int32, y1 = (f_J9_min_7cf53 x3 (Int32.ofNat (tBy.getD (x0 - 100400) []).length)) → ((f_J9_max_7cf53 x2 (0 : Int32)) < y1 → sp_J1_indexOfChar_4cfef [.ref x0, .int x1, .int (f_J9_max_7cf53 x2 (0 : Int32)), .int y1] M (fun v M' => RJ1_indexOf_4cfef_29_4 G K [some (.ref x0), some (.int x1), some (.int (f_J9_max_7cf53 x2 (0 : Int32))), some (.int y1)] (v.toList ++ []) M')) ∧ (¬ (f_J9_max_7cf53 x2 (0 : Int32)) < y1 → K (some (.int (-1 : Int32))) M))) ∧ (¬ (P_J1_canEncode_9a6ad x1) → K (some (.int (-1 : Int32))) M)) : sp_J1_indexOf_4cfef [.ref x0, .int x1, .int x2, .int x3] M K := by
  refine ⟨Nat.le_of_ble_eq_true rfl, fun G hc => ?_⟩
  rw [hW.1] at hc
  exact eJ1_indexOf_4cfef hc hW hx0 (h hc)
def RJ0_indexOf_7cf53_7_6 (G : Nat → KT) (K : RT) : KT := (G 36)
set_option maxRecDepth 100000 in
theorem eJ0_indexOf_7cf53 {G : Nat → KT} {K : RT} (hc : cloJ0_indexOf_7cf53 G K wT) {x0 : Nat} {x1 : Int32} {x2 : Int32} {M : Mem} (hW : Wf M) (hx0 : isTx x0) (h : (¬ (P_J0_isLatin1_aae02 x0) → False) ∧ ((P_J0_isLatin1_aae02 x0) → sp_J1_indexOf_4cfef [.ref (x0 + 200), .int x1, .int x2, .int (f_J0_length_8abf5 x0)] M (fun v M' => RJ0_indexOf_7cf53_7_6 G K [some (.ref x0), some (.int x1), some (.int x2)] (v.toList ++ []) M'))) : G 0 [some (.ref x0), some (.int x1), some (.int x2)] [] M :=
  (hc.1 _ _ _ (i_aload rfl (i_callT1 (Nat.le_of_ble_eq_true rfl) hx0 (c_J0_isLatin1_aae02 hW hx0 (i_rI (i_bI_eq (fun q127 => (hc.2.2.1 _ _ _ (i_aload rfl (i_strvalue hx0 (i_iload rfl (i_iload rfl (i_aload rfl (i_callT1 (Nat.le_of_ble_eq_true rfl) hx0 (c_J0_length_8abf5 hW hx0 (i_rI (h.1 q127))))))))))) (fun q127 => (hc.2.1 _ _ _ (i_aload rfl (i_strvalue hx0 (i_iload rfl (i_iload rfl (i_aload rfl (i_callT1 (Nat.le_of_ble_eq_true rfl) hx0 (c_J0_length_8abf5 hW hx0 (i_rI (i_callS4 (Nat.le_of_ble_eq_true rfl) (h.2 q127))))))))))))))))))
set_option maxRecDepth 100000 in
theorem rJ0_indexOf_7cf53_7_6 {G : Nat → KT} {K : RT} (hc : cloJ0_indexOf_7cf53 G K wT) {o0 : Option Value} {o1 : Option Value} {o2 : Option Value} {y : Int32} {M : Mem} (hW : Wf M) (h : K (some (.int y)) M) : RJ0_indexOf_7cf53_7_6 G K [o0, o1, o2] (Option.toList (some (.int y)) ++ []) M :=
  (i_rI (hc.2.2.2 _ _ _ (i_iret hW.1 h)))
theorem wJ0_indexOf_7cf53 {x0 : Nat} {x1 : Int32} {x2 : Int32} {M : Mem} {K : RT} (hW : Wf M) (hx0 : isTx x0) (h : ∀ {G : Nat → KT}, cloJ0_indexOf_7cf53 G K wT → (¬ (P_J0_isLatin1_aae02 x0) → False) ∧ ((P_J0_isLatin1_aae02 x0) → sp_J1_indexOf_4cfef [.ref (x0 + 200), .int x1, .int x2, .int (f_J0_length_8abf5 x0)] M (fun v M' => RJ0_indexOf_7cf53_7_6 G K [some (.ref x0), some (.int x1), some (.int x2)] (v.toList ++ []) M'))) : sp_J0_indexOf_7cf53 [.ref x0, .int x1, .int x2] M K := by
  refine ⟨Nat.le_of_ble_eq_true rfl, fun G hc => ?_⟩
  rw [hW.1] at hc
  exact eJ0_indexOf_7cf53 hc hW hx0 (h hc)
def RJ0_indexOf_0f7a4_0_3 (G : Nat → KT) (K : RT) : KT := (w_iret wT K)
set_option maxRecDepth 100000 in
theorem eJ0_indexOf_0f7a4 {G : Nat → KT} {K : RT} (hc : cloJ0_indexOf_0f7a4 G K wT) {x0 : Nat} {x1 : Int32} {M : Mem} (hW : Wf M) (hx0 : isTx x0) (h : sp_J0_indexOf_7cf53 [.ref x0, .int x1, .int (0 : Int32)] M (fun v M' => RJ0_indexOf_0f7a4_0_3 G K [some (.ref x0), some (.int x1)] (v.toList ++ []) M')) : G 0 [some (.ref x0), some (.int x1)] [] M :=
  (hc _ _ _ (i_aload rfl (i_iload rfl (i_ic (i_callT3 (Nat.le_of_ble_eq_true rfl) hx0 h)))))
set_option maxRecDepth 100000 in
theorem rJ0_indexOf_0f7a4_0_3 {G : Nat → KT} {K : RT} (hc : cloJ0_indexOf_0f7a4 G K wT) {o0 : Option Value} {o1 : Option Value} {y : Int32} {M : Mem} (hW : Wf M) (h : K (some (.int y)) M) : RJ0_indexOf_0f7a4_0_3 G K [o0, o1] (Option.toList (some (.int y)) ++ []) M :=
  (i_rI (i_iret hW.1 h))
theorem wJ0_indexOf_0f7a4 {x0 : Nat} {x1 : Int32} {M : Mem} {K : RT} (hW : Wf M) (hx0 : isTx x0) (h : ∀ {G : Nat → KT}, cloJ0_indexOf_0f7a4 G K wT → sp_J0_indexOf_7cf53 [.ref x0, .int x1, .int (0 : Int32)] M (fun v M' => RJ0_indexOf_0f7a4_0_3 G K [some (.ref x0), some (.int x1)] (v.toList ++ []) M')) : sp_J0_indexOf_0f7a4 [.ref x0, .int x1] M K := by
  refine ⟨Nat.le_of_ble_eq_true rfl, fun G hc => ?_⟩
  rw [hW.1] at hc
  exact eJ0_indexOf_0f7a4 hc hW hx0 (h hc)
end C04
