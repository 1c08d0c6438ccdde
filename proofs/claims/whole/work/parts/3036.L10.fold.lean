section FOLD
set_option maxRecDepth 100000 in
theorem eX2_below {G : Nat → KT} {K : RT} (hc : cloX2_below G K wT) {x0 : Int32} {M : Mem} (hW : Wf M) (h : (x0 < (32 : Int32) → K (some (.int (((1 : Int32) <<< (x0 &&& 31)) - (1 : Int32)))) M) ∧ (¬ x0 < (32 : Int32) → K (some (.int (-1 : Int32))) M)) : G 0 [some (.int x0)] [] M :=
  (hc.1 _ _ _ (i_iload rfl (i_ic (i_icmp_lt (fun q423 => (hc.2.2.1 _ _ _ (i_ic (i_iload rfl (i_ishl (i_ic (i_isub (hc.2.2.2 _ _ _ (i_iret hW.1 (h.1 q423)))))))))) (fun q423 => (hc.2.1 _ _ _ (i_ic (hc.2.2.2 _ _ _ (i_iret hW.1 (h.2 q423))))))))))
theorem wX2_below {x0 : Int32} {M : Mem} {K : RT} (hW : Wf M) (h : (x0 < (32 : Int32) → K (some (.int (((1 : Int32) <<< (x0 &&& 31)) - (1 : Int32)))) M) ∧ (¬ x0 < (32 : Int32) → K (some (.int (-1 : Int32))) M)) : sp_X2_below [.int x0] M K := by
  refine ⟨Nat.le_of_ble_eq_true rfl, fun G hc => ?_⟩
  rw [hW.1] at hc
  exact eX2_below hc hW  h
noncomputable def f_X2_below (x0 : Int32) : Int32 := (if x0 < (32 : Int32) then (((1 : Int32) <<< (x0 &&& 31)) - (1 : Int32)) else (-1 : Int32))
theorem c_X2_below {x0 : Int32} {M : Mem} {K : RT} (hW : Wf M) (h : K (some (.int (f_X2_below x0))) M) : sp_X2_below [.int x0] M K := by
  refine wX2_below hW  ?_
  unfold f_X2_below at h
  refine ⟨fun q0 => ?_, fun q0 => ?_⟩
  · skip
    try simp only [if_pos q0] at h
    first | exact h | contradiction
  · skip
    try simp only [if_neg q0] at h
    first | exact h | contradiction
set_option maxRecDepth 100000 in
theorem eX2_isSo {G : Nat → KT} {K : RT} (hc : cloX2_isSo G K wT) {x0 : Nat} {x1 : Int64} {x3 : Int64} {M : Mem} (hW : Wf M) (hx0 : isOp x0) (h : ((Int32.ofNat (swT.getD (x0 - 100000) 0)) = 40 → ((¬ x1 = x3 → K (some (.int (0 : Int32))) M) ∧ (x1 = x3 → K (some (.int (1 : Int32))) M))) ∧ (¬ (Int32.ofNat (swT.getD (x0 - 100000) 0)) = 40 → (((Int32.ofNat (swT.getD (x0 - 100000) 0)) = 41 → ((x1 = x3 → K (some (.int (0 : Int32))) M) ∧ (¬ x1 = x3 → K (some (.int (1 : Int32))) M))) ∧ (¬ (Int32.ofNat (swT.getD (x0 - 100000) 0)) = 41 → (((Int32.ofNat (swT.getD (x0 - 100000) 0)) = 42 → ((x3 ≤ x1 → K (some (.int (0 : Int32))) M) ∧ (¬ x3 ≤ x1 → K (some (.int (1 : Int32))) M))) ∧ (¬ (Int32.ofNat (swT.getD (x0 - 100000) 0)) = 42 → (((Int32.ofNat (swT.getD (x0 - 100000) 0)) = 43 → ((x3 < x1 → K (some (.int (0 : Int32))) M) ∧ (¬ x3 < x1 → K (some (.int (1 : Int32))) M))) ∧ (¬ (Int32.ofNat (swT.getD (x0 - 100000) 0)) = 43 → (((Int32.ofNat (swT.getD (x0 - 100000) 0)) = 44 → ((x1 ≤ x3 → K (some (.int (0 : Int32))) M) ∧ (¬ x1 ≤ x3 → K (some (.int (1 : Int32))) M))) ∧ (¬ (Int32.ofNat (swT.getD (x0 - 100000) 0)) = 44 → ((x1 < x3 → K (some (.int (0 : Int32))) M) ∧ (¬ x1 < x3 → K (some (.int (1 : Int32))) M)))))))))))) : G 0 [some (.ref x0), some (.long x1), none, some (.long x3), none] [] M :=
  (hc.1 _ _ _ (i_gets (i_aload rfl (i_ord hx0 (i_swldO hx0 (And.intro (fun q785 => (hc.2.1 _ _ _ (i_lload rfl (i_lload rfl (i_lcmp (i_lcmp_ne (fun q786 => (hc.2.2.2.1 _ _ _ (i_ic (hc.2.2.2.2.1 _ _ _ (i_zret (by decide) hW.1 ((h.1 q785).1 q786)))))) (fun q786 => (hc.2.2.1 _ _ _ (i_ic (hc.2.2.2.2.1 _ _ _ (i_zret (by decide) hW.1 ((h.1 q785).2 q786)))))))))))) (fun q785 => (And.intro (fun q787 => (hc.2.2.2.2.2.1 _ _ _ (i_lload rfl (i_lload rfl (i_lcmp (i_lcmp_eq (fun q788 => (hc.2.2.2.2.2.2.2.1 _ _ _ (i_ic (hc.2.2.2.2.2.2.2.2.1 _ _ _ (i_zret (by decide) hW.1 (((h.2 q785).1 q787).1 q788)))))) (fun q788 => (hc.2.2.2.2.2.2.1 _ _ _ (i_ic (hc.2.2.2.2.2.2.2.2.1 _ _ _ (i_zret (by decide) hW.1 (((h.2 q785).1 q787).2 q788)))))))))))) (fun q787 => (And.intro (fun q789 => (hc.2.2.2.2.2.2.2.2.2.1 _ _ _ (i_lload rfl (i_lload rfl (i_lcmp (i_lcmp_ge (fun q790 => (hc.2.2.2.2.2.2.2.2.2.2.2.1 _ _ _ (i_ic (hc.2.2.2.2.2.2.2.2.2.2.2.2.1 _ _ _ (i_zret (by decide) hW.1 ((((h.2 q785).2 q787).1 q789).1 q790)))))) (fun q790 => (hc.2.2.2.2.2.2.2.2.2.2.1 _ _ _ (i_ic (hc.2.2.2.2.2.2.2.2.2.2.2.2.1 _ _ _ (i_zret (by decide) hW.1 ((((h.2 q785).2 q787).1 q789).2 q790)))))))))))) (fun q789 => (And.intro (fun q791 => (hc.2.2.2.2.2.2.2.2.2.2.2.2.2.1 _ _ _ (i_lload rfl (i_lload rfl (i_lcmp (i_lcmp_gt (fun q792 => (hc.2.2.2.2.2.2.2.2.2.2.2.2.2.2.2.1 _ _ _ (i_ic (hc.2.2.2.2.2.2.2.2.2.2.2.2.2.2.2.2.1 _ _ _ (i_zret (by decide) hW.1 (((((h.2 q785).2 q787).2 q789).1 q791).1 q792)))))) (fun q792 => (hc.2.2.2.2.2.2.2.2.2.2.2.2.2.2.1 _ _ _ (i_ic (hc.2.2.2.2.2.2.2.2.2.2.2.2.2.2.2.2.1 _ _ _ (i_zret (by decide) hW.1 (((((h.2 q785).2 q787).2 q789).1 q791).2 q792)))))))))))) (fun q791 => (And.intro (fun q793 => (hc.2.2.2.2.2.2.2.2.2.2.2.2.2.2.2.2.2.1 _ _ _ (i_lload rfl (i_lload rfl (i_lcmp (i_lcmp_le (fun q794 => (hc.2.2.2.2.2.2.2.2.2.2.2.2.2.2.2.2.2.2.2.1 _ _ _ (i_ic (hc.2.2.2.2.2.2.2.2.2.2.2.2.2.2.2.2.2.2.2.2.1 _ _ _ (i_zret (by decide) hW.1 ((((((h.2 q785).2 q787).2 q789).2 q791).1 q793).1 q794)))))) (fun q794 => (hc.2.2.2.2.2.2.2.2.2.2.2.2.2.2.2.2.2.2.1 _ _ _ (i_ic (hc.2.2.2.2.2.2.2.2.2.2.2.2.2.2.2.2.2.2.2.2.1 _ _ _ (i_zret (by decide) hW.1 ((((((h.2 q785).2 q787).2 q789).2 q791).1 q793).2 q794)))))))))))) (fun q793 => (hc.2.2.2.2.2.2.2.2.2.2.2.2.2.2.2.2.2.2.2.2.2.1 _ _ _ (i_lload rfl (i_lload rfl (i_lcmp (i_lcmp_lt (fun q795 => (hc.2.2.2.2.2.2.2.2.2.2.2.2.2.2.2.2.2.2.2.2.2.2.2.1 _ _ _ (i_ic (hc.2.2.2.2.2.2.2.2.2.2.2.2.2.2.2.2.2.2.2.2.2.2.2.2 _ _ _ (i_zret (by decide) hW.1 ((((((h.2 q785).2 q787).2 q789).2 q791).2 q793).1 q795)))))) (fun q795 => (hc.2.2.2.2.2.2.2.2.2.2.2.2.2.2.2.2.2.2.2.2.2.2.1 _ _ _ (i_ic (hc.2.2.2.2.2.2.2.2.2.2.2.2.2.2.2.2.2.2.2.2.2.2.2.2 _ _ _ (i_zret (by decide) hW.1 ((((((h.2 q785).2 q787).2 q789).2 q791).2 q793).2 q795))))))))))))))))))))))))))
theorem wX2_isSo {x0 : Nat} {x1 : Int64} {x3 : Int64} {M : Mem} {K : RT} (hW : Wf M) (hx0 : isOp x0) (h : ((Int32.ofNat (swT.getD (x0 - 100000) 0)) = 40 → ((¬ x1 = x3 → K (some (.int (0 : Int32))) M) ∧ (x1 = x3 → K (some (.int (1 : Int32))) M))) ∧ (¬ (Int32.ofNat (swT.getD (x0 - 100000) 0)) = 40 → (((Int32.ofNat (swT.getD (x0 - 100000) 0)) = 41 → ((x1 = x3 → K (some (.int (0 : Int32))) M) ∧ (¬ x1 = x3 → K (some (.int (1 : Int32))) M))) ∧ (¬ (Int32.ofNat (swT.getD (x0 - 100000) 0)) = 41 → (((Int32.ofNat (swT.getD (x0 - 100000) 0)) = 42 → ((x3 ≤ x1 → K (some (.int (0 : Int32))) M) ∧ (¬ x3 ≤ x1 → K (some (.int (1 : Int32))) M))) ∧ (¬ (Int32.ofNat (swT.getD (x0 - 100000) 0)) = 42 → (((Int32.ofNat (swT.getD (x0 - 100000) 0)) = 43 → ((x3 < x1 → K (some (.int (0 : Int32))) M) ∧ (¬ x3 < x1 → K (some (.int (1 : Int32))) M))) ∧ (¬ (Int32.ofNat (swT.getD (x0 - 100000) 0)) = 43 → (((Int32.ofNat (swT.getD (x0 - 100000) 0)) = 44 → ((x1 ≤ x3 → K (some (.int (0 : Int32))) M) ∧ (¬ x1 ≤ x3 → K (some (.int (1 : Int32))) M))) ∧ (¬ (Int32.ofNat (swT.getD (x0 - 100000) 0)) = 44 → ((x1 < x3 → K (some (.int (0 : Int32))) M) ∧ (¬ x1 < x3 → K (some (.int (1 : Int32))) M)))))))))))) : sp_X2_isSo [.ref x0, .long x1, .long x3] M K := by
  refine ⟨Nat.le_of_ble_eq_true rfl, fun G hc => ?_⟩
  rw [hW.1] at hc
  exact eX2_isSo hc hW hx0 h
def P_X2_isSo (x0 : Nat) (x1 : Int64) (x3 : Int64) : Prop := ((((Int32.ofNat (swT.getD (x0 - 100000) 0)) = 40) ∧ (x1 = x3)) ∨ ((¬ (Int32.ofNat (swT.getD (x0 - 100000) 0)) = 40) ∧ ((((Int32.ofNat (swT.getD (x0 - 100000) 0)) = 41) ∧ (¬ x1 = x3)) ∨ ((¬ (Int32.ofNat (swT.getD (x0 - 100000) 0)) = 41) ∧ ((((Int32.ofNat (swT.getD (x0 - 100000) 0)) = 42) ∧ (¬ x3 ≤ x1)) ∨ ((¬ (Int32.ofNat (swT.getD (x0 - 100000) 0)) = 42) ∧ ((((Int32.ofNat (swT.getD (x0 - 100000) 0)) = 43) ∧ (¬ x3 < x1)) ∨ ((¬ (Int32.ofNat (swT.getD (x0 - 100000) 0)) = 43) ∧ ((((Int32.ofNat (swT.getD (x0 - 100000) 0)) = 44) ∧ (¬ x1 ≤ x3)) ∨ ((¬ (Int32.ofNat (swT.getD (x0 - 100000) 0)) = 44) ∧ (¬ x1 < x3)))))))))))
theorem c_X2_isSo {x0 : Nat} {x1 : Int64} {x3 : Int64} {M : Mem} {K : RT} (hW : Wf M) (hx0 : isOp x0) (h : K (some (.int (pI (P_X2_isSo x0 x1 x3)))) M) : sp_X2_isSo [.ref x0, .long x1, .long x3] M K := by
  refine wX2_isSo hW hx0 ?_
  unfold P_X2_isSo at h
  refine ⟨fun q0 => ?_, fun q0 => ?_⟩
  · skip
    refine ⟨fun q1 => ?_, fun q1 => ?_⟩
    · skip
      exact pI_goF h (by simp only [eq_true q0, eq_false q1, not_true_eq_false, not_false_eq_true, true_and, false_and, and_true, and_false, true_or, or_true, false_or, or_false, iff_self])
    · skip
      exact pI_goT h (by simp only [eq_true q0, eq_true q1, not_true_eq_false, not_false_eq_true, true_and, false_and, and_true, and_false, true_or, or_true, false_or, or_false, iff_self])
  · skip
    refine ⟨fun q1 => ?_, fun q1 => ?_⟩
    · skip
      refine ⟨fun q2 => ?_, fun q2 => ?_⟩
      · skip
        exact pI_goF h (by simp only [eq_false q0, eq_true q1, eq_true q2, not_true_eq_false, not_false_eq_true, true_and, false_and, and_true, and_false, true_or, or_true, false_or, or_false, iff_self])
      · skip
        exact pI_goT h (by simp only [eq_false q0, eq_true q1, eq_false q2, not_true_eq_false, not_false_eq_true, true_and, false_and, and_true, and_false, true_or, or_true, false_or, or_false, iff_self])
    · skip
      refine ⟨fun q2 => ?_, fun q2 => ?_⟩
      · skip
        refine ⟨fun q3 => ?_, fun q3 => ?_⟩
        · skip
          exact pI_goF h (by simp only [eq_false q0, eq_false q1, eq_true q2, eq_true q3, not_true_eq_false, not_false_eq_true, true_and, false_and, and_true, and_false, true_or, or_true, false_or, or_false, iff_self])
        · skip
          exact pI_goT h (by simp only [eq_false q0, eq_false q1, eq_true q2, eq_false q3, not_true_eq_false, not_false_eq_true, true_and, false_and, and_true, and_false, true_or, or_true, false_or, or_false, iff_self])
      · skip
        refine ⟨fun q3 => ?_, fun q3 => ?_⟩
        · skip
          refine ⟨fun q4 => ?_, fun q4 => ?_⟩
          · skip
            exact pI_goF h (by simp only [eq_false q0, eq_false q1, eq_false q2, eq_true q3, eq_true q4, not_true_eq_false, not_false_eq_true, true_and, false_and, and_true, and_false, true_or, or_true, false_or, or_false, iff_self])
          · skip
            exact pI_goT h (by simp only [eq_false q0, eq_false q1, eq_false q2, eq_true q3, eq_false q4, not_true_eq_false, not_false_eq_true, true_and, false_and, and_true, and_false, true_or, or_true, false_or, or_false, iff_self])
        · skip
          refine ⟨fun q4 => ?_, fun q4 => ?_⟩
          · skip
            refine ⟨fun q5 => ?_, fun q5 => ?_⟩
            · skip
              exact pI_goF h (by simp only [eq_false q0, eq_false q1, eq_false q2, eq_false q3, eq_true q4, eq_true q5, not_true_eq_false, not_false_eq_true, true_and, false_and, and_true, and_false, true_or, or_true, false_or, or_false, iff_self])
            · skip
              exact pI_goT h (by simp only [eq_false q0, eq_false q1, eq_false q2, eq_false q3, eq_true q4, eq_false q5, not_true_eq_false, not_false_eq_true, true_and, false_and, and_true, and_false, true_or, or_true, false_or, or_false, iff_self])
          · skip
            refine ⟨fun q5 => ?_, fun q5 => ?_⟩
            · skip
              exact pI_goF h (by simp only [eq_false q0, eq_false q1, eq_false q2, eq_false q3, eq_false q4, eq_true q5, not_true_eq_false, not_false_eq_true, true_and, false_and, and_true, and_false, true_or, or_true, false_or, or_false, iff_self])
            · skip
              exact pI_goT h (by simp only [eq_false q0, eq_false q1, eq_false q2, eq_false q3, eq_false q4, eq_false q5, not_true_eq_false, not_false_eq_true, true_and, false_and, and_true, and_false, true_or, or_true, false_or, or_false, iff_self])
set_option maxRecDepth 100000 in
theorem eX2_fold {G : Nat → KT} {K : RT} (hc : cloX2_fold G K wT) {x1 : Nat} {M : Mem} (hW : Wf M) (hx1 : isOp x1) (h : G 15 [some (.ref 404), some (.ref x1), some (.long (0 : Int64)), none, some (.long (9223372036854775807 : Int64)), none, some (.long (-9223372036854775808 : Int64)), none, some (.int (0 : Int32)), none, none] [] M) : G 0 [some (.ref 404), some (.ref x1), none, none, none, none, none, none, none, none, none] [] M :=
  (hc.1 _ _ _ (i_lc (i_lstore (Nat.le_of_ble_eq_true rfl) (i_lc (i_lstore (Nat.le_of_ble_eq_true rfl) (i_lc (i_lstore (Nat.le_of_ble_eq_true rfl) (i_ic (i_istore (Nat.le_of_ble_eq_true rfl) h)))))))))
set_option maxRecDepth 100000 in
theorem eX2_fold_15 {G : Nat → KT} {K : RT} (hc : cloX2_fold G K wT) {x1 : Nat} {x2 : Int64} {x4 : Int64} {x6 : Int64} {x8 : Int32} {o9 : Option Value} {o10 : Option Value} {M : Mem} (hW : Wf M) (hx1 : isOp x1) (h : ((gI M (rR M 443 0) 1) ≤ x8 → ((¬ x1 = 100041 → (((gI M 404 8) = 0 → K none M) ∧ (¬ (gI M 404 8) = 0 → ((¬ x1 = 100042 → ((vp_in (gI M 404 7) 8) ∧ K none (uL M 409 (gI M 404 7).toNatClampNeg x6))) ∧ (x1 = 100042 → ((vp_in (gI M 404 7) 8) ∧ K none (uL M 409 (gI M 404 7).toNatClampNeg x4))))))) ∧ (x1 = 100041 → ((vp_in (gI M 404 7) 8) ∧ K none (uL M 409 (gI M 404 7).toNatClampNeg x2))))) ∧ (¬ (gI M (rR M 443 0) 1) ≤ x8 → ((¬ (P_X2_isOn x8 M) → G 15 [some (.ref 404), some (.ref x1), some (.long x2), none, some (.long x4), none, some (.long x6), none, some (.int (x8 + (1 : Int32))), o9, o10] [] M) ∧ ((P_X2_isOn x8 M) → ((vp_in x8 64) ∧ (∀ y1 : Int64, y1 = (gL M ((rR M 443 0) + 1) (x8).toNatClampNeg) → G 15 [some (.ref 404), some (.ref x1), some (.long (x2 + y1)), none, some (.long (f_J9_min_f86c9 x4 y1)), none, some (.long (f_J9_max_f86c9 x6 y1)), none, some (.int (x8 + (1 : Int32))), some (.long y1), none] [] M)))))) : G 15 [some (.ref 404), some (.ref x1), some (.long x2), none, some (.long x4), none, some (.long x6), none, some (.int x8), o9, o10] [] M :=
  (hc.2.1 _ _ _ (i_iload rfl (i_aload rfl (i_getR (okS hW Sk_404) (nv_404_4 hW) (i_ic (i_aald hW Ss_443 (vpd rfl) (Wf.mut (M := M) hW (mx_rows (by decide))) (i_getI (okS hW (Wf.mutS (M := M) hW (mx_rows (by decide)))) (i_icmp_ge (fun q838 => (hc.2.2.2.2.2.1 _ _ _ (i_aload rfl (i_gets (i_acmp_ne hx1 (isOp_lit (by decide)) (fun q839 => (hc.2.2.2.2.2.2.2.1 _ _ _ (i_aload rfl (i_getI (okS hW Sk_404) (i_if_eq (fun q840 => (hc.2.2.2.2.2.2.2.2.2.2.2.2 _ _ _ (i_vret hW.1 (((h.1 q838).1 q839).1 q840)))) (fun q840 => (hc.2.2.2.2.2.2.2.2.1 _ _ _ (i_aload rfl (i_getR (okS hW Sk_404) (nv_404_0 hW) (i_getR (okS hW Sk_405) (nv_405_3 hW) (i_aload rfl (i_getI (okS hW Sk_404) (i_aload rfl (i_gets (i_acmp_ne hx1 (isOp_lit (by decide)) (fun q841 => (hc.2.2.2.2.2.2.2.2.2.2.1 _ _ _ (i_lload rfl (hc.2.2.2.2.2.2.2.2.2.2.2.1 _ _ _ (i_last hW Ss_409 ((((h.1 q838).1 q839).2 q840).1 q841).1 (hc.2.2.2.2.2.2.2.2.2.2.2.2 _ _ _ (i_vret hW.1 ((((h.1 q838).1 q839).2 q840).1 q841).2))))))) (fun q841 => (hc.2.2.2.2.2.2.2.2.2.1 _ _ _ (i_lload rfl (hc.2.2.2.2.2.2.2.2.2.2.2.1 _ _ _ (i_last hW Ss_409 ((((h.1 q838).1 q839).2 q840).2 q841).1 (hc.2.2.2.2.2.2.2.2.2.2.2.2 _ _ _ (i_vret hW.1 ((((h.1 q838).1 q839).2 q840).2 q841).2)))))))))))))))))))))) (fun q839 => (hc.2.2.2.2.2.2.1 _ _ _ (i_aload rfl (i_getR (okS hW Sk_404) (nv_404_0 hW) (i_getR (okS hW Sk_405) (nv_405_3 hW) (i_aload rfl (i_getI (okS hW Sk_404) (i_lload rfl (i_last hW Ss_409 ((h.1 q838).2 q839).1 (hc.2.2.2.2.2.2.2.2.2.2.2.2 _ _ _ (i_vret hW.1 ((h.1 q838).2 q839).2)))))))))))))))) (fun q838 => (hc.2.2.1 _ _ _ (i_aload rfl (i_iload rfl (i_callV2 (Nat.le_of_ble_eq_true rfl) (okS hW Sk_404) (c_X2_isOn hW  (i_rI (i_bI_eq (fun q842 => (hc.2.2.2.2.1 _ _ _ (i_iinc rfl ((h.2 q838).1 q842)))) (fun q842 => (hc.2.2.2.1 _ _ _ (i_aload rfl (i_getR (okS hW Sk_404) (nv_404_4 hW) (i_ic (i_aald hW Ss_443 (vpd rfl) (Wf.mut (M := M) hW (mx_rows (by decide))) (i_getR (okS hW (Wf.mutS (M := M) hW (mx_rows (by decide)))) (nvRow hW (Wf.mutS (M := M) hW (mx_rows (by decide)))) (i_iload rfl (i_lald hW (Srow (Wf.mutS (M := M) hW (mx_rows (by decide)))) ((h.2 q838).2 q842).1 (i_lstore (Nat.le_of_ble_eq_true rfl) (i_lload rfl (i_lload rfl (i_ladd (i_lstore (Nat.le_of_ble_eq_true rfl) (i_lload rfl (i_lload rfl (i_callS2 (Nat.le_of_ble_eq_true rfl) (c_J9_min_f86c9 hW  (i_rJ (i_lstore (Nat.le_of_ble_eq_true rfl) (i_lload rfl (i_lload rfl (i_callS2 (Nat.le_of_ble_eq_true rfl) (c_J9_max_f86c9 hW  (i_rJ (i_lstore (Nat.le_of_ble_eq_true rfl) (hc.2.2.2.2.1 _ _ _ (i_iinc rfl (((h.2 q838).2 q842).2 _ rfl)))))))))))))))))))))))))))))))))))))))))))))
theorem wX2_fold {x1 : Nat} {M : Mem} {K : RT} (hW : Wf M) (hx1 : isOp x1) (h : ∀ {G : Nat → KT}, cloX2_fold G K wT → G 15 [some (.ref 404), some (.ref x1), some (.long (0 : Int64)), none, some (.long (9223372036854775807 : Int64)), none, some (.long (-9223372036854775808 : Int64)), none, some (.int (0 : Int32)), none, none] [] M) : sp_X2_fold [.ref 404, .ref x1] M K := by
  refine ⟨Nat.le_of_ble_eq_true rfl, fun G hc => ?_⟩
  rw [hW.1] at hc
  exact eX2_fold hc hW hx1 (h hc)
set_option maxRecDepth 100000 in
theorem eX2_compare {G : Nat → KT} {K : RT} (hc : cloX2_compare G K wT) {x1 : Nat} {M : Mem} (hW : Wf M) (hx1 : isOp x1) (h : (vp_in (gI M 404 6) 4) ∧ (∀ y1 : Int32, y1 = (((gI M 408 (gI M 404 6).toNatClampNeg) &&& ((gI M 404 8) ^^^ (-1 : Int32))) &&& (f_X2_below (gI M (rR M 443 0) 1))) → G 46 [some (.ref 404), some (.ref x1), some (.int y1), some (.int (gI M (rR M 443 0) 0)), some (.int (0 : Int32)), none, none, none, none] [] M)) : G 0 [some (.ref 404), some (.ref x1), none, none, none, none, none, none, none] [] M :=
  (hc.1 _ _ _ (i_aload rfl (i_getR (okS hW Sk_404) (nv_404_0 hW) (i_getR (okS hW Sk_405) (nv_405_2 hW) (i_aload rfl (i_getI (okS hW Sk_404) (i_iald hW Ss_408 h.1 (i_aload rfl (i_getI (okS hW Sk_404) (i_ic (i_ixor (i_iand (i_aload rfl (i_getR (okS hW Sk_404) (nv_404_4 hW) (i_ic (i_aald hW Ss_443 (vpd rfl) (Wf.mut (M := M) hW (mx_rows (by decide))) (i_getI (okS hW (Wf.mutS (M := M) hW (mx_rows (by decide)))) (i_callS1 (Nat.le_of_ble_eq_true rfl) (c_X2_below hW  (i_rI (i_iand (i_istore (Nat.le_of_ble_eq_true rfl) (i_aload rfl (i_getR (okS hW Sk_404) (nv_404_4 hW) (i_ic (i_aald hW Ss_443 (vpd rfl) (Wf.mut (M := M) hW (mx_rows (by decide))) (i_getI (okS hW (Wf.mutS (M := M) hW (mx_rows (by decide)))) (i_istore (Nat.le_of_ble_eq_true rfl) (i_ic (i_istore (Nat.le_of_ble_eq_true rfl) (h.2 _ rfl)))))))))))))))))))))))))))))))
set_option maxRecDepth 100000 in
theorem eX2_compare_46 {G : Nat → KT} {K : RT} (hc : cloX2_compare G K wT) {x1 : Nat} {x2 : Int32} {x3 : Int32} {x4 : Int32} {o5 : Option Value} {o6 : Option Value} {o7 : Option Value} {o8 : Option Value} {M : Mem} (hW : Wf M) (hx1 : isOp x1) (h : ((gI M (rR M 443 0) 1) ≤ x4 → ((vp_in (gI M 404 6) 4) ∧ K none (uI M 408 (gI M 404 6).toNatClampNeg x2))) ∧ (¬ (gI M (rR M 443 0) 1) ≤ x4 → ((vp_in x4 64) ∧ (∀ y2 : Int64, y2 = (f_X3_value x3 (gL M ((rR M 443 0) + 1) (x4).toNatClampNeg)) → (vp_in x4 64) ∧ (∀ y3 : Int64, y3 = (f_X3_value x3 (gL M ((rR M 443 1) + 1) (x4).toNatClampNeg)) → (¬ (P_X2_isOn x4 M) → G 46 [some (.ref 404), some (.ref x1), some (.int x2), some (.int x3), some (.int (x4 + (1 : Int32))), some (.long y2), none, some (.long y3), none] [] M) ∧ ((P_X2_isOn x4 M) → ((¬ (P_X2_isSo x1 y2 y3) → G 46 [some (.ref 404), some (.ref x1), some (.int x2), some (.int x3), some (.int (x4 + (1 : Int32))), some (.long y2), none, some (.long y3), none] [] M) ∧ ((P_X2_isSo x1 y2 y3) → G 46 [some (.ref 404), some (.ref x1), some (.int (x2 ||| ((1 : Int32) <<< (x4 &&& 31)))), some (.int x3), some (.int (x4 + (1 : Int32))), some (.long y2), none, some (.long y3), none] [] M)))))))) : G 46 [some (.ref 404), some (.ref x1), some (.int x2), some (.int x3), some (.int x4), o5, o6, o7, o8] [] M :=
  (hc.2.1 _ _ _ (i_iload rfl (i_aload rfl (i_getR (okS hW Sk_404) (nv_404_4 hW) (i_ic (i_aald hW Ss_443 (vpd rfl) (Wf.mut (M := M) hW (mx_rows (by decide))) (i_getI (okS hW (Wf.mutS (M := M) hW (mx_rows (by decide)))) (i_icmp_ge (fun q799 => (hc.2.2.2.2.2.2 _ _ _ (i_aload rfl (i_getR (okS hW Sk_404) (nv_404_0 hW) (i_getR (okS hW Sk_405) (nv_405_2 hW) (i_aload rfl (i_getI (okS hW Sk_404) (i_iload rfl (i_iast hW Ss_408 (h.1 q799).1 (i_vret hW.1 (h.1 q799).2)))))))))) (fun q799 => (hc.2.2.1 _ _ _ (i_iload rfl (i_aload rfl (i_getR (okS hW Sk_404) (nv_404_4 hW) (i_ic (i_aald hW Ss_443 (vpd rfl) (Wf.mut (M := M) hW (mx_rows (by decide))) (i_getR (okS hW (Wf.mutS (M := M) hW (mx_rows (by decide)))) (nvRow hW (Wf.mutS (M := M) hW (mx_rows (by decide)))) (i_iload rfl (i_lald hW (Srow (Wf.mutS (M := M) hW (mx_rows (by decide)))) (h.2 q799).1 (i_callS2 (Nat.le_of_ble_eq_true rfl) (c_X3_value hW  (i_rJ (i_lstore (Nat.le_of_ble_eq_true rfl) (i_iload rfl (i_aload rfl (i_getR (okS hW Sk_404) (nv_404_4 hW) (i_ic (i_aald hW Ss_443 (vpd rfl) (Wf.mut (M := M) hW (mx_rows (by decide))) (i_getR (okS hW (Wf.mutS (M := M) hW (mx_rows (by decide)))) (nvRow hW (Wf.mutS (M := M) hW (mx_rows (by decide)))) (i_iload rfl (i_lald hW (Srow (Wf.mutS (M := M) hW (mx_rows (by decide)))) ((h.2 q799).2 _ rfl).1 (i_callS2 (Nat.le_of_ble_eq_true rfl) (c_X3_value hW  (i_rJ (i_lstore (Nat.le_of_ble_eq_true rfl) (i_aload rfl (i_iload rfl (i_callV2 (Nat.le_of_ble_eq_true rfl) (okS hW Sk_404) (c_X2_isOn hW  (i_rI (i_bI_eq (fun q800 => (hc.2.2.2.2.2.1 _ _ _ (i_iinc rfl ((((h.2 q799).2 _ rfl).2 _ rfl).1 q800)))) (fun q800 => (hc.2.2.2.1 _ _ _ (i_aload rfl (i_lload rfl (i_lload rfl (i_callS3 (Nat.le_of_ble_eq_true rfl) (c_X2_isSo hW hx1 (i_rI (i_bI_eq (fun q801 => (hc.2.2.2.2.2.1 _ _ _ (i_iinc rfl (((((h.2 q799).2 _ rfl).2 _ rfl).2 q800).1 q801)))) (fun q801 => (hc.2.2.2.2.1 _ _ _ (i_iload rfl (i_ic (i_iload rfl (i_ishl (i_ior (i_istore (Nat.le_of_ble_eq_true rfl) (hc.2.2.2.2.2.1 _ _ _ (i_iinc rfl (((((h.2 q799).2 _ rfl).2 _ rfl).2 q800).2 q801))))))))))))))))))))))))))))))))))))))))))))))))))))))))))))
theorem wX2_compare {x1 : Nat} {M : Mem} {K : RT} (hW : Wf M) (hx1 : isOp x1) (h : ∀ {G : Nat → KT}, cloX2_compare G K wT → (vp_in (gI M 404 6) 4) ∧ (∀ y1 : Int32, y1 = (((gI M 408 (gI M 404 6).toNatClampNeg) &&& ((gI M 404 8) ^^^ (-1 : Int32))) &&& (f_X2_below (gI M (rR M 443 0) 1))) → G 46 [some (.ref 404), some (.ref x1), some (.int y1), some (.int (gI M (rR M 443 0) 0)), some (.int (0 : Int32)), none, none, none, none] [] M)) : sp_X2_compare [.ref 404, .ref x1] M K := by
  refine ⟨Nat.le_of_ble_eq_true rfl, fun G hc => ?_⟩
  rw [hW.1] at hc
  exact eX2_compare hc hW hx1 (h hc)
noncomputable def fo (o : Nat) (t : Option Int64) (x : Int64) : Int64 :=
  match t with
  | none => x
  | some v => if o = 41 then v + x else if o = 42 then f_J9_min_f86c9 v x else f_J9_max_f86c9 v x
noncomputable def frun (o : Nat) (f : Nat → Int64) (on : Nat → Prop) : Nat → Nat → Option Int64 → Option Int64
  | 0, _, t => t
  | j + 1, i, t => iT (on i) (frun o f on j (i + 1) (some (fo o t (f i)))) (frun o f on j (i + 1) t)
/-- which scalar value comes out, if any -/
noncomputable def foEnd (o : Nat) (t : Option Int64) : Option Int64 := match t with | none => if o = 41 then some 0 else none | some v => some v
def ScIs (M : Mem) (S : Int64) : Prop := ∃ q, q < 8 ∧ gI M 404 7 = nI q ∧ gL M 409 q = S
theorem frun_none {o : Nat} {f : Nat → Int64} {on : Nat → Prop} : ∀ j i t, frun o f on j i t = none ↔ t = none ∧ ∀ p, i ≤ p → p < i + j → ¬ on p := by
  intro j
  induction j with
  | zero => intro i t; exact ⟨fun h => ⟨h, fun p h1 h2 => absurd h2 (by omega)⟩, fun h => h.1⟩
  | succ j ih =>
    intro i t
    show iT (on i) _ _ = none ↔ _
    by_cases q : on i
    · rw [iT_t q, ih]
      exact ⟨fun h => absurd h.1 (by simp), fun h => absurd q (h.2 i (Nat.le_refl _) (by omega))⟩
    · rw [iT_f q, ih]
      refine and_congr Iff.rfl ⟨fun h p h1 h2 => ?_, fun h p h1 h2 => h p (by omega) (by omega)⟩
      by_cases e : p = i
      · subst e; exact q
      · exact h p (by omega) (by omega)
theorem min_top (x : Int64) : f_J9_min_f86c9 (9223372036854775807 : Int64) x = x := by
  unfold f_J9_min_f86c9
  have h1 := Int64.toInt_lt x
  have e : (9223372036854775807 : Int64).toInt = 9223372036854775807 := by decide
  split
  · rename_i h
    first
      | rfl
      | (rw [Int64.le_iff_toInt_le, e] at h; refine Int64.toInt_inj.mp ?_; omega)
      | (rw [Int64.lt_iff_toInt_lt, e] at h; refine Int64.toInt_inj.mp ?_; omega)
  · rename_i h
    first
      | rfl
      | (rw [Int64.le_iff_toInt_le, e] at h; refine Int64.toInt_inj.mp ?_; omega)
      | (rw [Int64.lt_iff_toInt_lt, e] at h; refine Int64.toInt_inj.mp ?_; omega)
theorem max_bot (x : Int64) : f_J9_max_f86c9 (-9223372036854775808 : Int64) x = x := by
  unfold f_J9_max_f86c9
  have h1 := Int64.le_toInt x
  have e : (-9223372036854775808 : Int64).toInt = -9223372036854775808 := by decide
  split
  · rename_i h
    first
      | rfl
      | (rw [Int64.le_iff_toInt_le, e] at h; refine Int64.toInt_inj.mp ?_; omega)
      | (rw [Int64.lt_iff_toInt_lt, e] at h; refine Int64.toInt_inj.mp ?_; omega)
  · rename_i h
    first
      | rfl
      | (rw [Int64.le_iff_toInt_le, e] at h; refine Int64.toInt_inj.mp ?_; omega)
      | (rw [Int64.lt_iff_toInt_lt, e] at h; refine Int64.toInt_inj.mp ?_; omega)
def foSt (o : Nat) (t : Option Int64) (a b c : Int64) : Prop := match t with | none => a = 0 ∧ b = 9223372036854775807 ∧ c = -9223372036854775808 | some v => (o = 41 → a = v) ∧ (o = 42 → b = v) ∧ (o = 43 → c = v)
theorem foSt_step {o : Nat} (ho : o = 41 ∨ o = 42 ∨ o = 43) {t : Option Int64} {a b c x : Int64} (h : foSt o t a b c) : foSt o (some (fo o t x)) (a + x) (f_J9_min_f86c9 b x) (f_J9_max_f86c9 c x) := by
  cases t with
  | none =>
    obtain ⟨rfl, rfl, rfl⟩ := h
    exact ⟨fun _ => Int64.zero_add x, fun _ => min_top x, fun _ => max_bot x⟩
  | some v =>
    obtain ⟨h1, h2, h3⟩ := h
    refine ⟨fun e => ?_, fun e => ?_, fun e => ?_⟩
    · rw [h1 e]; subst e; rfl
    · rw [h2 e]; subst e; rfl
    · rw [h3 e]; subst e; rfl
theorem c_fold {o r0 n q : Nat} {w : Int32} {f : Nat → Int64} {M : Mem} {K : RT} (hW : Wf M) (ho : o = 41 ∨ o = 42 ∨ o = 43) (hr0 : gR M 443 0 = some r0) (kr0 : (Sh r0).1 = 5) (hn : gI M r0 1 = nI n ∧ n ≤ 32) (hf : ∀ j, j < n → gL M (r0 + 1) j = f j) (hw : gI M 404 8 = w) (hz : w = 0 ↔ ∀ i, i < n → ¬ onW w i) (hq : q < 8) (hs : gI M 404 7 = nI q)
    (h : K none (match foEnd o (frun o f (onW w) n 0 none) with | none => M | some v => uL M 409 q v)) : sp_X2_fold [.ref 404, .ref (100000 + o)] M K := by
  have hx : isOp (100000 + o) := by rcases ho with rfl | rfl | rfl <;> exact isOp_lit (by decide)
  refine wX2_fold hW hx (fun {G} hc => ?_)
  have hv : vp_in (gI M 404 7) 8 := by rw [hs]; exact vpN hq (by decide)
  have hcl : (gI M 404 7).toNatClampNeg = q := by rw [hs, nI_clamp (by omega)]
  have loop : ∀ j i t a b c, i + j = n → foSt o t a b c → frun o f (onW w) j i t = frun o f (onW w) n 0 none → ∀ {o9 o10 : Option Value}, G 15 [some (.ref 404), some (.ref (100000 + o)), some (.long a), none, some (.long b), none, some (.long c), none, some (.int (nI i)), o9, o10] [] M := by
    intro j
    induction j with
    | zero =>
      intro i t a b c hi hst hl o9 o10
      have : i = n := by omega
      subst this
      have hl : t = frun o f (onW w) i 0 none := hl
      refine eX2_fold_15 hc hW hx ?_
      rw [rR_of hr0, hn.1, hw, hcl]
      refine ⟨fun _ => ⟨fun q1 => ⟨fun q2 => ?_, fun q2 => ⟨fun q3 => ⟨hv, ?_⟩, fun q3 => ⟨hv, ?_⟩⟩⟩, fun q1 => ⟨hv, ?_⟩⟩, fun q => absurd (nI_le (Nat.le_refl _) (by omega)) q⟩
      · have e : frun o f (onW w) i 0 none = none := (frun_none i 0 none).mpr ⟨rfl, fun p _ h2 => (hz.mp q2) p (by omega)⟩
        rw [e] at h
        have e2 : foEnd o none = none := if_neg (by omega)
        rw [e2] at h
        exact h
      · cases t with
        | none =>
          refine absurd (hz.mpr (fun p hp => ((frun_none i 0 none).mp hl.symm).2 p (Nat.zero_le _) (by omega))) q2
        | some v =>
          rw [← hl] at h
          rw [hst.2.2 (by omega)]; exact h
      · cases t with
        | none =>
          refine absurd (hz.mpr (fun p hp => ((frun_none i 0 none).mp hl.symm).2 p (Nat.zero_le _) (by omega))) q2
        | some v =>
          rw [← hl] at h
          rw [hst.2.1 (by omega)]; exact h
      · cases t with
        | none =>
          rw [← hl] at h
          have e2 : foEnd o none = some 0 := if_pos (by omega)
          rw [e2] at h
          rw [hst.1]; exact h
        | some v =>
          rw [← hl] at h
          rw [hst.1 (by omega)]; exact h
    | succ j ih =>
      intro i t a b c hi hst hl o9 o10
      have hl : iT (onW w i) (frun o f (onW w) j (i + 1) (some (fo o t (f i)))) (frun o f (onW w) j (i + 1) t) = frun o f (onW w) n 0 none := hl
      have hP : P_X2_isOn (nI i) M ↔ onW w i := by unfold P_X2_isOn; rw [hw]; exact Iff.rfl
      have hn2 := hn.2
      refine eX2_fold_15 hc hW hx ?_
      rw [rR_of hr0, hn.1, hP, nI_1, nI_clamp (by omega)]
      refine ⟨fun q => absurd ((nI_leI (by omega) (by omega)).mp q) (by omega), fun _ => ⟨fun q => ?_, fun q => ⟨vpN (by omega) (by decide), fun y e => ?_⟩⟩⟩
      · rw [iT_f q] at hl
        exact ih (i + 1) t a b c (by omega) hst hl
      · rw [iT_t q] at hl
        rw [hf i (by omega)] at e
        subst e
        exact ih (i + 1) _ _ _ _ (by omega) (foSt_step ho hst) hl
  exact loop n 0 none 0 9223372036854775807 (-9223372036854775808) (by omega) ⟨rfl, rfl, rfl⟩ rfl
/-- compare -/
noncomputable def crun (p : Nat → Prop) : Nat → Nat → Int32 → Int32
  | 0, _, b => b
  | j + 1, i, b => crun p j (i + 1) (iT (p i) (b ||| ((1 : Int32) <<< (nI i &&& 31))) b)
theorem c_compare {o r0 r1 n q : Nat} {k w mw : Int32} {f g : Nat → Int64} {M : Mem} {K : RT} (hW : Wf M) (hx : isOp (100000 + o)) (hr0 : gR M 443 0 = some r0) (hr1 : gR M 443 1 = some r1) (hk : gI M r0 0 = k) (hn : gI M r0 1 = nI n ∧ n ≤ 32) (hf : ∀ j, j < n → gL M (r0 + 1) j = f j) (hg : ∀ j, j < n → gL M (r1 + 1) j = g j) (hw : gI M 404 8 = w) (hq : q < 4) (hs : gI M 404 6 = nI q) (hm : gI M 408 q = mw)
    (h : K none (uI M 408 q (crun (fun i => onW w i ∧ P_X2_isSo (100000 + o) (f_X3_value k (f i)) (f_X3_value k (g i))) n 0 ((mw &&& (w ^^^ (-1 : Int32))) &&& f_X2_below (nI n))))) : sp_X2_compare [.ref 404, .ref (100000 + o)] M K := by
  refine ⟨Nat.le_of_ble_eq_true rfl, fun G hc => ?_⟩
  rw [hW.1] at hc
  have hv : vp_in (gI M 404 6) 4 := by rw [hs]; exact vpN hq (by decide)
  have hcl : (gI M 404 6).toNatClampNeg = q := by rw [hs, nI_clamp (by omega)]
  have hn2 := hn.2
  have loop : ∀ j i b, i + j = n → crun (fun i => onW w i ∧ P_X2_isSo (100000 + o) (f_X3_value k (f i)) (f_X3_value k (g i))) j i b = crun (fun i => onW w i ∧ P_X2_isSo (100000 + o) (f_X3_value k (f i)) (f_X3_value k (g i))) n 0 ((mw &&& (w ^^^ (-1 : Int32))) &&& f_X2_below (nI n)) → ∀ {o5 o6 o7 o8 : Option Value}, G 46 [some (.ref 404), some (.ref (100000 + o)), some (.int b), some (.int k), some (.int (nI i)), o5, o6, o7, o8] [] M := by
    intro j
    induction j with
    | zero =>
      intro i b hi hl o5 o6 o7 o8
      have : i = n := by omega
      subst this
      have hl : b = _ := hl
      refine eX2_compare_46 hc hW hx ?_
      rw [rR_of hr0, hn.1, hcl, hl]
      exact ⟨fun _ => ⟨hv, h⟩, fun q => absurd (nI_le (Nat.le_refl _) (by omega)) q⟩
    | succ j ih =>
      intro i b hi hl o5 o6 o7 o8
      have hl : crun (fun i => onW w i ∧ P_X2_isSo (100000 + o) (f_X3_value k (f i)) (f_X3_value k (g i))) j (i + 1) (iT (onW w i ∧ P_X2_isSo (100000 + o) (f_X3_value k (f i)) (f_X3_value k (g i))) (b ||| ((1 : Int32) <<< (nI i &&& 31))) b) = _ := hl
      have hP : P_X2_isOn (nI i) M ↔ onW w i := by unfold P_X2_isOn; rw [hw]; exact Iff.rfl
      refine eX2_compare_46 hc hW hx ?_
      rw [rR_of hr0, rR_of hr1, hn.1, hP, nI_1, nI_clamp (by omega), hf i (by omega), hg i (by omega)]
      refine ⟨fun q => absurd ((nI_leI (by omega) (by omega)).mp q) (by omega), fun _ => ⟨vpN (by omega) (by decide), fun y e => ⟨vpN (by omega) (by decide), fun z e2 => ?_⟩⟩⟩
      subst e e2
      refine ⟨fun q => ?_, fun q => ⟨fun q2 => ?_, fun q2 => ?_⟩⟩
      · rw [iT_f (fun z => q z.1)] at hl
        exact ih (i + 1) b (by omega) hl
      · rw [iT_f (fun z => q2 z.2)] at hl
        exact ih (i + 1) b (by omega) hl
      · rw [iT_t ⟨q, q2⟩] at hl
        exact ih (i + 1) _ (by omega) hl
  refine eX2_compare hc hW hx ⟨hv, fun y e => ?_⟩
  rw [hcl, hm, hw, rR_of hr0, hn.1] at e
  subst e
  rw [rR_of hr0, hk]
  exact loop n 0 _ (by omega) rfl
end FOLD
