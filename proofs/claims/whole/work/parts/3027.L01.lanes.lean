section LANES1
/-- a fault is put down -/
def fM (f : Int32) (M : Mem) : Mem := if f = 0 then M else uI M 404 9 f
theorem fM_0 {M : Mem} : fM 0 M = M := if_pos rfl
theorem Wf_fM {f : Int32} {M : Mem} (h : Wf M) : Wf (fM f M) := by unfold fM; split <;> exact h
set_option maxRecDepth 100000 in
theorem eX2_ranged {G : Nat → KT} {K : RT} (hc : cloX2_ranged G K wT) {x1 : Int32} {x2 : Int64} {M : Mem} (hW : Wf M) (h : (¬ (P_X3_isInfinite x1 x2) → K (some (.long x2)) M) ∧ ((P_X3_isInfinite x1 x2) → K (some (.long x2)) (uI M 404 9 (6 : Int32)))) : G 0 [some (.ref 404), some (.int x1), some (.long x2), none] [] M :=
  (hc.1 _ _ _ (i_iload rfl (i_lload rfl (i_callS2 (Nat.le_of_ble_eq_true rfl) (c_X3_isInfinite hW  (i_rI (i_bI_eq (fun q562 => (hc.2.2 _ _ _ (i_lload rfl (i_lret hW.1 (h.1 q562))))) (fun q562 => (hc.2.1 _ _ _ (i_aload rfl (i_ic (i_putI (okS hW Sk_404) (hc.2.2 _ _ _ (i_lload rfl (i_lret hW.1 (h.2 q562))))))))))))))))
theorem wX2_ranged {x1 : Int32} {x2 : Int64} {M : Mem} {K : RT} (hW : Wf M) (h : (¬ (P_X3_isInfinite x1 x2) → K (some (.long x2)) M) ∧ ((P_X3_isInfinite x1 x2) → K (some (.long x2)) (uI M 404 9 (6 : Int32)))) : sp_X2_ranged [.ref 404, .int x1, .long x2] M K := by
  refine ⟨Nat.le_of_ble_eq_true rfl, fun G hc => ?_⟩
  rw [hW.1] at hc
  exact eX2_ranged hc hW  h
noncomputable def f_X2_ranged (x1 : Int32) (x2 : Int64) : Int64 := x2
noncomputable def m_X2_ranged (x1 : Int32) (x2 : Int64) (M : Mem) : Mem := (iT ((P_X3_isInfinite x1 x2)) (uI M 404 9 (6 : Int32)) M)
theorem c_X2_ranged {x1 : Int32} {x2 : Int64} {M : Mem} {K : RT} (hW : Wf M) (h : K (some (.long (f_X2_ranged x1 x2))) (m_X2_ranged x1 x2 M)) : sp_X2_ranged [.ref 404, .int x1, .long x2] M K := by
  refine wX2_ranged hW  ?_
  unfold f_X2_ranged m_X2_ranged at h
  refine ⟨fun q0 => ?_, fun q0 => ?_⟩
  · skip
    try simp only [iT_f q0] at h
    first | exact h | contradiction
  · skip
    try simp only [iT_t q0] at h
    first | exact h | contradiction
theorem Wf_m_X2_ranged (x1 : Int32) (x2 : Int64) {M : Mem} (hW : Wf M) : Wf (m_X2_ranged x1 x2 M) := by
  unfold m_X2_ranged
  try unfold iT
  split
  · skip
    exact hW
  · skip
    exact hW
set_option maxRecDepth 100000 in
theorem eX2_added {G : Nat → KT} {K : RT} (hc : cloX2_added G K wT) {x1 : Int32} {x2 : Int64} {x4 : Int64} {M : Mem} (hW : Wf M) (h : (¬ (P_X3_isReal x1) → K (some (.long (f_X3_lowBits x1 (x2 + x4)))) M) ∧ ((P_X3_isReal x1) → ((fin2 x1 x2 x4) ∧ K (some (.long (f_X2_ranged x1 (sumJ x1 x2 x4)))) (m_X2_ranged x1 (sumJ x1 x2 x4) M)))) : G 0 [some (.ref 404), some (.int x1), some (.long x2), none, some (.long x4), none] [] M :=
  (hc.1 _ _ _ (i_iload rfl (i_callS1 (Nat.le_of_ble_eq_true rfl) (c_X3_isReal hW  (i_rI (i_bI_eq (fun q716 => (hc.2.2.1 _ _ _ (i_iload rfl (i_lload rfl (i_lload rfl (i_ladd (i_callS2 (Nat.le_of_ble_eq_true rfl) (c_X3_lowBits hW  (i_rJ (hc.2.2.2 _ _ _ (i_lret hW.1 (h.1 q716)))))))))))) (fun q716 => (hc.2.1 _ _ _ (i_aload rfl (i_iload rfl (i_iload rfl (i_lload rfl (i_lload rfl (i_callS3 (Nat.le_of_ble_eq_true rfl) (c_sumJ hW  (h.2 q716).1 (i_rJ (i_callV3 (Nat.le_of_ble_eq_true rfl) (okS hW Sk_404) (c_X2_ranged hW  (i_rJ (hc.2.2.2 _ _ _ (i_lret (Wf_m_X2_ranged (M := M) x1 (sumJ x1 x2 x4) hW).1 (h.2 q716).2)))))))))))))))))))))
theorem wX2_added {x1 : Int32} {x2 : Int64} {x4 : Int64} {M : Mem} {K : RT} (hW : Wf M) (h : (¬ (P_X3_isReal x1) → K (some (.long (f_X3_lowBits x1 (x2 + x4)))) M) ∧ ((P_X3_isReal x1) → ((fin2 x1 x2 x4) ∧ K (some (.long (f_X2_ranged x1 (sumJ x1 x2 x4)))) (m_X2_ranged x1 (sumJ x1 x2 x4) M)))) : sp_X2_added [.ref 404, .int x1, .long x2, .long x4] M K := by
  refine ⟨Nat.le_of_ble_eq_true rfl, fun G hc => ?_⟩
  rw [hW.1] at hc
  exact eX2_added hc hW  h
noncomputable def f_X2_added (x1 : Int32) (x2 : Int64) (x4 : Int64) : Int64 := (iT ((P_X3_isReal x1)) (f_X2_ranged x1 (sumJ x1 x2 x4)) (f_X3_lowBits x1 (x2 + x4)))
noncomputable def m_X2_added (x1 : Int32) (x2 : Int64) (x4 : Int64) (M : Mem) : Mem := (iT ((P_X3_isReal x1)) (m_X2_ranged x1 (sumJ x1 x2 x4) M) M)
def q_X2_added (x1 : Int32) (x2 : Int64) (x4 : Int64) : Prop := ((P_X3_isReal x1) → (fin2 x1 x2 x4))
theorem c_X2_added {x1 : Int32} {x2 : Int64} {x4 : Int64} {M : Mem} {K : RT} (hW : Wf M) (hp : q_X2_added x1 x2 x4) (h : K (some (.long (f_X2_added x1 x2 x4))) (m_X2_added x1 x2 x4 M)) : sp_X2_added [.ref 404, .int x1, .long x2, .long x4] M K := by
  refine wX2_added hW  ?_
  unfold f_X2_added m_X2_added at h
  unfold q_X2_added at hp
  refine ⟨fun q0 => ?_, fun q0 => ?_⟩
  · skip
    try simp only [iT_f q0] at h
    first | exact h | contradiction
  · have hq0 := hp q0
    try simp only [iT_t q0] at h
    refine ⟨hq0, ?_⟩
    first | exact h | contradiction
theorem Wf_m_X2_added (x1 : Int32) (x2 : Int64) (x4 : Int64) {M : Mem} (hW : Wf M) : Wf (m_X2_added x1 x2 x4 M) := by
  unfold m_X2_added
  try unfold iT
  split
  · skip
    exact (Wf_m_X2_ranged (M := M) x1 (sumJ x1 x2 x4) hW)
  · skip
    exact hW
noncomputable def infJ (k : Int32) (v : Int64) : Int32 := iT (P_X3_isInfinite k v) 6 0
theorem rg_fM {k : Int32} {v : Int64} {M : Mem} : m_X2_ranged k v M = fM (infJ k v) M := by
  unfold m_X2_ranged infJ fM iT
  split <;> rfl
/-- binary operations of reals: fault and value -/
noncomputable def reaS (o : Nat) (k : Int32) (x y : Int64) : Int32 × Int64 :=
  match o with
  | 1 => (infJ k (sumJ k x y), sumJ k x y)
  | 2 => (infJ k (sumJ k x (f_X3_turned k y)), sumJ k x (f_X3_turned k y))
  | 3 => (infJ k (proJ k x y), proJ k x y)
  | 4 => iT (P_X3_isZero k y) (5, 0) (infJ k (quoJ k x y), quoJ k x y)
  | 5 => iT (P_X3_isZero k y) (5, 0) (0, resJ k x y)
  | 6 => (0, if f_X3_order k y < f_X3_order k x then y else x)
  | _ => (0, if f_X3_order k x < f_X3_order k y then y else x)
/-- .. of whole kinds -/
noncomputable def whoS (o : Nat) (k : Int32) (x y : Int64) : Int32 × Int64 :=
  match o with
  | 1 => (0, f_X3_lowBits k (x + y))
  | 2 => (0, f_X3_lowBits k (x - y))
  | 3 => (0, f_X3_lowBits k (x * y))
  | 4 => if y = 0 then (5, 0) else (0, f_X3_lowBits k (x / y))
  | 5 => if y = 0 then (5, 0) else (0, f_X3_lowBits k (x - x / y * y))
  | 6 => (0, f_J9_min_f86c9 x y)
  | 7 => (0, f_J9_max_f86c9 x y)
  | 8 => (0, x &&& y)
  | 9 => (0, x ||| y)
  | _ => (0, x ^^^ y)
theorem reaS4 {k : Int32} {x y : Int64} : reaS 4 k x y = iT (P_X3_isZero k y) (5, 0) (infJ k (quoJ k x y), quoJ k x y) := rfl
theorem reaS5 {k : Int32} {x y : Int64} : reaS 5 k x y = iT (P_X3_isZero k y) (5, 0) (0, resJ k x y) := rfl
theorem reaS6 {k : Int32} {x y : Int64} : reaS 6 k x y = (0, if f_X3_order k y < f_X3_order k x then y else x) := rfl
theorem reaS7 {k : Int32} {x y : Int64} : reaS 7 k x y = (0, if f_X3_order k x < f_X3_order k y then y else x) := rfl
theorem whoS4 {k : Int32} {x y : Int64} : whoS 4 k x y = if y = 0 then (5, 0) else (0, f_X3_lowBits k (x / y)) := rfl
theorem whoS5 {k : Int32} {x y : Int64} : whoS 5 k x y = if y = 0 then (5, 0) else (0, f_X3_lowBits k (x - x / y * y)) := rfl
/-- results of a fault and a value -/
def kF (K : RT) (M : Mem) (r : Int32 × Int64) : Prop := K (some (.long r.2)) (fM r.1 M)
set_option maxRecDepth 100000 in
theorem eX2_ofReals_1 {G : Nat → KT} {K : RT} (hc : cloX2_ofReals G K wT) {x2 : Int32} {x3 : Int64} {x5 : Int64} {M : Mem} (hW : Wf M) (h : (fin2 x2 x3 x5) ∧ K (some (.long (f_X2_ranged x2 (sumJ x2 x3 x5)))) (m_X2_ranged x2 (sumJ x2 x3 x5) M)) : G 0 [some (.ref 404), some (.ref 100001), some (.int x2), some (.long x3), none, some (.long x5), none] [] M :=
  (hc.1 _ _ _ (i_gets (i_aload rfl (i_ord (isOp_lit (by decide)) (i_eqI (by decide +kernel : Int32.ofNat (100001 - 100000) = 1) (i_swldC (vpd rfl) (by decide +kernel : Int32.ofNat (swT.getD ((1 : Int32).toNatClampNeg) 0) = 14) (And.intro (fun _ => (hc.2.1 _ _ _ (i_aload rfl (i_iload rfl (i_iload rfl (i_lload rfl (i_lload rfl (i_callS3 (Nat.le_of_ble_eq_true rfl) (c_sumJ hW  h.1 (i_rJ (i_callV3 (Nat.le_of_ble_eq_true rfl) (okS hW Sk_404) (c_X2_ranged hW  (i_rJ (i_lret (Wf_m_X2_ranged (M := M) x2 (sumJ x2 x3 x5) hW).1 h.2)))))))))))))) (fun q => absurd rfl q))))))))
theorem wX2_ofReals_1 {x2 : Int32} {x3 : Int64} {x5 : Int64} {M : Mem} {K : RT} (hW : Wf M) (h : (fin2 x2 x3 x5) ∧ K (some (.long (f_X2_ranged x2 (sumJ x2 x3 x5)))) (m_X2_ranged x2 (sumJ x2 x3 x5) M)) : sp_X2_ofReals [.ref 404, .ref 100001, .int x2, .long x3, .long x5] M K := by
  refine ⟨Nat.le_of_ble_eq_true rfl, fun G hc => ?_⟩
  rw [hW.1] at hc
  exact eX2_ofReals_1 hc hW  h
set_option maxRecDepth 100000 in
theorem eX2_ofReals_2 {G : Nat → KT} {K : RT} (hc : cloX2_ofReals G K wT) {x2 : Int32} {x3 : Int64} {x5 : Int64} {M : Mem} (hW : Wf M) (h : (fin2 x2 x3 (f_X3_turned x2 x5)) ∧ K (some (.long (f_X2_ranged x2 (sumJ x2 x3 (f_X3_turned x2 x5))))) (m_X2_ranged x2 (sumJ x2 x3 (f_X3_turned x2 x5)) M)) : G 0 [some (.ref 404), some (.ref 100002), some (.int x2), some (.long x3), none, some (.long x5), none] [] M :=
  (hc.1 _ _ _ (i_gets (i_aload rfl (i_ord (isOp_lit (by decide)) (i_eqI (by decide +kernel : Int32.ofNat (100002 - 100000) = 2) (i_swldC (vpd rfl) (by decide +kernel : Int32.ofNat (swT.getD ((2 : Int32).toNatClampNeg) 0) = 15) (And.intro (fun q => absurd q (by decide)) (fun _ => (And.intro (fun _ => (hc.2.2.1 _ _ _ (i_aload rfl (i_iload rfl (i_iload rfl (i_lload rfl (i_iload rfl (i_lload rfl (i_callS2 (Nat.le_of_ble_eq_true rfl) (c_X3_turned hW  (i_rJ (i_callS3 (Nat.le_of_ble_eq_true rfl) (c_sumJ hW  h.1 (i_rJ (i_callV3 (Nat.le_of_ble_eq_true rfl) (okS hW Sk_404) (c_X2_ranged hW  (i_rJ (i_lret (Wf_m_X2_ranged (M := M) x2 (sumJ x2 x3 (f_X3_turned x2 x5)) hW).1 h.2)))))))))))))))))) (fun q => absurd rfl q))))))))))
theorem wX2_ofReals_2 {x2 : Int32} {x3 : Int64} {x5 : Int64} {M : Mem} {K : RT} (hW : Wf M) (h : (fin2 x2 x3 (f_X3_turned x2 x5)) ∧ K (some (.long (f_X2_ranged x2 (sumJ x2 x3 (f_X3_turned x2 x5))))) (m_X2_ranged x2 (sumJ x2 x3 (f_X3_turned x2 x5)) M)) : sp_X2_ofReals [.ref 404, .ref 100002, .int x2, .long x3, .long x5] M K := by
  refine ⟨Nat.le_of_ble_eq_true rfl, fun G hc => ?_⟩
  rw [hW.1] at hc
  exact eX2_ofReals_2 hc hW  h
set_option maxRecDepth 100000 in
theorem eX2_ofReals_3 {G : Nat → KT} {K : RT} (hc : cloX2_ofReals G K wT) {x2 : Int32} {x3 : Int64} {x5 : Int64} {M : Mem} (hW : Wf M) (h : (fin2 x2 x3 x5) ∧ K (some (.long (f_X2_ranged x2 (proJ x2 x3 x5)))) (m_X2_ranged x2 (proJ x2 x3 x5) M)) : G 0 [some (.ref 404), some (.ref 100003), some (.int x2), some (.long x3), none, some (.long x5), none] [] M :=
  (hc.1 _ _ _ (i_gets (i_aload rfl (i_ord (isOp_lit (by decide)) (i_eqI (by decide +kernel : Int32.ofNat (100003 - 100000) = 3) (i_swldC (vpd rfl) (by decide +kernel : Int32.ofNat (swT.getD ((3 : Int32).toNatClampNeg) 0) = 16) (And.intro (fun q => absurd q (by decide)) (fun _ => (And.intro (fun q => absurd q (by decide)) (fun _ => (And.intro (fun _ => (hc.2.2.2.1 _ _ _ (i_aload rfl (i_iload rfl (i_iload rfl (i_lload rfl (i_lload rfl (i_callS3 (Nat.le_of_ble_eq_true rfl) (c_proJ hW  h.1 (i_rJ (i_callV3 (Nat.le_of_ble_eq_true rfl) (okS hW Sk_404) (c_X2_ranged hW  (i_rJ (i_lret (Wf_m_X2_ranged (M := M) x2 (proJ x2 x3 x5) hW).1 h.2)))))))))))))) (fun q => absurd rfl q))))))))))))
theorem wX2_ofReals_3 {x2 : Int32} {x3 : Int64} {x5 : Int64} {M : Mem} {K : RT} (hW : Wf M) (h : (fin2 x2 x3 x5) ∧ K (some (.long (f_X2_ranged x2 (proJ x2 x3 x5)))) (m_X2_ranged x2 (proJ x2 x3 x5) M)) : sp_X2_ofReals [.ref 404, .ref 100003, .int x2, .long x3, .long x5] M K := by
  refine ⟨Nat.le_of_ble_eq_true rfl, fun G hc => ?_⟩
  rw [hW.1] at hc
  exact eX2_ofReals_3 hc hW  h
set_option maxRecDepth 100000 in
theorem eX2_ofReals_4 {G : Nat → KT} {K : RT} (hc : cloX2_ofReals G K wT) {x2 : Int32} {x3 : Int64} {x5 : Int64} {M : Mem} (hW : Wf M) (h : (¬ (P_X3_isZero x2 x5) → ((fin2z x2 x3 x5) ∧ K (some (.long (f_X2_ranged x2 (quoJ x2 x3 x5)))) (m_X2_ranged x2 (quoJ x2 x3 x5) M))) ∧ ((P_X3_isZero x2 x5) → K (some (.long (0 : Int64))) (uI M 404 9 (5 : Int32)))) : G 0 [some (.ref 404), some (.ref 100004), some (.int x2), some (.long x3), none, some (.long x5), none] [] M :=
  (hc.1 _ _ _ (i_gets (i_aload rfl (i_ord (isOp_lit (by decide)) (i_eqI (by decide +kernel : Int32.ofNat (100004 - 100000) = 4) (i_swldC (vpd rfl) (by decide +kernel : Int32.ofNat (swT.getD ((4 : Int32).toNatClampNeg) 0) = 17) (And.intro (fun q => absurd q (by decide)) (fun _ => (And.intro (fun q => absurd q (by decide)) (fun _ => (And.intro (fun q => absurd q (by decide)) (fun _ => (And.intro (fun _ => (hc.2.2.2.2.1 _ _ _ (i_iload rfl (i_lload rfl (i_callS2 (Nat.le_of_ble_eq_true rfl) (c_X3_isZero hW  (i_rI (i_bI_eq (fun q2498 => (hc.2.2.2.2.2.2.1 _ _ _ (i_aload rfl (i_gets (i_acmp_ne (isOp_lit (by decide)) (isOp_lit (by decide)) (fun q => absurd rfl q) (fun _ => (hc.2.2.2.2.2.2.2.1 _ _ _ (i_aload rfl (i_iload rfl (i_iload rfl (i_lload rfl (i_lload rfl (i_callS3 (Nat.le_of_ble_eq_true rfl) (c_quoJ hW  (h.1 q2498).1 (i_rJ (i_callV3 (Nat.le_of_ble_eq_true rfl) (okS hW Sk_404) (c_X2_ranged hW  (i_rJ (hc.2.2.2.2.2.2.2.2.2.1 _ _ _ (i_lret (Wf_m_X2_ranged (M := M) x2 (quoJ x2 x3 x5) hW).1 (h.1 q2498).2)))))))))))))))))))) (fun q2498 => (hc.2.2.2.2.2.1 _ _ _ (i_aload rfl (i_ic (i_putI (okS hW Sk_404) (i_lc (i_lret hW.1 (h.2 q2498)))))))))))))))) (fun q => absurd rfl q))))))))))))))
theorem wX2_ofReals_4 {x2 : Int32} {x3 : Int64} {x5 : Int64} {M : Mem} {K : RT} (hW : Wf M) (h : (¬ (P_X3_isZero x2 x5) → ((fin2z x2 x3 x5) ∧ K (some (.long (f_X2_ranged x2 (quoJ x2 x3 x5)))) (m_X2_ranged x2 (quoJ x2 x3 x5) M))) ∧ ((P_X3_isZero x2 x5) → K (some (.long (0 : Int64))) (uI M 404 9 (5 : Int32)))) : sp_X2_ofReals [.ref 404, .ref 100004, .int x2, .long x3, .long x5] M K := by
  refine ⟨Nat.le_of_ble_eq_true rfl, fun G hc => ?_⟩
  rw [hW.1] at hc
  exact eX2_ofReals_4 hc hW  h
set_option maxRecDepth 100000 in
theorem eX2_ofReals_5 {G : Nat → KT} {K : RT} (hc : cloX2_ofReals G K wT) {x2 : Int32} {x3 : Int64} {x5 : Int64} {M : Mem} (hW : Wf M) (h : (¬ (P_X3_isZero x2 x5) → ((fin2z x2 x3 x5) ∧ K (some (.long (resJ x2 x3 x5))) M)) ∧ ((P_X3_isZero x2 x5) → K (some (.long (0 : Int64))) (uI M 404 9 (5 : Int32)))) : G 0 [some (.ref 404), some (.ref 100005), some (.int x2), some (.long x3), none, some (.long x5), none] [] M :=
  (hc.1 _ _ _ (i_gets (i_aload rfl (i_ord (isOp_lit (by decide)) (i_eqI (by decide +kernel : Int32.ofNat (100005 - 100000) = 5) (i_swldC (vpd rfl) (by decide +kernel : Int32.ofNat (swT.getD ((5 : Int32).toNatClampNeg) 0) = 18) (And.intro (fun q => absurd q (by decide)) (fun _ => (And.intro (fun q => absurd q (by decide)) (fun _ => (And.intro (fun q => absurd q (by decide)) (fun _ => (And.intro (fun q => absurd q (by decide)) (fun _ => (And.intro (fun _ => (hc.2.2.2.2.1 _ _ _ (i_iload rfl (i_lload rfl (i_callS2 (Nat.le_of_ble_eq_true rfl) (c_X3_isZero hW  (i_rI (i_bI_eq (fun q2500 => (hc.2.2.2.2.2.2.1 _ _ _ (i_aload rfl (i_gets (i_acmp_ne (isOp_lit (by decide)) (isOp_lit (by decide)) (fun _ => (hc.2.2.2.2.2.2.2.2.1 _ _ _ (i_iload rfl (i_lload rfl (i_lload rfl (i_callS3 (Nat.le_of_ble_eq_true rfl) (c_resJ hW  (h.1 q2500).1 (i_rJ (hc.2.2.2.2.2.2.2.2.2.1 _ _ _ (i_lret hW.1 (h.1 q2500).2)))))))))) (fun q => absurd q (by decide))))))) (fun q2500 => (hc.2.2.2.2.2.1 _ _ _ (i_aload rfl (i_ic (i_putI (okS hW Sk_404) (i_lc (i_lret hW.1 (h.2 q2500)))))))))))))))) (fun q => absurd rfl q))))))))))))))))
theorem wX2_ofReals_5 {x2 : Int32} {x3 : Int64} {x5 : Int64} {M : Mem} {K : RT} (hW : Wf M) (h : (¬ (P_X3_isZero x2 x5) → ((fin2z x2 x3 x5) ∧ K (some (.long (resJ x2 x3 x5))) M)) ∧ ((P_X3_isZero x2 x5) → K (some (.long (0 : Int64))) (uI M 404 9 (5 : Int32)))) : sp_X2_ofReals [.ref 404, .ref 100005, .int x2, .long x3, .long x5] M K := by
  refine ⟨Nat.le_of_ble_eq_true rfl, fun G hc => ?_⟩
  rw [hW.1] at hc
  exact eX2_ofReals_5 hc hW  h
set_option maxRecDepth 100000 in
theorem eX2_ofReals_6 {G : Nat → KT} {K : RT} (hc : cloX2_ofReals G K wT) {x2 : Int32} {x3 : Int64} {x5 : Int64} {M : Mem} (hW : Wf M) (h : ((f_X3_order x2 x5) < (f_X3_order x2 x3) → K (some (.long x5)) M) ∧ (¬ (f_X3_order x2 x5) < (f_X3_order x2 x3) → K (some (.long x3)) M)) : G 0 [some (.ref 404), some (.ref 100006), some (.int x2), some (.long x3), none, some (.long x5), none] [] M :=
  (hc.1 _ _ _ (i_gets (i_aload rfl (i_ord (isOp_lit (by decide)) (i_eqI (by decide +kernel : Int32.ofNat (100006 - 100000) = 6) (i_swldC (vpd rfl) (by decide +kernel : Int32.ofNat (swT.getD ((6 : Int32).toNatClampNeg) 0) = 19) (And.intro (fun q => absurd q (by decide)) (fun _ => (And.intro (fun q => absurd q (by decide)) (fun _ => (And.intro (fun q => absurd q (by decide)) (fun _ => (And.intro (fun q => absurd q (by decide)) (fun _ => (And.intro (fun q => absurd q (by decide)) (fun _ => (And.intro (fun _ => (hc.2.2.2.2.2.2.2.2.2.2.1 _ _ _ (i_iload rfl (i_lload rfl (i_callS2 (Nat.le_of_ble_eq_true rfl) (c_X3_order hW  (i_rJ (i_iload rfl (i_lload rfl (i_callS2 (Nat.le_of_ble_eq_true rfl) (c_X3_order hW  (i_rJ (i_lcmp (i_lcmp_gt (fun q2502 => (hc.2.2.2.2.2.2.2.2.2.2.2.2.1 _ _ _ (i_lload rfl (hc.2.2.2.2.2.2.2.2.2.2.2.2.2.1 _ _ _ (i_lret hW.1 (h.1 q2502)))))) (fun q2502 => (hc.2.2.2.2.2.2.2.2.2.2.2.1 _ _ _ (i_lload rfl (hc.2.2.2.2.2.2.2.2.2.2.2.2.2.1 _ _ _ (i_lret hW.1 (h.2 q2502)))))))))))))))))))) (fun q => absurd rfl q))))))))))))))))))
theorem wX2_ofReals_6 {x2 : Int32} {x3 : Int64} {x5 : Int64} {M : Mem} {K : RT} (hW : Wf M) (h : ((f_X3_order x2 x5) < (f_X3_order x2 x3) → K (some (.long x5)) M) ∧ (¬ (f_X3_order x2 x5) < (f_X3_order x2 x3) → K (some (.long x3)) M)) : sp_X2_ofReals [.ref 404, .ref 100006, .int x2, .long x3, .long x5] M K := by
  refine ⟨Nat.le_of_ble_eq_true rfl, fun G hc => ?_⟩
  rw [hW.1] at hc
  exact eX2_ofReals_6 hc hW  h
set_option maxRecDepth 100000 in
theorem eX2_ofReals_7 {G : Nat → KT} {K : RT} (hc : cloX2_ofReals G K wT) {x2 : Int32} {x3 : Int64} {x5 : Int64} {M : Mem} (hW : Wf M) (h : ((f_X3_order x2 x3) < (f_X3_order x2 x5) → K (some (.long x5)) M) ∧ (¬ (f_X3_order x2 x3) < (f_X3_order x2 x5) → K (some (.long x3)) M)) : G 0 [some (.ref 404), some (.ref 100007), some (.int x2), some (.long x3), none, some (.long x5), none] [] M :=
  (hc.1 _ _ _ (i_gets (i_aload rfl (i_ord (isOp_lit (by decide)) (i_eqI (by decide +kernel : Int32.ofNat (100007 - 100000) = 7) (i_swldC (vpd rfl) (by decide +kernel : Int32.ofNat (swT.getD ((7 : Int32).toNatClampNeg) 0) = 20) (And.intro (fun q => absurd q (by decide)) (fun _ => (And.intro (fun q => absurd q (by decide)) (fun _ => (And.intro (fun q => absurd q (by decide)) (fun _ => (And.intro (fun q => absurd q (by decide)) (fun _ => (And.intro (fun q => absurd q (by decide)) (fun _ => (And.intro (fun q => absurd q (by decide)) (fun _ => (hc.2.2.2.2.2.2.2.2.2.2.2.2.2.2.1 _ _ _ (i_iload rfl (i_lload rfl (i_callS2 (Nat.le_of_ble_eq_true rfl) (c_X3_order hW  (i_rJ (i_iload rfl (i_lload rfl (i_callS2 (Nat.le_of_ble_eq_true rfl) (c_X3_order hW  (i_rJ (i_lcmp (i_lcmp_lt (fun q2504 => (hc.2.2.2.2.2.2.2.2.2.2.2.2.2.2.2.2.1 _ _ _ (i_lload rfl (hc.2.2.2.2.2.2.2.2.2.2.2.2.2.2.2.2.2 _ _ _ (i_lret hW.1 (h.1 q2504)))))) (fun q2504 => (hc.2.2.2.2.2.2.2.2.2.2.2.2.2.2.2.1 _ _ _ (i_lload rfl (hc.2.2.2.2.2.2.2.2.2.2.2.2.2.2.2.2.2 _ _ _ (i_lret hW.1 (h.2 q2504)))))))))))))))))))))))))))))))))))))
theorem wX2_ofReals_7 {x2 : Int32} {x3 : Int64} {x5 : Int64} {M : Mem} {K : RT} (hW : Wf M) (h : ((f_X3_order x2 x3) < (f_X3_order x2 x5) → K (some (.long x5)) M) ∧ (¬ (f_X3_order x2 x3) < (f_X3_order x2 x5) → K (some (.long x3)) M)) : sp_X2_ofReals [.ref 404, .ref 100007, .int x2, .long x3, .long x5] M K := by
  refine ⟨Nat.le_of_ble_eq_true rfl, fun G hc => ?_⟩
  rw [hW.1] at hc
  exact eX2_ofReals_7 hc hW  h
set_option maxRecDepth 100000 in
theorem eX2_ofWholes_1 {G : Nat → KT} {K : RT} (hc : cloX2_ofWholes G K wT) {x2 : Int32} {x3 : Int64} {x5 : Int64} {M : Mem} (hW : Wf M) (h : K (some (.long (f_X3_lowBits x2 (x3 + x5)))) M) : G 0 [some (.ref 404), some (.ref 100001), some (.int x2), some (.long x3), none, some (.long x5), none] [] M :=
  (hc.1 _ _ _ (i_gets (i_aload rfl (i_ord (isOp_lit (by decide)) (i_eqI (by decide +kernel : Int32.ofNat (100001 - 100000) = 1) (i_swldC (vpd rfl) (by decide +kernel : Int32.ofNat (swT.getD ((1 : Int32).toNatClampNeg) 0) = 14) (And.intro (fun _ => (hc.2.1 _ _ _ (i_iload rfl (i_lload rfl (i_lload rfl (i_ladd (i_callS2 (Nat.le_of_ble_eq_true rfl) (c_X3_lowBits hW  (i_rJ (i_lret hW.1 h)))))))))) (fun q => absurd rfl q))))))))
theorem wX2_ofWholes_1 {x2 : Int32} {x3 : Int64} {x5 : Int64} {M : Mem} {K : RT} (hW : Wf M) (h : K (some (.long (f_X3_lowBits x2 (x3 + x5)))) M) : sp_X2_ofWholes [.ref 404, .ref 100001, .int x2, .long x3, .long x5] M K := by
  refine ⟨Nat.le_of_ble_eq_true rfl, fun G hc => ?_⟩
  rw [hW.1] at hc
  exact eX2_ofWholes_1 hc hW  h
set_option maxRecDepth 100000 in
theorem eX2_ofWholes_2 {G : Nat → KT} {K : RT} (hc : cloX2_ofWholes G K wT) {x2 : Int32} {x3 : Int64} {x5 : Int64} {M : Mem} (hW : Wf M) (h : K (some (.long (f_X3_lowBits x2 (x3 - x5)))) M) : G 0 [some (.ref 404), some (.ref 100002), some (.int x2), some (.long x3), none, some (.long x5), none] [] M :=
  (hc.1 _ _ _ (i_gets (i_aload rfl (i_ord (isOp_lit (by decide)) (i_eqI (by decide +kernel : Int32.ofNat (100002 - 100000) = 2) (i_swldC (vpd rfl) (by decide +kernel : Int32.ofNat (swT.getD ((2 : Int32).toNatClampNeg) 0) = 15) (And.intro (fun q => absurd q (by decide)) (fun _ => (And.intro (fun _ => (hc.2.2.1 _ _ _ (i_iload rfl (i_lload rfl (i_lload rfl (i_lsub (i_callS2 (Nat.le_of_ble_eq_true rfl) (c_X3_lowBits hW  (i_rJ (i_lret hW.1 h)))))))))) (fun q => absurd rfl q))))))))))
theorem wX2_ofWholes_2 {x2 : Int32} {x3 : Int64} {x5 : Int64} {M : Mem} {K : RT} (hW : Wf M) (h : K (some (.long (f_X3_lowBits x2 (x3 - x5)))) M) : sp_X2_ofWholes [.ref 404, .ref 100002, .int x2, .long x3, .long x5] M K := by
  refine ⟨Nat.le_of_ble_eq_true rfl, fun G hc => ?_⟩
  rw [hW.1] at hc
  exact eX2_ofWholes_2 hc hW  h
set_option maxRecDepth 100000 in
theorem eX2_ofWholes_3 {G : Nat → KT} {K : RT} (hc : cloX2_ofWholes G K wT) {x2 : Int32} {x3 : Int64} {x5 : Int64} {M : Mem} (hW : Wf M) (h : K (some (.long (f_X3_lowBits x2 (x3 * x5)))) M) : G 0 [some (.ref 404), some (.ref 100003), some (.int x2), some (.long x3), none, some (.long x5), none] [] M :=
  (hc.1 _ _ _ (i_gets (i_aload rfl (i_ord (isOp_lit (by decide)) (i_eqI (by decide +kernel : Int32.ofNat (100003 - 100000) = 3) (i_swldC (vpd rfl) (by decide +kernel : Int32.ofNat (swT.getD ((3 : Int32).toNatClampNeg) 0) = 16) (And.intro (fun q => absurd q (by decide)) (fun _ => (And.intro (fun q => absurd q (by decide)) (fun _ => (And.intro (fun _ => (hc.2.2.2.1 _ _ _ (i_iload rfl (i_lload rfl (i_lload rfl (i_lmul (i_callS2 (Nat.le_of_ble_eq_true rfl) (c_X3_lowBits hW  (i_rJ (i_lret hW.1 h)))))))))) (fun q => absurd rfl q))))))))))))
theorem wX2_ofWholes_3 {x2 : Int32} {x3 : Int64} {x5 : Int64} {M : Mem} {K : RT} (hW : Wf M) (h : K (some (.long (f_X3_lowBits x2 (x3 * x5)))) M) : sp_X2_ofWholes [.ref 404, .ref 100003, .int x2, .long x3, .long x5] M K := by
  refine ⟨Nat.le_of_ble_eq_true rfl, fun G hc => ?_⟩
  rw [hW.1] at hc
  exact eX2_ofWholes_3 hc hW  h
set_option maxRecDepth 100000 in
theorem eX2_ofWholes_4 {G : Nat → KT} {K : RT} (hc : cloX2_ofWholes G K wT) {x2 : Int32} {x3 : Int64} {x5 : Int64} {M : Mem} (hW : Wf M) (h : (¬ x5 = (0 : Int64) → ((¬ x5 = 0) ∧ K (some (.long (f_X3_lowBits x2 (x3 / x5)))) M)) ∧ (x5 = (0 : Int64) → K (some (.long (0 : Int64))) (uI M 404 9 (5 : Int32)))) : G 0 [some (.ref 404), some (.ref 100004), some (.int x2), some (.long x3), none, some (.long x5), none] [] M :=
  (hc.1 _ _ _ (i_gets (i_aload rfl (i_ord (isOp_lit (by decide)) (i_eqI (by decide +kernel : Int32.ofNat (100004 - 100000) = 4) (i_swldC (vpd rfl) (by decide +kernel : Int32.ofNat (swT.getD ((4 : Int32).toNatClampNeg) 0) = 17) (And.intro (fun q => absurd q (by decide)) (fun _ => (And.intro (fun q => absurd q (by decide)) (fun _ => (And.intro (fun q => absurd q (by decide)) (fun _ => (And.intro (fun _ => (hc.2.2.2.2.1 _ _ _ (i_lload rfl (i_lc (i_lcmp (i_lcmp_ne (fun q2506 => (hc.2.2.2.2.2.2.1 _ _ _ (i_iload rfl (i_aload rfl (i_gets (i_acmp_ne (isOp_lit (by decide)) (isOp_lit (by decide)) (fun q => absurd rfl q) (fun _ => (hc.2.2.2.2.2.2.2.1 _ _ _ (i_lload rfl (i_lload rfl (i_ldiv (h.1 q2506).1 (hc.2.2.2.2.2.2.2.2.2.1 _ _ _ (i_callS2 (Nat.le_of_ble_eq_true rfl) (c_X3_lowBits hW  (i_rJ (i_lret hW.1 (h.1 q2506).2)))))))))))))))) (fun q2506 => (hc.2.2.2.2.2.1 _ _ _ (i_aload rfl (i_ic (i_putI (okS hW Sk_404) (i_lc (i_lret hW.1 (h.2 q2506)))))))))))))) (fun q => absurd rfl q))))))))))))))
theorem wX2_ofWholes_4 {x2 : Int32} {x3 : Int64} {x5 : Int64} {M : Mem} {K : RT} (hW : Wf M) (h : (¬ x5 = (0 : Int64) → ((¬ x5 = 0) ∧ K (some (.long (f_X3_lowBits x2 (x3 / x5)))) M)) ∧ (x5 = (0 : Int64) → K (some (.long (0 : Int64))) (uI M 404 9 (5 : Int32)))) : sp_X2_ofWholes [.ref 404, .ref 100004, .int x2, .long x3, .long x5] M K := by
  refine ⟨Nat.le_of_ble_eq_true rfl, fun G hc => ?_⟩
  rw [hW.1] at hc
  exact eX2_ofWholes_4 hc hW  h
set_option maxRecDepth 100000 in
theorem eX2_ofWholes_5 {G : Nat → KT} {K : RT} (hc : cloX2_ofWholes G K wT) {x2 : Int32} {x3 : Int64} {x5 : Int64} {M : Mem} (hW : Wf M) (h : (¬ x5 = (0 : Int64) → ((¬ x5 = 0) ∧ K (some (.long (f_X3_lowBits x2 (x3 - x3 / x5 * x5)))) M)) ∧ (x5 = (0 : Int64) → K (some (.long (0 : Int64))) (uI M 404 9 (5 : Int32)))) : G 0 [some (.ref 404), some (.ref 100005), some (.int x2), some (.long x3), none, some (.long x5), none] [] M :=
  (hc.1 _ _ _ (i_gets (i_aload rfl (i_ord (isOp_lit (by decide)) (i_eqI (by decide +kernel : Int32.ofNat (100005 - 100000) = 5) (i_swldC (vpd rfl) (by decide +kernel : Int32.ofNat (swT.getD ((5 : Int32).toNatClampNeg) 0) = 18) (And.intro (fun q => absurd q (by decide)) (fun _ => (And.intro (fun q => absurd q (by decide)) (fun _ => (And.intro (fun q => absurd q (by decide)) (fun _ => (And.intro (fun q => absurd q (by decide)) (fun _ => (And.intro (fun _ => (hc.2.2.2.2.1 _ _ _ (i_lload rfl (i_lc (i_lcmp (i_lcmp_ne (fun q2508 => (hc.2.2.2.2.2.2.1 _ _ _ (i_iload rfl (i_aload rfl (i_gets (i_acmp_ne (isOp_lit (by decide)) (isOp_lit (by decide)) (fun _ => (hc.2.2.2.2.2.2.2.2.1 _ _ _ (i_lload rfl (i_lload rfl (i_lrem (h.1 q2508).1 (hc.2.2.2.2.2.2.2.2.2.1 _ _ _ (i_callS2 (Nat.le_of_ble_eq_true rfl) (c_X3_lowBits hW  (i_rJ (i_lret hW.1 (h.1 q2508).2)))))))))) (fun q => absurd q (by decide)))))))) (fun q2508 => (hc.2.2.2.2.2.1 _ _ _ (i_aload rfl (i_ic (i_putI (okS hW Sk_404) (i_lc (i_lret hW.1 (h.2 q2508)))))))))))))) (fun q => absurd rfl q))))))))))))))))
theorem wX2_ofWholes_5 {x2 : Int32} {x3 : Int64} {x5 : Int64} {M : Mem} {K : RT} (hW : Wf M) (h : (¬ x5 = (0 : Int64) → ((¬ x5 = 0) ∧ K (some (.long (f_X3_lowBits x2 (x3 - x3 / x5 * x5)))) M)) ∧ (x5 = (0 : Int64) → K (some (.long (0 : Int64))) (uI M 404 9 (5 : Int32)))) : sp_X2_ofWholes [.ref 404, .ref 100005, .int x2, .long x3, .long x5] M K := by
  refine ⟨Nat.le_of_ble_eq_true rfl, fun G hc => ?_⟩
  rw [hW.1] at hc
  exact eX2_ofWholes_5 hc hW  h
set_option maxRecDepth 100000 in
theorem eX2_ofWholes_6 {G : Nat → KT} {K : RT} (hc : cloX2_ofWholes G K wT) {x2 : Int32} {x3 : Int64} {x5 : Int64} {M : Mem} (hW : Wf M) (h : K (some (.long (f_J9_min_f86c9 x3 x5))) M) : G 0 [some (.ref 404), some (.ref 100006), some (.int x2), some (.long x3), none, some (.long x5), none] [] M :=
  (hc.1 _ _ _ (i_gets (i_aload rfl (i_ord (isOp_lit (by decide)) (i_eqI (by decide +kernel : Int32.ofNat (100006 - 100000) = 6) (i_swldC (vpd rfl) (by decide +kernel : Int32.ofNat (swT.getD ((6 : Int32).toNatClampNeg) 0) = 19) (And.intro (fun q => absurd q (by decide)) (fun _ => (And.intro (fun q => absurd q (by decide)) (fun _ => (And.intro (fun q => absurd q (by decide)) (fun _ => (And.intro (fun q => absurd q (by decide)) (fun _ => (And.intro (fun q => absurd q (by decide)) (fun _ => (And.intro (fun _ => (hc.2.2.2.2.2.2.2.2.2.2.1 _ _ _ (i_lload rfl (i_lload rfl (i_callS2 (Nat.le_of_ble_eq_true rfl) (c_J9_min_f86c9 hW  (i_rJ (i_lret hW.1 h)))))))) (fun q => absurd rfl q))))))))))))))))))
theorem wX2_ofWholes_6 {x2 : Int32} {x3 : Int64} {x5 : Int64} {M : Mem} {K : RT} (hW : Wf M) (h : K (some (.long (f_J9_min_f86c9 x3 x5))) M) : sp_X2_ofWholes [.ref 404, .ref 100006, .int x2, .long x3, .long x5] M K := by
  refine ⟨Nat.le_of_ble_eq_true rfl, fun G hc => ?_⟩
  rw [hW.1] at hc
  exact eX2_ofWholes_6 hc hW  h
set_option maxRecDepth 100000 in
theorem eX2_ofWholes_7 {G : Nat → KT} {K : RT} (hc : cloX2_ofWholes G K wT) {x2 : Int32} {x3 : Int64} {x5 : Int64} {M : Mem} (hW : Wf M) (h : K (some (.long (f_J9_max_f86c9 x3 x5))) M) : G 0 [some (.ref 404), some (.ref 100007), some (.int x2), some (.long x3), none, some (.long x5), none] [] M :=
  (hc.1 _ _ _ (i_gets (i_aload rfl (i_ord (isOp_lit (by decide)) (i_eqI (by decide +kernel : Int32.ofNat (100007 - 100000) = 7) (i_swldC (vpd rfl) (by decide +kernel : Int32.ofNat (swT.getD ((7 : Int32).toNatClampNeg) 0) = 20) (And.intro (fun q => absurd q (by decide)) (fun _ => (And.intro (fun q => absurd q (by decide)) (fun _ => (And.intro (fun q => absurd q (by decide)) (fun _ => (And.intro (fun q => absurd q (by decide)) (fun _ => (And.intro (fun q => absurd q (by decide)) (fun _ => (And.intro (fun q => absurd q (by decide)) (fun _ => (And.intro (fun _ => (hc.2.2.2.2.2.2.2.2.2.2.2.1 _ _ _ (i_lload rfl (i_lload rfl (i_callS2 (Nat.le_of_ble_eq_true rfl) (c_J9_max_f86c9 hW  (i_rJ (i_lret hW.1 h)))))))) (fun q => absurd rfl q))))))))))))))))))))
theorem wX2_ofWholes_7 {x2 : Int32} {x3 : Int64} {x5 : Int64} {M : Mem} {K : RT} (hW : Wf M) (h : K (some (.long (f_J9_max_f86c9 x3 x5))) M) : sp_X2_ofWholes [.ref 404, .ref 100007, .int x2, .long x3, .long x5] M K := by
  refine ⟨Nat.le_of_ble_eq_true rfl, fun G hc => ?_⟩
  rw [hW.1] at hc
  exact eX2_ofWholes_7 hc hW  h
set_option maxRecDepth 100000 in
theorem eX2_ofWholes_8 {G : Nat → KT} {K : RT} (hc : cloX2_ofWholes G K wT) {x2 : Int32} {x3 : Int64} {x5 : Int64} {M : Mem} (hW : Wf M) (h : K (some (.long (x3 &&& x5))) M) : G 0 [some (.ref 404), some (.ref 100008), some (.int x2), some (.long x3), none, some (.long x5), none] [] M :=
  (hc.1 _ _ _ (i_gets (i_aload rfl (i_ord (isOp_lit (by decide)) (i_eqI (by decide +kernel : Int32.ofNat (100008 - 100000) = 8) (i_swldC (vpd rfl) (by decide +kernel : Int32.ofNat (swT.getD ((8 : Int32).toNatClampNeg) 0) = 21) (And.intro (fun q => absurd q (by decide)) (fun _ => (And.intro (fun q => absurd q (by decide)) (fun _ => (And.intro (fun q => absurd q (by decide)) (fun _ => (And.intro (fun q => absurd q (by decide)) (fun _ => (And.intro (fun q => absurd q (by decide)) (fun _ => (And.intro (fun q => absurd q (by decide)) (fun _ => (And.intro (fun q => absurd q (by decide)) (fun _ => (And.intro (fun _ => (hc.2.2.2.2.2.2.2.2.2.2.2.2.1 _ _ _ (i_lload rfl (i_lload rfl (i_land (i_lret hW.1 h)))))) (fun q => absurd rfl q))))))))))))))))))))))
theorem wX2_ofWholes_8 {x2 : Int32} {x3 : Int64} {x5 : Int64} {M : Mem} {K : RT} (hW : Wf M) (h : K (some (.long (x3 &&& x5))) M) : sp_X2_ofWholes [.ref 404, .ref 100008, .int x2, .long x3, .long x5] M K := by
  refine ⟨Nat.le_of_ble_eq_true rfl, fun G hc => ?_⟩
  rw [hW.1] at hc
  exact eX2_ofWholes_8 hc hW  h
set_option maxRecDepth 100000 in
theorem eX2_ofWholes_9 {G : Nat → KT} {K : RT} (hc : cloX2_ofWholes G K wT) {x2 : Int32} {x3 : Int64} {x5 : Int64} {M : Mem} (hW : Wf M) (h : K (some (.long (x3 ||| x5))) M) : G 0 [some (.ref 404), some (.ref 100009), some (.int x2), some (.long x3), none, some (.long x5), none] [] M :=
  (hc.1 _ _ _ (i_gets (i_aload rfl (i_ord (isOp_lit (by decide)) (i_eqI (by decide +kernel : Int32.ofNat (100009 - 100000) = 9) (i_swldC (vpd rfl) (by decide +kernel : Int32.ofNat (swT.getD ((9 : Int32).toNatClampNeg) 0) = 22) (And.intro (fun q => absurd q (by decide)) (fun _ => (And.intro (fun q => absurd q (by decide)) (fun _ => (And.intro (fun q => absurd q (by decide)) (fun _ => (And.intro (fun q => absurd q (by decide)) (fun _ => (And.intro (fun q => absurd q (by decide)) (fun _ => (And.intro (fun q => absurd q (by decide)) (fun _ => (And.intro (fun q => absurd q (by decide)) (fun _ => (And.intro (fun q => absurd q (by decide)) (fun _ => (And.intro (fun _ => (hc.2.2.2.2.2.2.2.2.2.2.2.2.2.1 _ _ _ (i_lload rfl (i_lload rfl (i_lor (i_lret hW.1 h)))))) (fun q => absurd rfl q))))))))))))))))))))))))
theorem wX2_ofWholes_9 {x2 : Int32} {x3 : Int64} {x5 : Int64} {M : Mem} {K : RT} (hW : Wf M) (h : K (some (.long (x3 ||| x5))) M) : sp_X2_ofWholes [.ref 404, .ref 100009, .int x2, .long x3, .long x5] M K := by
  refine ⟨Nat.le_of_ble_eq_true rfl, fun G hc => ?_⟩
  rw [hW.1] at hc
  exact eX2_ofWholes_9 hc hW  h
set_option maxRecDepth 100000 in
theorem eX2_ofWholes_10 {G : Nat → KT} {K : RT} (hc : cloX2_ofWholes G K wT) {x2 : Int32} {x3 : Int64} {x5 : Int64} {M : Mem} (hW : Wf M) (h : K (some (.long (x3 ^^^ x5))) M) : G 0 [some (.ref 404), some (.ref 100010), some (.int x2), some (.long x3), none, some (.long x5), none] [] M :=
  (hc.1 _ _ _ (i_gets (i_aload rfl (i_ord (isOp_lit (by decide)) (i_eqI (by decide +kernel : Int32.ofNat (100010 - 100000) = 10) (i_swldC (vpd rfl) (by decide +kernel : Int32.ofNat (swT.getD ((10 : Int32).toNatClampNeg) 0) = 23) (And.intro (fun q => absurd q (by decide)) (fun _ => (And.intro (fun q => absurd q (by decide)) (fun _ => (And.intro (fun q => absurd q (by decide)) (fun _ => (And.intro (fun q => absurd q (by decide)) (fun _ => (And.intro (fun q => absurd q (by decide)) (fun _ => (And.intro (fun q => absurd q (by decide)) (fun _ => (And.intro (fun q => absurd q (by decide)) (fun _ => (And.intro (fun q => absurd q (by decide)) (fun _ => (And.intro (fun q => absurd q (by decide)) (fun _ => (hc.2.2.2.2.2.2.2.2.2.2.2.2.2.2 _ _ _ (i_lload rfl (i_lload rfl (i_lxor (i_lret hW.1 h)))))))))))))))))))))))))))))
theorem wX2_ofWholes_10 {x2 : Int32} {x3 : Int64} {x5 : Int64} {M : Mem} {K : RT} (hW : Wf M) (h : K (some (.long (x3 ^^^ x5))) M) : sp_X2_ofWholes [.ref 404, .ref 100010, .int x2, .long x3, .long x5] M K := by
  refine ⟨Nat.le_of_ble_eq_true rfl, fun G hc => ?_⟩
  rw [hW.1] at hc
  exact eX2_ofWholes_10 hc hW  h
theorem turned_fin {k : Int32} {y : Int64} (hk : isRk k) (h : finJ k y) : finJ k (f_X3_turned k y) := by
  rw [h.2, turned_bk hk (Nat.le_of_lt h.1)]
  exact finJ_bk hk h.1
theorem zero_fin {k : Int32} {y : Int64} (hk : isRk k) (h : finJ k y) : P_X3_isZero k y ↔ nOf k y = 0 := by
  have := zero_bk hk (s := sOf y) (Nat.le_of_lt h.1)
  rw [← h.2] at this
  exact this
theorem c_reals {o : Nat} {k : Int32} {x y : Int64} {M : Mem} {K : RT} (hW : Wf M) (ho : 1 ≤ o ∧ o ≤ 7) (hp : fin2 k x y) (h : kF K M (reaS o k x y)) : sp_X2_ofReals [.ref 404, .ref (100000 + o), .int k, .long x, .long y] M K := by
  unfold kF at h
  obtain ⟨hk, hx, hy⟩ := hp
  have hc : o = 1 ∨ o = 2 ∨ o = 3 ∨ o = 4 ∨ o = 5 ∨ o = 6 ∨ o = 7 := by omega
  rcases hc with rfl | rfl | rfl | rfl | rfl | rfl | rfl
  · refine wX2_ofReals_1 hW ⟨⟨hk, hx, hy⟩, ?_⟩
    rw [rg_fM]; exact h
  · refine wX2_ofReals_2 hW ⟨⟨hk, hx, turned_fin hk hy⟩, ?_⟩
    rw [rg_fM]; exact h
  · refine wX2_ofReals_3 hW ⟨⟨hk, hx, hy⟩, ?_⟩
    rw [rg_fM]; exact h
  · refine wX2_ofReals_4 hW ⟨fun q => ⟨⟨hk, hx, hy, fun z => q ((zero_fin hk hy).mpr z)⟩, ?_⟩, fun q => ?_⟩
    · rw [reaS4, iT_f q] at h; rw [rg_fM]; exact h
    · rw [reaS4, iT_t q] at h; exact h
  · refine wX2_ofReals_5 hW ⟨fun q => ⟨⟨hk, hx, hy, fun z => q ((zero_fin hk hy).mpr z)⟩, ?_⟩, fun q => ?_⟩
    · rw [reaS5, iT_f q] at h; exact h
    · rw [reaS5, iT_t q] at h; exact h
  · refine wX2_ofReals_6 hW ⟨fun q => ?_, fun q => ?_⟩
    · rw [reaS6, if_pos q] at h; exact h
    · rw [reaS6, if_neg q] at h; exact h
  · refine wX2_ofReals_7 hW ⟨fun q => ?_, fun q => ?_⟩
    · rw [reaS7, if_pos q] at h; exact h
    · rw [reaS7, if_neg q] at h; exact h
theorem c_wholes {o : Nat} {k : Int32} {x y : Int64} {M : Mem} {K : RT} (hW : Wf M) (ho : 1 ≤ o ∧ o ≤ 10) (h : kF K M (whoS o k x y)) : sp_X2_ofWholes [.ref 404, .ref (100000 + o), .int k, .long x, .long y] M K := by
  unfold kF at h
  have hc : o = 1 ∨ o = 2 ∨ o = 3 ∨ o = 4 ∨ o = 5 ∨ o = 6 ∨ o = 7 ∨ o = 8 ∨ o = 9 ∨ o = 10 := by omega
  rcases hc with rfl | rfl | rfl | rfl | rfl | rfl | rfl | rfl | rfl | rfl
  · exact wX2_ofWholes_1 hW h
  · exact wX2_ofWholes_2 hW h
  · exact wX2_ofWholes_3 hW h
  · refine wX2_ofWholes_4 hW ⟨fun q => ⟨q, ?_⟩, fun q => ?_⟩
    · rw [whoS4, if_neg q] at h; exact h
    · rw [whoS4, if_pos q] at h; exact h
  · refine wX2_ofWholes_5 hW ⟨fun q => ⟨q, ?_⟩, fun q => ?_⟩
    · rw [whoS5, if_neg q] at h; exact h
    · rw [whoS5, if_pos q] at h; exact h
  · exact wX2_ofWholes_6 hW h
  · exact wX2_ofWholes_7 hW h
  · exact wX2_ofWholes_8 hW h
  · exact wX2_ofWholes_9 hW h
  · exact wX2_ofWholes_10 hW h
end LANES1
