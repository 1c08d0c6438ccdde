section MADE
theorem nI_toL {m : Nat} (h : m < 2 ^ 31) : (nI m).toInt64 = lN m := by
  refine Int64.toInt_inj.mp ?_
  rw [Int32.toInt_toInt64, nI_toInt (by omega), l6_int (by omega)]
theorem lN_toI {m : Nat} : (lN m).toInt32 = nI m := lN_mod32 rfl
/-- which element lane i is about -/
def elS (o : Nat) (X : Nat → Int64) (S : Int64) (i : Nat) : Int64 := if o = 26 ∨ o = 27 then X i else if (64 : Int64) < S then 64 else S + lN i
def inS (p : Int64) (m : Nat) : Prop := 0 ≤ p ∧ p < lN m
theorem inS_lN {p : Int64} {m : Nat} (hm : m ≤ 64) (h : inS p m) : ∃ q, q < m ∧ p = lN q := by
  obtain ⟨h1, h2⟩ := h
  rw [Int64.le_iff_toInt_le] at h1
  rw [Int64.lt_iff_toInt_lt, l6_int (by omega)] at h2
  have e0 : (0 : Int64).toInt = 0 := by decide
  rw [e0] at h1
  refine ⟨p.toInt.toNat, by omega, Int64.toInt_inj.mp ?_⟩
  rw [l6_int (by omega)]
  omega
/-- a result, any value with a fault -/
def kG (K : RT) (M : Mem) (r : Int32 × Int64) : Prop := (r.1 = 0 → K (some (.long r.2)) M) ∧ (¬ r.1 = 0 → ∀ w, K (some (.long w)) (uI M 404 9 r.1))
theorem kG_F {K : RT} {M : Mem} {r : Int32 × Int64} (h : kG K M r) : kF K M r := by
  unfold kF fM
  by_cases q : r.1 = 0
  · rw [if_pos q]; exact h.1 q
  · rw [if_neg q]; exact h.2 q _
theorem kG_0 {K : RT} {M : Mem} {v : Int64} (h : kG K M (0, v)) : K (some (.long v)) M := h.1 rfl
/-- shifts -/
noncomputable def shS (o : Nat) (k : Int32) (x S : Int64) : Int64 :=
  let b := S.toInt32 &&& (f_X3_width k - 1)
  if o = 11 then f_X3_lowBits k (x <<< (b.toInt64 &&& 63)) else if o = 12 then x >>> (b.toInt64 &&& 63)
  else f_X3_lowBits k (((x &&& (((-1 : Int64).toUInt64 >>> (((64 : Int32) - (f_X3_width k)).toInt64.toUInt64 &&& Int64.toUInt64 63)).toInt64)).toUInt64 >>> (b.toInt64.toUInt64 &&& Int64.toUInt64 63)).toInt64)
/-- what lane i becomes (all but scan): fault and value -/
noncomputable def madeS (o : Nat) (k k1 : Int32) (n : Nat) (X Y : Nat → Int64) (S : Int64) (m : Nat) (E : Nat → Int64) (i : Nat) : Int32 × Int64 :=
  if o ≤ 10 then iT (isRk k) (reaS o k (X i) (Y i)) (whoS o k (X i) (Y i))
  else if o ≤ 13 then (0, shS o k (X i) S)
  else if o = 14 then (0, f_X3_turned k (X i))
  else if o = 15 then (0, f_X3_withoutSign k (X i))
  else if o = 16 then (if (0 : Int64) ≤ f_X3_value k (X i) then (0, rooJ k (X i)) else (6, 0))
  else if o = 24 then (infJ k (casJ k1 k (X i)), casJ k1 k (X i))
  else if o = 25 then (0, hoJ k (f_X3_whole k1 (X i)))
  else if o ≤ 29 then iT (inS (elS o X S i) m) (0, E (elS o X S i).toInt.toNat) (4, 0)
  else if o = 30 then (0, putJ k S)
  else if o = 31 then (0, putJ k (S + lN i))
  else if o = 34 then iT (inS (Y i) n) (0, X (Y i).toInt.toNat) (4, 0)
  else if o = 35 then (0, X ((i + (S.toInt % n).toNat) % n))
  else if o = 36 then (0, X (n - 1 - i))
  else (0, if i % 2 = 0 then X (i / 2) else Y (i / 2))
/-- what must hold of kinds and items -/
def madeOk (o : Nat) (k k1 : Int32) (x y : Int64) : Prop :=
  if o ≤ 10 then isK k ∧ (isRk k → o ≤ 7 ∧ finJ k x ∧ finJ k y)
  else if o = 16 then isRk k ∧ finJ k x
  else if o = 24 then isK k1 ∧ isK k ∧ (isRk k1 → finJ k1 x)
  else isK k
/-- what a lane's making looks at -/
def LB (M : Mem) (r0 r1 : Nat) (k k1 : Int32) (n : Nat) (X Y : Nat → Int64) (S : Int64) (a m : Nat) (E : Nat → Int64) : Prop :=
  (gR M 443 0 = some r0 ∧ (Sh r0).1 = 5 ∧ gR M 443 1 = some r1 ∧ (Sh r1).1 = 5) ∧ (gI M r0 0 = k ∧ gI M r0 1 = nI n ∧ 1 ≤ n ∧ n ≤ 32) ∧ gI M r1 0 = k1 ∧ (∀ j, j < n → gL M 444 j = X j) ∧ (∀ j, j < n → gL M 445 j = Y j) ∧ (∃ q, q < 8 ∧ gI M 404 7 = nI q ∧ gL M 409 q = S) ∧ gR M 404 5 = some a ∧ (Sh a).1 = 5 ∧ gI M a 1 = nI m ∧ m ≤ 64 ∧ ∀ j, j < m → gL M (a + 1) j = E j
set_option maxRecDepth 100000 in
theorem eX2_shifted_11 {G : Nat → KT} {K : RT} (hc : cloX2_shifted G K wT) {x2 : Int32} {x3 : Int64} {M : Mem} (hW : Wf M) (h : (vp_in (gI M 404 7) 8) ∧ (∀ y1 : Int32, y1 = (((gL M 409 (gI M 404 7).toNatClampNeg).toInt32) &&& ((f_X3_width x2) - (1 : Int32))) → K (some (.long (f_X3_lowBits x2 (x3 <<< (y1.toInt64 &&& 63))))) M)) : G 0 [some (.ref 404), some (.ref 100011), some (.int x2), some (.long x3), none, none, none] [] M :=
  (hc.1 _ _ _ (i_iload rfl (i_callS1 (Nat.le_of_ble_eq_true rfl) (c_X3_width hW  (i_rI (i_istore (Nat.le_of_ble_eq_true rfl) (i_aload rfl (i_getR (okS hW Sk_404) (nv_404_0 hW) (i_getR (okS hW Sk_405) (nv_405_3 hW) (i_aload rfl (i_getI (okS hW Sk_404) (i_lald hW Ss_409 h.1 (i_l2i (i_iload rfl (i_ic (i_isub (i_iand (i_istore (Nat.le_of_ble_eq_true rfl) (i_gets (i_aload rfl (i_ord (isOp_lit (by decide)) (i_eqI (by decide +kernel : Int32.ofNat (100011 - 100000) = 11) (i_swldC (vpd rfl) (by decide +kernel : Int32.ofNat (swT.getD ((11 : Int32).toNatClampNeg) 0) = 24) (And.intro (fun _ => (hc.2.1 _ _ _ (i_iload rfl (i_lload rfl (i_iload rfl (i_lshl (i_callS2 (Nat.le_of_ble_eq_true rfl) (c_X3_lowBits hW  (i_rJ (i_lret hW.1 (h.2 _ rfl))))))))))) (fun q => absurd rfl q)))))))))))))))))))))))))
theorem wX2_shifted_11 {x2 : Int32} {x3 : Int64} {M : Mem} {K : RT} (hW : Wf M) (h : (vp_in (gI M 404 7) 8) ∧ (∀ y1 : Int32, y1 = (((gL M 409 (gI M 404 7).toNatClampNeg).toInt32) &&& ((f_X3_width x2) - (1 : Int32))) → K (some (.long (f_X3_lowBits x2 (x3 <<< (y1.toInt64 &&& 63))))) M)) : sp_X2_shifted [.ref 404, .ref 100011, .int x2, .long x3] M K := by
  refine ⟨Nat.le_of_ble_eq_true rfl, fun G hc => ?_⟩
  rw [hW.1] at hc
  exact eX2_shifted_11 hc hW  h
set_option maxRecDepth 100000 in
theorem eX2_shifted_12 {G : Nat → KT} {K : RT} (hc : cloX2_shifted G K wT) {x2 : Int32} {x3 : Int64} {M : Mem} (hW : Wf M) (h : (vp_in (gI M 404 7) 8) ∧ (∀ y1 : Int32, y1 = (((gL M 409 (gI M 404 7).toNatClampNeg).toInt32) &&& ((f_X3_width x2) - (1 : Int32))) → K (some (.long (x3 >>> (y1.toInt64 &&& 63)))) M)) : G 0 [some (.ref 404), some (.ref 100012), some (.int x2), some (.long x3), none, none, none] [] M :=
  (hc.1 _ _ _ (i_iload rfl (i_callS1 (Nat.le_of_ble_eq_true rfl) (c_X3_width hW  (i_rI (i_istore (Nat.le_of_ble_eq_true rfl) (i_aload rfl (i_getR (okS hW Sk_404) (nv_404_0 hW) (i_getR (okS hW Sk_405) (nv_405_3 hW) (i_aload rfl (i_getI (okS hW Sk_404) (i_lald hW Ss_409 h.1 (i_l2i (i_iload rfl (i_ic (i_isub (i_iand (i_istore (Nat.le_of_ble_eq_true rfl) (i_gets (i_aload rfl (i_ord (isOp_lit (by decide)) (i_eqI (by decide +kernel : Int32.ofNat (100012 - 100000) = 12) (i_swldC (vpd rfl) (by decide +kernel : Int32.ofNat (swT.getD ((12 : Int32).toNatClampNeg) 0) = 25) (And.intro (fun q => absurd q (by decide)) (fun _ => (And.intro (fun _ => (hc.2.2.1 _ _ _ (i_lload rfl (i_iload rfl (i_lshr (i_lret hW.1 (h.2 _ rfl))))))) (fun q => absurd rfl q)))))))))))))))))))))))))))
theorem wX2_shifted_12 {x2 : Int32} {x3 : Int64} {M : Mem} {K : RT} (hW : Wf M) (h : (vp_in (gI M 404 7) 8) ∧ (∀ y1 : Int32, y1 = (((gL M 409 (gI M 404 7).toNatClampNeg).toInt32) &&& ((f_X3_width x2) - (1 : Int32))) → K (some (.long (x3 >>> (y1.toInt64 &&& 63)))) M)) : sp_X2_shifted [.ref 404, .ref 100012, .int x2, .long x3] M K := by
  refine ⟨Nat.le_of_ble_eq_true rfl, fun G hc => ?_⟩
  rw [hW.1] at hc
  exact eX2_shifted_12 hc hW  h
set_option maxRecDepth 100000 in
theorem eX2_shifted_13 {G : Nat → KT} {K : RT} (hc : cloX2_shifted G K wT) {x2 : Int32} {x3 : Int64} {M : Mem} (hW : Wf M) (h : (vp_in (gI M 404 7) 8) ∧ (∀ y1 : Int32, y1 = (((gL M 409 (gI M 404 7).toNatClampNeg).toInt32) &&& ((f_X3_width x2) - (1 : Int32))) → K (some (.long (f_X3_lowBits x2 (((x3 &&& (((-1 : Int64).toUInt64 >>> (((64 : Int32) - (f_X3_width x2)).toInt64.toUInt64 &&& Int64.toUInt64 63)).toInt64)).toUInt64 >>> (y1.toInt64.toUInt64 &&& Int64.toUInt64 63)).toInt64)))) M)) : G 0 [some (.ref 404), some (.ref 100013), some (.int x2), some (.long x3), none, none, none] [] M :=
  (hc.1 _ _ _ (i_iload rfl (i_callS1 (Nat.le_of_ble_eq_true rfl) (c_X3_width hW  (i_rI (i_istore (Nat.le_of_ble_eq_true rfl) (i_aload rfl (i_getR (okS hW Sk_404) (nv_404_0 hW) (i_getR (okS hW Sk_405) (nv_405_3 hW) (i_aload rfl (i_getI (okS hW Sk_404) (i_lald hW Ss_409 h.1 (i_l2i (i_iload rfl (i_ic (i_isub (i_iand (i_istore (Nat.le_of_ble_eq_true rfl) (i_gets (i_aload rfl (i_ord (isOp_lit (by decide)) (i_eqI (by decide +kernel : Int32.ofNat (100013 - 100000) = 13) (i_swldC (vpd rfl) (by decide +kernel : Int32.ofNat (swT.getD ((13 : Int32).toNatClampNeg) 0) = 26) (And.intro (fun q => absurd q (by decide)) (fun _ => (And.intro (fun q => absurd q (by decide)) (fun _ => (hc.2.2.2 _ _ _ (i_iload rfl (i_lload rfl (i_lc (i_ic (i_iload rfl (i_isub (i_lushr (i_land (i_iload rfl (i_lushr (i_callS2 (Nat.le_of_ble_eq_true rfl) (c_X3_lowBits hW  (i_rJ (i_lret hW.1 (h.2 _ rfl)))))))))))))))))))))))))))))))))))))))))))
theorem wX2_shifted_13 {x2 : Int32} {x3 : Int64} {M : Mem} {K : RT} (hW : Wf M) (h : (vp_in (gI M 404 7) 8) ∧ (∀ y1 : Int32, y1 = (((gL M 409 (gI M 404 7).toNatClampNeg).toInt32) &&& ((f_X3_width x2) - (1 : Int32))) → K (some (.long (f_X3_lowBits x2 (((x3 &&& (((-1 : Int64).toUInt64 >>> (((64 : Int32) - (f_X3_width x2)).toInt64.toUInt64 &&& Int64.toUInt64 63)).toInt64)).toUInt64 >>> (y1.toInt64.toUInt64 &&& Int64.toUInt64 63)).toInt64)))) M)) : sp_X2_shifted [.ref 404, .ref 100013, .int x2, .long x3] M K := by
  refine ⟨Nat.le_of_ble_eq_true rfl, fun G hc => ?_⟩
  rw [hW.1] at hc
  exact eX2_shifted_13 hc hW  h
set_option maxRecDepth 100000 in
theorem eX2_element_26 {G : Nat → KT} {K : RT} (hc : cloX2_element G K wT) {x2 : Int32} {M : Mem} (hW : Wf M) (h : (vp_in x2 32) ∧ (((gL M 444 (x2).toNatClampNeg) < (0 : Int64) → K (some (.int (0 : Int32))) (uI M 404 9 (4 : Int32))) ∧ (¬ (gL M 444 (x2).toNatClampNeg) < (0 : Int64) → (((gL M 444 (x2).toNatClampNeg) < ((gI M (rR M 404 5) 1).toInt64) → K (some (.int ((gL M 444 (x2).toNatClampNeg).toInt32))) M) ∧ (¬ (gL M 444 (x2).toNatClampNeg) < ((gI M (rR M 404 5) 1).toInt64) → K (some (.int (0 : Int32))) (uI M 404 9 (4 : Int32))))))) : G 0 [some (.ref 404), some (.ref 100026), some (.int x2), none, none, none, none] [] M :=
  (hc.1 _ _ _ (i_aload rfl (i_gets (i_acmp_eq (isOp_lit (by decide)) (isOp_lit (by decide)) (fun _ => (hc.2.2.1 _ _ _ (i_aload rfl (i_getR (okS hW Sk_404) (nv_404_10 hW) (i_iload rfl (i_lald hW Ss_444 h.1 (i_lstore (Nat.le_of_ble_eq_true rfl) (hc.2.2.2.2.2.2.2.1 _ _ _ (i_lload rfl (i_lc (i_lcmp (i_lcmp_lt (fun q2517 => (hc.2.2.2.2.2.2.2.2.2.1 _ _ _ (i_aload rfl (i_ic (i_putI (okS hW Sk_404) (i_ic (i_iret hW.1 (h.2.1 q2517)))))))) (fun q2517 => (hc.2.2.2.2.2.2.2.2.1 _ _ _ (i_lload rfl (i_aload rfl (i_getR (okS hW Sk_404) (Wf.mut (M := M) hW (show mx 404 5 = some 5 from by decide)) (i_getI (okS hW (Wf.mutS (M := M) hW (show mx 404 5 = some 5 from by decide))) (i_i2l (i_lcmp (i_lcmp_lt (fun q2518 => (hc.2.2.2.2.2.2.2.2.2.2 _ _ _ (i_lload rfl (i_l2i (i_iret hW.1 ((h.2.2 q2517).1 q2518)))))) (fun q2518 => (hc.2.2.2.2.2.2.2.2.2.1 _ _ _ (i_aload rfl (i_ic (i_putI (okS hW Sk_404) (i_ic (i_iret hW.1 ((h.2.2 q2517).2 q2518))))))))))))))))))))))))))))) (fun q => absurd rfl q)))))
theorem wX2_element_26 {x2 : Int32} {M : Mem} {K : RT} (hW : Wf M) (h : (vp_in x2 32) ∧ (((gL M 444 (x2).toNatClampNeg) < (0 : Int64) → K (some (.int (0 : Int32))) (uI M 404 9 (4 : Int32))) ∧ (¬ (gL M 444 (x2).toNatClampNeg) < (0 : Int64) → (((gL M 444 (x2).toNatClampNeg) < ((gI M (rR M 404 5) 1).toInt64) → K (some (.int ((gL M 444 (x2).toNatClampNeg).toInt32))) M) ∧ (¬ (gL M 444 (x2).toNatClampNeg) < ((gI M (rR M 404 5) 1).toInt64) → K (some (.int (0 : Int32))) (uI M 404 9 (4 : Int32))))))) : sp_X2_element [.ref 404, .ref 100026, .int x2] M K := by
  refine ⟨Nat.le_of_ble_eq_true rfl, fun G hc => ?_⟩
  rw [hW.1] at hc
  exact eX2_element_26 hc hW  h
set_option maxRecDepth 100000 in
theorem eX2_element_27 {G : Nat → KT} {K : RT} (hc : cloX2_element G K wT) {x2 : Int32} {M : Mem} (hW : Wf M) (h : (vp_in x2 32) ∧ (((gL M 444 (x2).toNatClampNeg) < (0 : Int64) → K (some (.int (0 : Int32))) (uI M 404 9 (4 : Int32))) ∧ (¬ (gL M 444 (x2).toNatClampNeg) < (0 : Int64) → (((gL M 444 (x2).toNatClampNeg) < ((gI M (rR M 404 5) 1).toInt64) → K (some (.int ((gL M 444 (x2).toNatClampNeg).toInt32))) M) ∧ (¬ (gL M 444 (x2).toNatClampNeg) < ((gI M (rR M 404 5) 1).toInt64) → K (some (.int (0 : Int32))) (uI M 404 9 (4 : Int32))))))) : G 0 [some (.ref 404), some (.ref 100027), some (.int x2), none, none, none, none] [] M :=
  (hc.1 _ _ _ (i_aload rfl (i_gets (i_acmp_eq (isOp_lit (by decide)) (isOp_lit (by decide)) (fun q => absurd q (by decide)) (fun _ => (hc.2.1 _ _ _ (i_aload rfl (i_gets (i_acmp_ne (isOp_lit (by decide)) (isOp_lit (by decide)) (fun q => absurd rfl q) (fun _ => (hc.2.2.1 _ _ _ (i_aload rfl (i_getR (okS hW Sk_404) (nv_404_10 hW) (i_iload rfl (i_lald hW Ss_444 h.1 (i_lstore (Nat.le_of_ble_eq_true rfl) (hc.2.2.2.2.2.2.2.1 _ _ _ (i_lload rfl (i_lc (i_lcmp (i_lcmp_lt (fun q2521 => (hc.2.2.2.2.2.2.2.2.2.1 _ _ _ (i_aload rfl (i_ic (i_putI (okS hW Sk_404) (i_ic (i_iret hW.1 (h.2.1 q2521)))))))) (fun q2521 => (hc.2.2.2.2.2.2.2.2.1 _ _ _ (i_lload rfl (i_aload rfl (i_getR (okS hW Sk_404) (Wf.mut (M := M) hW (show mx 404 5 = some 5 from by decide)) (i_getI (okS hW (Wf.mutS (M := M) hW (show mx 404 5 = some 5 from by decide))) (i_i2l (i_lcmp (i_lcmp_lt (fun q2522 => (hc.2.2.2.2.2.2.2.2.2.2 _ _ _ (i_lload rfl (i_l2i (i_iret hW.1 ((h.2.2 q2521).1 q2522)))))) (fun q2522 => (hc.2.2.2.2.2.2.2.2.2.1 _ _ _ (i_aload rfl (i_ic (i_putI (okS hW Sk_404) (i_ic (i_iret hW.1 ((h.2.2 q2521).2 q2522))))))))))))))))))))))))))))))))))))))
theorem wX2_element_27 {x2 : Int32} {M : Mem} {K : RT} (hW : Wf M) (h : (vp_in x2 32) ∧ (((gL M 444 (x2).toNatClampNeg) < (0 : Int64) → K (some (.int (0 : Int32))) (uI M 404 9 (4 : Int32))) ∧ (¬ (gL M 444 (x2).toNatClampNeg) < (0 : Int64) → (((gL M 444 (x2).toNatClampNeg) < ((gI M (rR M 404 5) 1).toInt64) → K (some (.int ((gL M 444 (x2).toNatClampNeg).toInt32))) M) ∧ (¬ (gL M 444 (x2).toNatClampNeg) < ((gI M (rR M 404 5) 1).toInt64) → K (some (.int (0 : Int32))) (uI M 404 9 (4 : Int32))))))) : sp_X2_element [.ref 404, .ref 100027, .int x2] M K := by
  refine ⟨Nat.le_of_ble_eq_true rfl, fun G hc => ?_⟩
  rw [hW.1] at hc
  exact eX2_element_27 hc hW  h
set_option maxRecDepth 100000 in
theorem eX2_element_28 {G : Nat → KT} {K : RT} (hc : cloX2_element G K wT) {x2 : Int32} {M : Mem} (hW : Wf M) (h : (vp_in (gI M 404 7) 8) ∧ (((gL M 409 (gI M 404 7).toNatClampNeg) ≤ (64 : Int64) → (∀ y1 : Int64, y1 = ((gL M 409 (gI M 404 7).toNatClampNeg) + (x2.toInt64)) → (y1 < (0 : Int64) → K (some (.int (0 : Int32))) (uI M 404 9 (4 : Int32))) ∧ (¬ y1 < (0 : Int64) → ((y1 < ((gI M (rR M 404 5) 1).toInt64) → K (some (.int (y1.toInt32))) M) ∧ (¬ y1 < ((gI M (rR M 404 5) 1).toInt64) → K (some (.int (0 : Int32))) (uI M 404 9 (4 : Int32))))))) ∧ (¬ (gL M 409 (gI M 404 7).toNatClampNeg) ≤ (64 : Int64) → (((64 : Int64) < (0 : Int64) → K (some (.int (0 : Int32))) (uI M 404 9 (4 : Int32))) ∧ (¬ (64 : Int64) < (0 : Int64) → (((64 : Int64) < ((gI M (rR M 404 5) 1).toInt64) → K (some (.int ((64 : Int64).toInt32))) M) ∧ (¬ (64 : Int64) < ((gI M (rR M 404 5) 1).toInt64) → K (some (.int (0 : Int32))) (uI M 404 9 (4 : Int32))))))))) : G 0 [some (.ref 404), some (.ref 100028), some (.int x2), none, none, none, none] [] M :=
  (hc.1 _ _ _ (i_aload rfl (i_gets (i_acmp_eq (isOp_lit (by decide)) (isOp_lit (by decide)) (fun q => absurd q (by decide)) (fun _ => (hc.2.1 _ _ _ (i_aload rfl (i_gets (i_acmp_ne (isOp_lit (by decide)) (isOp_lit (by decide)) (fun _ => (hc.2.2.2.1 _ _ _ (i_aload rfl (i_getR (okS hW Sk_404) (nv_404_0 hW) (i_getR (okS hW Sk_405) (nv_405_3 hW) (i_aload rfl (i_getI (okS hW Sk_404) (i_lald hW Ss_409 h.1 (i_lstore (Nat.le_of_ble_eq_true rfl) (i_lload rfl (i_lc (i_lcmp (i_lcmp_le (fun q2528 => (hc.2.2.2.2.2.1 _ _ _ (i_lload rfl (i_iload rfl (i_i2l (i_ladd (hc.2.2.2.2.2.2.1 _ _ _ (i_lstore (Nat.le_of_ble_eq_true rfl) (hc.2.2.2.2.2.2.2.1 _ _ _ (i_lload rfl (i_lc (i_lcmp (i_lcmp_lt (fun q2529 => (hc.2.2.2.2.2.2.2.2.2.1 _ _ _ (i_aload rfl (i_ic (i_putI (okS hW Sk_404) (i_ic (i_iret hW.1 (((h.2.1 q2528) _ rfl).1 q2529)))))))) (fun q2529 => (hc.2.2.2.2.2.2.2.2.1 _ _ _ (i_lload rfl (i_aload rfl (i_getR (okS hW Sk_404) (Wf.mut (M := M) hW (show mx 404 5 = some 5 from by decide)) (i_getI (okS hW (Wf.mutS (M := M) hW (show mx 404 5 = some 5 from by decide))) (i_i2l (i_lcmp (i_lcmp_lt (fun q2530 => (hc.2.2.2.2.2.2.2.2.2.2 _ _ _ (i_lload rfl (i_l2i (i_iret hW.1 ((((h.2.1 q2528) _ rfl).2 q2529).1 q2530)))))) (fun q2530 => (hc.2.2.2.2.2.2.2.2.2.1 _ _ _ (i_aload rfl (i_ic (i_putI (okS hW Sk_404) (i_ic (i_iret hW.1 ((((h.2.1 q2528) _ rfl).2 q2529).2 q2530)))))))))))))))))))))))))))))) (fun q2528 => (hc.2.2.2.2.1 _ _ _ (i_lc (hc.2.2.2.2.2.2.1 _ _ _ (i_lstore (Nat.le_of_ble_eq_true rfl) (hc.2.2.2.2.2.2.2.1 _ _ _ (i_lload rfl (i_lc (i_lcmp (i_lcmp_lt (fun q2531 => (hc.2.2.2.2.2.2.2.2.2.1 _ _ _ (i_aload rfl (i_ic (i_putI (okS hW Sk_404) (i_ic (i_iret hW.1 ((h.2.2 q2528).1 q2531)))))))) (fun q2531 => (hc.2.2.2.2.2.2.2.2.1 _ _ _ (i_lload rfl (i_aload rfl (i_getR (okS hW Sk_404) (Wf.mut (M := M) hW (show mx 404 5 = some 5 from by decide)) (i_getI (okS hW (Wf.mutS (M := M) hW (show mx 404 5 = some 5 from by decide))) (i_i2l (i_lcmp (i_lcmp_lt (fun q2532 => (hc.2.2.2.2.2.2.2.2.2.2 _ _ _ (i_lload rfl (i_l2i (i_iret hW.1 (((h.2.2 q2528).2 q2531).1 q2532)))))) (fun q2532 => (hc.2.2.2.2.2.2.2.2.2.1 _ _ _ (i_aload rfl (i_ic (i_putI (okS hW Sk_404) (i_ic (i_iret hW.1 (((h.2.2 q2528).2 q2531).2 q2532)))))))))))))))))))))))))))))))))))))))) (fun q => absurd q (by decide)))))))))))
theorem wX2_element_28 {x2 : Int32} {M : Mem} {K : RT} (hW : Wf M) (h : (vp_in (gI M 404 7) 8) ∧ (((gL M 409 (gI M 404 7).toNatClampNeg) ≤ (64 : Int64) → (∀ y1 : Int64, y1 = ((gL M 409 (gI M 404 7).toNatClampNeg) + (x2.toInt64)) → (y1 < (0 : Int64) → K (some (.int (0 : Int32))) (uI M 404 9 (4 : Int32))) ∧ (¬ y1 < (0 : Int64) → ((y1 < ((gI M (rR M 404 5) 1).toInt64) → K (some (.int (y1.toInt32))) M) ∧ (¬ y1 < ((gI M (rR M 404 5) 1).toInt64) → K (some (.int (0 : Int32))) (uI M 404 9 (4 : Int32))))))) ∧ (¬ (gL M 409 (gI M 404 7).toNatClampNeg) ≤ (64 : Int64) → (((64 : Int64) < (0 : Int64) → K (some (.int (0 : Int32))) (uI M 404 9 (4 : Int32))) ∧ (¬ (64 : Int64) < (0 : Int64) → (((64 : Int64) < ((gI M (rR M 404 5) 1).toInt64) → K (some (.int ((64 : Int64).toInt32))) M) ∧ (¬ (64 : Int64) < ((gI M (rR M 404 5) 1).toInt64) → K (some (.int (0 : Int32))) (uI M 404 9 (4 : Int32))))))))) : sp_X2_element [.ref 404, .ref 100028, .int x2] M K := by
  refine ⟨Nat.le_of_ble_eq_true rfl, fun G hc => ?_⟩
  rw [hW.1] at hc
  exact eX2_element_28 hc hW  h
set_option maxRecDepth 100000 in
theorem eX2_element_29 {G : Nat → KT} {K : RT} (hc : cloX2_element G K wT) {x2 : Int32} {M : Mem} (hW : Wf M) (h : (vp_in (gI M 404 7) 8) ∧ (((gL M 409 (gI M 404 7).toNatClampNeg) ≤ (64 : Int64) → (∀ y1 : Int64, y1 = ((gL M 409 (gI M 404 7).toNatClampNeg) + (x2.toInt64)) → (y1 < (0 : Int64) → K (some (.int (0 : Int32))) (uI M 404 9 (4 : Int32))) ∧ (¬ y1 < (0 : Int64) → ((y1 < ((gI M (rR M 404 5) 1).toInt64) → K (some (.int (y1.toInt32))) M) ∧ (¬ y1 < ((gI M (rR M 404 5) 1).toInt64) → K (some (.int (0 : Int32))) (uI M 404 9 (4 : Int32))))))) ∧ (¬ (gL M 409 (gI M 404 7).toNatClampNeg) ≤ (64 : Int64) → (((64 : Int64) < (0 : Int64) → K (some (.int (0 : Int32))) (uI M 404 9 (4 : Int32))) ∧ (¬ (64 : Int64) < (0 : Int64) → (((64 : Int64) < ((gI M (rR M 404 5) 1).toInt64) → K (some (.int ((64 : Int64).toInt32))) M) ∧ (¬ (64 : Int64) < ((gI M (rR M 404 5) 1).toInt64) → K (some (.int (0 : Int32))) (uI M 404 9 (4 : Int32))))))))) : G 0 [some (.ref 404), some (.ref 100029), some (.int x2), none, none, none, none] [] M :=
  (hc.1 _ _ _ (i_aload rfl (i_gets (i_acmp_eq (isOp_lit (by decide)) (isOp_lit (by decide)) (fun q => absurd q (by decide)) (fun _ => (hc.2.1 _ _ _ (i_aload rfl (i_gets (i_acmp_ne (isOp_lit (by decide)) (isOp_lit (by decide)) (fun _ => (hc.2.2.2.1 _ _ _ (i_aload rfl (i_getR (okS hW Sk_404) (nv_404_0 hW) (i_getR (okS hW Sk_405) (nv_405_3 hW) (i_aload rfl (i_getI (okS hW Sk_404) (i_lald hW Ss_409 h.1 (i_lstore (Nat.le_of_ble_eq_true rfl) (i_lload rfl (i_lc (i_lcmp (i_lcmp_le (fun q2538 => (hc.2.2.2.2.2.1 _ _ _ (i_lload rfl (i_iload rfl (i_i2l (i_ladd (hc.2.2.2.2.2.2.1 _ _ _ (i_lstore (Nat.le_of_ble_eq_true rfl) (hc.2.2.2.2.2.2.2.1 _ _ _ (i_lload rfl (i_lc (i_lcmp (i_lcmp_lt (fun q2539 => (hc.2.2.2.2.2.2.2.2.2.1 _ _ _ (i_aload rfl (i_ic (i_putI (okS hW Sk_404) (i_ic (i_iret hW.1 (((h.2.1 q2538) _ rfl).1 q2539)))))))) (fun q2539 => (hc.2.2.2.2.2.2.2.2.1 _ _ _ (i_lload rfl (i_aload rfl (i_getR (okS hW Sk_404) (Wf.mut (M := M) hW (show mx 404 5 = some 5 from by decide)) (i_getI (okS hW (Wf.mutS (M := M) hW (show mx 404 5 = some 5 from by decide))) (i_i2l (i_lcmp (i_lcmp_lt (fun q2540 => (hc.2.2.2.2.2.2.2.2.2.2 _ _ _ (i_lload rfl (i_l2i (i_iret hW.1 ((((h.2.1 q2538) _ rfl).2 q2539).1 q2540)))))) (fun q2540 => (hc.2.2.2.2.2.2.2.2.2.1 _ _ _ (i_aload rfl (i_ic (i_putI (okS hW Sk_404) (i_ic (i_iret hW.1 ((((h.2.1 q2538) _ rfl).2 q2539).2 q2540)))))))))))))))))))))))))))))) (fun q2538 => (hc.2.2.2.2.1 _ _ _ (i_lc (hc.2.2.2.2.2.2.1 _ _ _ (i_lstore (Nat.le_of_ble_eq_true rfl) (hc.2.2.2.2.2.2.2.1 _ _ _ (i_lload rfl (i_lc (i_lcmp (i_lcmp_lt (fun q2541 => (hc.2.2.2.2.2.2.2.2.2.1 _ _ _ (i_aload rfl (i_ic (i_putI (okS hW Sk_404) (i_ic (i_iret hW.1 ((h.2.2 q2538).1 q2541)))))))) (fun q2541 => (hc.2.2.2.2.2.2.2.2.1 _ _ _ (i_lload rfl (i_aload rfl (i_getR (okS hW Sk_404) (Wf.mut (M := M) hW (show mx 404 5 = some 5 from by decide)) (i_getI (okS hW (Wf.mutS (M := M) hW (show mx 404 5 = some 5 from by decide))) (i_i2l (i_lcmp (i_lcmp_lt (fun q2542 => (hc.2.2.2.2.2.2.2.2.2.2 _ _ _ (i_lload rfl (i_l2i (i_iret hW.1 (((h.2.2 q2538).2 q2541).1 q2542)))))) (fun q2542 => (hc.2.2.2.2.2.2.2.2.2.1 _ _ _ (i_aload rfl (i_ic (i_putI (okS hW Sk_404) (i_ic (i_iret hW.1 (((h.2.2 q2538).2 q2541).2 q2542)))))))))))))))))))))))))))))))))))))))) (fun q => absurd q (by decide)))))))))))
theorem wX2_element_29 {x2 : Int32} {M : Mem} {K : RT} (hW : Wf M) (h : (vp_in (gI M 404 7) 8) ∧ (((gL M 409 (gI M 404 7).toNatClampNeg) ≤ (64 : Int64) → (∀ y1 : Int64, y1 = ((gL M 409 (gI M 404 7).toNatClampNeg) + (x2.toInt64)) → (y1 < (0 : Int64) → K (some (.int (0 : Int32))) (uI M 404 9 (4 : Int32))) ∧ (¬ y1 < (0 : Int64) → ((y1 < ((gI M (rR M 404 5) 1).toInt64) → K (some (.int (y1.toInt32))) M) ∧ (¬ y1 < ((gI M (rR M 404 5) 1).toInt64) → K (some (.int (0 : Int32))) (uI M 404 9 (4 : Int32))))))) ∧ (¬ (gL M 409 (gI M 404 7).toNatClampNeg) ≤ (64 : Int64) → (((64 : Int64) < (0 : Int64) → K (some (.int (0 : Int32))) (uI M 404 9 (4 : Int32))) ∧ (¬ (64 : Int64) < (0 : Int64) → (((64 : Int64) < ((gI M (rR M 404 5) 1).toInt64) → K (some (.int ((64 : Int64).toInt32))) M) ∧ (¬ (64 : Int64) < ((gI M (rR M 404 5) 1).toInt64) → K (some (.int (0 : Int32))) (uI M 404 9 (4 : Int32))))))))) : sp_X2_element [.ref 404, .ref 100029, .int x2] M K := by
  refine ⟨Nat.le_of_ble_eq_true rfl, fun G hc => ?_⟩
  rw [hW.1] at hc
  exact eX2_element_29 hc hW  h
theorem c_shifted {o : Nat} (ho : o = 11 ∨ o = 12 ∨ o = 13) {k : Int32} {x S : Int64} {M : Mem} {K : RT} (hW : Wf M) (hs : ∃ q, q < 8 ∧ gI M 404 7 = nI q ∧ gL M 409 q = S) (h : K (some (.long (shS o k x S))) M) : sp_X2_shifted [.ref 404, .ref (100000 + o), .int k, .long x] M K := by
  obtain ⟨q, q1, q2, q3⟩ := hs
  have hv : vp_in (gI M 404 7) 8 := by rw [q2]; exact vpN q1 (by decide)
  have hS : gL M 409 (gI M 404 7).toNatClampNeg = S := by rw [q2, nI_clamp (by omega)]; exact q3
  rcases ho with rfl | rfl | rfl
  · refine wX2_shifted_11 hW ⟨hv, fun y e => ?_⟩
    rw [hS] at e; subst e; exact h
  · refine wX2_shifted_12 hW ⟨hv, fun y e => ?_⟩
    rw [hS] at e; subst e; exact h
  · refine wX2_shifted_13 hW ⟨hv, fun y e => ?_⟩
    rw [hS] at e; subst e; exact h
/-- the end of element() -/
theorem el_end {p : Int64} {a m : Nat} {M : Mem} {K : RT} (ha : gR M 404 5 = some a) (hm : gI M a 1 = nI m) (hm64 : m ≤ 64) (h : (∀ q, q < m → p = lN q → K (some (.int (nI q))) M) ∧ (¬ inS p m → K (some (.int 0)) (uI M 404 9 4))) :
    (p < 0 → K (some (.int (0 : Int32))) (uI M 404 9 (4 : Int32))) ∧ (¬ p < 0 → (p < ((gI M (rR M 404 5) 1).toInt64) → K (some (.int p.toInt32)) M) ∧ (¬ p < ((gI M (rR M 404 5) 1).toInt64) → K (some (.int (0 : Int32))) (uI M 404 9 (4 : Int32)))) := by
  have e : rR M 404 5 = a := by unfold rR; rw [ha]; rfl
  rw [e, hm, nI_toL (by omega)]
  refine ⟨fun q => h.2 (fun w => absurd w.1 (Int64.not_le.mpr q)), fun q => ⟨fun q2 => ?_, fun q2 => h.2 (fun w => q2 w.2)⟩⟩
  obtain ⟨j, j1, j2⟩ := inS_lN hm64 ⟨Int64.not_lt.mp q, q2⟩
  rw [j2, lN_toI]
  exact h.1 j j1 j2
theorem c_element {o : Nat} (ho : o = 26 ∨ o = 27 ∨ o = 28 ∨ o = 29) {i a m : Nat} {S : Int64} {X : Nat → Int64} {M : Mem} {K : RT} (hW : Wf M) (hi : i < 32) (hX : gL M 444 i = X i) (hs : ∃ q, q < 8 ∧ gI M 404 7 = nI q ∧ gL M 409 q = S) (ha : gR M 404 5 = some a) (hm : gI M a 1 = nI m) (hm64 : m ≤ 64)
    (h : (∀ q, q < m → elS o X S i = lN q → K (some (.int (nI q))) M) ∧ (¬ inS (elS o X S i) m → K (some (.int 0)) (uI M 404 9 4))) : sp_X2_element [.ref 404, .ref (100000 + o), .int (nI i)] M K := by
  obtain ⟨q, q1, q2, q3⟩ := hs
  have hv : vp_in (gI M 404 7) 8 := by rw [q2]; exact vpN q1 (by decide)
  have hS : gL M 409 (gI M 404 7).toNatClampNeg = S := by rw [q2, nI_clamp (by omega)]; exact q3
  have hvi : vp_in (nI i) 32 := vpN hi (by decide)
  have hXi : gL M 444 (nI i).toNatClampNeg = X i := by rw [nI_clamp (by omega)]; exact hX
  have eA : ∀ o, o = 26 ∨ o = 27 → elS o X S i = X i := fun o h => if_pos h
  have eB : ∀ o, o = 28 ∨ o = 29 → elS o X S i = if (64 : Int64) < S then 64 else S + lN i := fun o h => if_neg (by omega)
  rcases ho with rfl | rfl | rfl | rfl
  · rw [eA _ (Or.inl rfl)] at h
    refine wX2_element_26 hW ⟨hvi, ?_⟩
    rw [hXi]; exact el_end ha hm hm64 h
  · rw [eA _ (Or.inr rfl)] at h
    refine wX2_element_27 hW ⟨hvi, ?_⟩
    rw [hXi]; exact el_end ha hm hm64 h
  · rw [eB _ (Or.inl rfl)] at h
    refine wX2_element_28 hW ⟨hv, ?_⟩
    rw [hS, nI_toL (by omega)]
    refine ⟨fun w y e => ?_, fun w => ?_⟩
    · rw [if_neg (Int64.not_lt.mpr w)] at h
      subst e; exact el_end ha hm hm64 h
    · rw [if_pos (Int64.not_le.mp w)] at h
      exact el_end ha hm hm64 h
  · rw [eB _ (Or.inr rfl)] at h
    refine wX2_element_29 hW ⟨hv, ?_⟩
    rw [hS, nI_toL (by omega)]
    refine ⟨fun w y e => ?_, fun w => ?_⟩
    · rw [if_neg (Int64.not_lt.mpr w)] at h
      subst e; exact el_end ha hm hm64 h
    · rw [if_pos (Int64.not_le.mp w)] at h
      exact el_end ha hm hm64 h
end MADE
