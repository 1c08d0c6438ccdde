section STORE
set_option maxRecDepth 100000 in
theorem eX2_moveOne {G : Nat → KT} {K : RT} (hc : cloX2_moveOne G K wT) {x1 : Nat} {M : Mem} (hW : Wf M) (hx1 : isOp x1) (h : (¬ x1 = 100044 → G 23 [some (.ref 404), some (.ref x1), some (.ref (rR M 443 0)), none] [.int (2 : Int32), .ref 442] M) ∧ (x1 = 100044 → G 23 [some (.ref 404), some (.ref x1), some (.ref (rR M 443 0)), none] [.int (3 : Int32), .ref 442] M)) : G 0 [some (.ref 404), some (.ref x1), none, none] [] M :=
  (hc.1 _ _ _ (i_aload rfl (i_getR (okS hW Sk_404) (nv_404_4 hW) (i_ic (i_aald hW Ss_443 (vpd rfl) (Wf.mut (M := M) hW (mx_rows (by decide))) (i_astore (Nat.le_of_ble_eq_true rfl) (i_aload rfl (i_getR (okS hW Sk_404) (nv_404_1 hW) (i_aload rfl (i_gets (i_acmp_ne hx1 (isOp_lit (by decide)) (fun q848 => (hc.2.2.1 _ _ _ (i_ic (h.1 q848)))) (fun q848 => (hc.2.1 _ _ _ (i_ic (h.2 q848)))))))))))))))
set_option maxRecDepth 100000 in
theorem eX2_moveOne_23 {G : Nat → KT} {K : RT} (hc : cloX2_moveOne G K wT) {x1 : Nat} {x2 : Nat} {o3 : Option Value} {s0 : Nat} {ns0 : Nat} {s1 : Int32} {M : Mem} (hW : Wf M) (hx1 : isOp x1) (hx2 : (Sh x2).1 = 5) (hs0 : Sh s0 = (14, ns0)) (h : (vp_in s1 ns0) ∧ (((P_X8_has x2 ((gL M s0 (s1).toNatClampNeg).toInt32) M) → ((¬ x1 = 100044 → ((vp_in (gI M 404 7) 8) ∧ ((isK1 (gI M x2 0) (gL M 409 (gI M 404 7).toNatClampNeg)) ∧ ((vp_in ((gL M s0 (s1).toNatClampNeg).toInt32) 64) ∧ K none (uI (uL M (x2 + 1) ((gL M s0 (s1).toNatClampNeg).toInt32).toNatClampNeg (putJ (gI M x2 0) (gL M 409 (gI M 404 7).toNatClampNeg))) 404 3 (1 : Int32)))))) ∧ (x1 = 100044 → ((vp_in ((gL M s0 (s1).toNatClampNeg).toInt32) 64) ∧ ((vp_in (gI M 404 7) 8) ∧ K none (uL M 409 (gI M 404 7).toNatClampNeg (gL M (x2 + 1) ((gL M s0 (s1).toNatClampNeg).toInt32).toNatClampNeg))))))) ∧ (¬ (P_X8_has x2 ((gL M s0 (s1).toNatClampNeg).toInt32) M) → K none (uI (uI M 404 2 ((gL M s0 (s1).toNatClampNeg).toInt32)) 404 9 (4 : Int32))))) : G 23 [some (.ref 404), some (.ref x1), some (.ref x2), o3] [.int s1, .ref s0] M :=
  (hc.2.2.2.1 _ _ _ (i_lald hW hs0 h.1 (i_l2i (i_istore (Nat.le_of_ble_eq_true rfl) (i_aload rfl (i_iload rfl (i_callV2 (Nat.le_of_ble_eq_true rfl) (okS hW hx2) (c_X8_has hW hx2 (i_rI (i_bI_ne (fun q849 => (hc.2.2.2.2.2.1 _ _ _ (i_aload rfl (i_gets (i_acmp_ne hx1 (isOp_lit (by decide)) (fun q850 => (hc.2.2.2.2.2.2.2.1 _ _ _ (i_aload rfl (i_getR (okS hW hx2) (nvRow hW hx2) (i_iload rfl (i_aload rfl (i_getI (okS hW hx2) (i_aload rfl (i_getR (okS hW Sk_404) (nv_404_0 hW) (i_getR (okS hW Sk_405) (nv_405_3 hW) (i_aload rfl (i_getI (okS hW Sk_404) (i_lald hW Ss_409 ((h.2.1 q849).1 q850).1 (i_callS2 (Nat.le_of_ble_eq_true rfl) (c_putJ hW  ((h.2.1 q849).1 q850).2.1 (i_rJ (i_last hW (Srow hx2) ((h.2.1 q849).1 q850).2.2.1 (i_aload rfl (i_ic (i_putI (okS hW Sk_404) (hc.2.2.2.2.2.2.2.2 _ _ _ (i_vret hW.1 ((h.2.1 q849).1 q850).2.2.2)))))))))))))))))))))) (fun q850 => (hc.2.2.2.2.2.2.1 _ _ _ (i_aload rfl (i_getR (okS hW Sk_404) (nv_404_0 hW) (i_getR (okS hW Sk_405) (nv_405_3 hW) (i_aload rfl (i_getI (okS hW Sk_404) (i_aload rfl (i_getR (okS hW hx2) (nvRow hW hx2) (i_iload rfl (i_lald hW (Srow hx2) ((h.2.1 q849).2 q850).1 (i_last hW Ss_409 ((h.2.1 q849).2 q850).2.1 (hc.2.2.2.2.2.2.2.2 _ _ _ (i_vret hW.1 ((h.2.1 q849).2 q850).2.2))))))))))))))))))) (fun q849 => (hc.2.2.2.2.1 _ _ _ (i_aload rfl (i_iload rfl (i_putI (okS hW Sk_404) (i_aload rfl (i_ic (i_putI (okS hW Sk_404) (hc.2.2.2.2.2.2.2.2 _ _ _ (i_vret hW.1 (h.2.2 q849)))))))))))))))))))))
theorem wX2_moveOne {x1 : Nat} {M : Mem} {K : RT} (hW : Wf M) (hx1 : isOp x1) (h : ∀ {G : Nat → KT}, cloX2_moveOne G K wT → (¬ x1 = 100044 → G 23 [some (.ref 404), some (.ref x1), some (.ref (rR M 443 0)), none] [.int (2 : Int32), .ref 442] M) ∧ (x1 = 100044 → G 23 [some (.ref 404), some (.ref x1), some (.ref (rR M 443 0)), none] [.int (3 : Int32), .ref 442] M)) : sp_X2_moveOne [.ref 404, .ref x1] M K := by
  refine ⟨Nat.le_of_ble_eq_true rfl, fun G hc => ?_⟩
  rw [hW.1] at hc
  exact eX2_moveOne hc hW hx1 (h hc)
/-- scatter, store: fault, lane, the elements -/
noncomputable def strun (el : Nat → Int64) (m : Nat) (f : Nat → Int64) (on : Nat → Prop) : Nat → Nat → (Nat → Int64) → Int32 × Nat × (Nat → Int64)
  | 0, i, g => (0, i, g)
  | j + 1, i, g => iT (on i) (iT (inS (el i) m) (strun el m f on j (i + 1) (up1 g (el i).toInt.toNat (f i))) (4, i, g)) (strun el m f on j (i + 1) g)
theorem c_store {o r0 n a m : Nat} {w : Int32} {S : Int64} {X f g : Nat → Int64} {M : Mem} {K : RT} (hW : Wf M) (ho : o = 27 ∨ o = 29) (hr0 : gR M 443 0 = some r0) (kr0 : (Sh r0).1 = 5) (hn : gI M r0 1 = nI n ∧ n ≤ 32) (hf : ∀ j, j < n → gL M (r0 + 1) j = f j) (hX : ∀ j, j < n → gL M 444 j = X j) (hw : gI M 404 8 = w) (hf0 : gI M 404 9 = 0) (hs : ScIs M S)
    (ha : gR M 404 5 = some a) (ka : (Sh a).1 = 5) (hm : gI M a 1 = nI m ∧ m ≤ 64) (hg : ∀ j, j < m → gL M (a + 1) j = g j) (n1 : ¬ 444 = a + 1) (n2 : ¬ 409 = a + 1) (n3 : ¬ a = r0) (n5 : ¬ r0 = 404) (n6 : ¬ a = 404)  (n9 : ¬ r0 + 1 = 404)
    (h : ∀ M', Wf M' → M4 (fun b => b = a + 1) M M' → gR M' = gR M → (∀ j, j < m → gL M' (a + 1) j = (strun (elS o X S) m f (onW w) n 0 g).2.2 j) → gI M' 404 2 = (if (strun (elS o X S) m f (onW w) n 0 g).1 = 0 then gI M 404 2 else nI (strun (elS o X S) m f (onW w) n 0 g).2.1) → gI M' 404 3 = (if (strun (elS o X S) m f (onW w) n 0 g).1 = 0 then f_J6_bitCount_0f7a4 w else gI M 404 3) → gI M' 404 9 = (strun (elS o X S) m f (onW w) n 0 g).1 → K none M') : sp_X2_store [.ref 404, .ref (100000 + o)] M K := by
  have hx : isOp (100000 + o) := by rcases ho with rfl | rfl <;> exact isOp_lit (by decide)
  refine wX2_store hW hx (fun {G} hc => ?_)
  have hn2 := hn.2
  have hm2 := hm.2
  have loop : ∀ j i g' M1, i + j = n → Wf M1 → M4 (fun b => b = a + 1) M M1 → gR M1 = gR M → gI M1 = gI M → (∀ q, q < m → gL M1 (a + 1) q = g' q) → (∀ q, q < n → gL M1 (r0 + 1) q = f q) → (∀ q, q < n → gL M1 444 q = X q) → strun (elS o X S) m f (onW w) j i g' = strun (elS o X S) m f (onW w) n 0 g → ∀ {o3 : Option Value}, G 2 [some (.ref 404), some (.ref (100000 + o)), some (.int (nI i)), o3] [] M1 := by
    intro j
    induction j with
    | zero =>
      intro i g' M1 hi hW1 hm1 hR1 hI1 hg1 hf1 hX1 hl o3
      have : i = n := by omega
      subst this
      have hl : ((0 : Int32), i, g') = strun (elS o X S) m f (onW w) i 0 g := hl
      rw [← hl] at h
      refine eX2_store_2 hc hW1 hx ?_
      rw [rR_of ((congrFun (congrFun hR1 443) 0).trans hr0), hI1, hn.1, hw]
      refine ⟨fun _ => h _ (Wf_uI hW1) (hm1.tr (M4_uI (by decide))) hR1 hg1 ?_ ?_ ?_, fun q => absurd (nI_le (Nat.le_refl _) (by omega)) q⟩
      · rw [if_pos rfl, rI_k (by decide), hI1]
      · rw [if_pos rfl, rI_eq]
      · rw [rI_k (by decide), hI1]; exact hf0
    | succ j ih =>
      intro i g' M1 hi hW1 hm1 hR1 hI1 hg1 hf1 hX1 hl o3
      have hl : iT (onW w i) (iT (inS (elS o X S i) m) (strun (elS o X S) m f (onW w) j (i + 1) (up1 g' (elS o X S i).toInt.toNat (f i))) (4, i, g')) (strun (elS o X S) m f (onW w) j (i + 1) g') = strun (elS o X S) m f (onW w) n 0 g := hl
      have hP : P_X2_isOn (nI i) M1 ↔ onW w i := by unfold P_X2_isOn; rw [hI1, hw]; exact Iff.rfl
      have hR5 : gR M1 404 5 = some a := (congrFun (congrFun hR1 404) 5).trans ha
      refine eX2_store_2 hc hW1 hx ?_
      rw [rR_of ((congrFun (congrFun hR1 443) 0).trans hr0), hP, hI1, hn.1, nI_1]
      refine ⟨fun q => absurd ((nI_leI (by omega) (by omega)).mp q) (by omega), fun _ => ⟨fun q => ?_, fun q => ?_⟩⟩
      · rw [iT_f q] at hl
        exact ih (i + 1) g' M1 (by omega) hW1 hm1 hR1 hI1 hg1 hf1 hX1 hl
      · rw [iT_t q] at hl
        refine c_element (X := X) (S := S) (by omega) hW1 (by omega) (hX1 i (by omega)) ?_ hR5 (by rw [hI1]; exact hm.1) hm2 ⟨fun p hp e => ?_, fun q2 => ?_⟩
        · obtain ⟨q', z1, z2, z3⟩ := hs
          exact ⟨q', z1, by rw [hI1]; exact z2, by rw [hm1.1.L (show ¬ (409 = 404 ∨ 409 = a + 1) by omega)]; exact z3⟩
        · have hin : inS (elS o X S i) m := by
            rw [e]
            exact ⟨(l6_le (a := 0) (by decide) (by omega)).mpr (Nat.zero_le _), (l6_lt (by omega) (by omega)).mpr hp⟩
          rw [iT_t hin, e, l6_int (by omega), Int.toNat_natCast] at hl
          refine rX2_store_23_3 hc hW1 hx ⟨fun _ => ⟨vpN (by omega) (by decide), vpN (by omega) (by decide), ?_⟩, fun z => absurd (by rw [hI1]; exact hf0) z⟩
          rw [rR_of hR5, rR_of ((congrFun (congrFun hR1 443) 0).trans hr0), nI_clamp (by omega), nI_clamp (by omega), nI_1, hf1 i (by omega)]
          refine ih (i + 1) _ _ (by omega) (Wf_uL hW1) (hm1.tr (M4_uL rfl)) hR1 hI1 (fun z hz => ?_) (fun z hz => ?_) (fun z hz => ?_) hl
          · unfold up1
            by_cases e2 : z = p
            · subst e2; rw [rL_eq, if_pos rfl]
            · rw [rL_k e2, if_neg e2]; exact hg1 z hz
          · rw [rL_a (by omega)]; exact hf1 z hz
          · rw [rL_a n1]; exact hX1 z hz
        · rw [iT_f q2] at hl
          rw [← hl] at h
          refine rX2_store_23_3 hc (Wf_uI hW1) hx ⟨fun z => ?_, fun _ => ?_⟩
          · rw [rI_eq] at z; exact absurd z (by decide)
          · refine h _ (Wf_uI (Wf_uI hW1)) ((hm1.tr (M4_uI (by decide))).tr (M4_uI (by decide))) hR1 hg1 ?_ ?_ ?_
            · rw [if_neg (show ¬ (4 : Int32) = 0 by decide), rI_eq]
            · rw [if_neg (show ¬ (4 : Int32) = 0 by decide), rI_k (by decide), rI_k (by decide), hI1]
            · rw [rI_k (by decide), rI_eq]
  exact loop n 0 g M (by omega) hW M4.rf rfl rfl hg hf hX rfl
/-- get and put -/
theorem c_get {r0 n p q : Nat} {f : Nat → Int64} {M : Mem} {K : RT} (hW : Wf M) (hr0 : gR M 443 0 = some r0) (kr0 : (Sh r0).1 = 5) (hn : gI M r0 1 = nI n ∧ n ≤ 32) (hf : ∀ j, j < n → gL M (r0 + 1) j = f j) (hp : gL M 442 3 = lN p ∧ p < 32) (hq : q < 8) (hs : gI M 404 7 = nI q)
    (h : K none (if p < n then uL M 409 q (f p) else uI (uI M 404 2 (nI p)) 404 9 4)) : sp_X2_moveOne [.ref 404, .ref (100000 + 44)] M K := by
  have hv : vp_in (gI M 404 7) 8 := by rw [hs]; exact vpN hq (by decide)
  have hcl : (gI M 404 7).toNatClampNeg = q := by rw [hs, nI_clamp (by omega)]
  have hn2 := hn.2
  refine wX2_moveOne hW (isOp_lit (by decide)) (fun {G} hc => ⟨fun z => absurd rfl z, fun _ => ?_⟩)
  have kk : (Sh (rR M 443 0)).1 = 5 := by rw [rR_of hr0]; exact kr0
  refine eX2_moveOne_23 hc hW (isOp_lit (by decide)) kk Ss_442 ⟨vpd rfl, ?_⟩
  rw [rR_of hr0]
  unfold P_X8_has
  rw [show (3 : Int32).toNatClampNeg = 3 from by decide, hp.1, lN_toI, hn.1, nI_leI (by omega) (by omega), nI_clamp (by omega), hcl]
  refine ⟨fun z => ⟨fun y => absurd rfl y, fun _ => ⟨vpN (by omega) (by decide), hv, ?_⟩⟩, fun z => ?_⟩
  · have e : p < n := Nat.not_le.mp z.2
    rw [if_pos e] at h
    rw [hf p e]; exact h
  · rw [if_neg (fun y => z ⟨nI_pos (by omega), Nat.not_le.mpr y⟩)] at h
    exact h
theorem c_put1 {r0 n p q : Nat} {k : Int32} {S : Int64} {M : Mem} {K : RT} (hW : Wf M) (hr0 : gR M 443 0 = some r0) (kr0 : (Sh r0).1 = 5) (hk : gI M r0 0 = k) (hkK : isK k) (hn : gI M r0 1 = nI n ∧ n ≤ 32) (hp : gL M 442 2 = lN p ∧ p < 32) (hq : q < 8) (hs : gI M 404 7 = nI q) (hS : gL M 409 q = S)
    (h : K none (if p < n then uI (uL M (r0 + 1) p (putJ k S)) 404 3 1 else uI (uI M 404 2 (nI p)) 404 9 4)) : sp_X2_moveOne [.ref 404, .ref (100000 + 45)] M K := by
  have hv : vp_in (gI M 404 7) 8 := by rw [hs]; exact vpN hq (by decide)
  have hcl : (gI M 404 7).toNatClampNeg = q := by rw [hs, nI_clamp (by omega)]
  have hn2 := hn.2
  refine wX2_moveOne hW (isOp_lit (by decide)) (fun {G} hc => ⟨fun _ => ?_, fun z => absurd z (by decide)⟩)
  have kk : (Sh (rR M 443 0)).1 = 5 := by rw [rR_of hr0]; exact kr0
  refine eX2_moveOne_23 hc hW (isOp_lit (by decide)) kk Ss_442 ⟨vpd rfl, ?_⟩
  rw [rR_of hr0]
  unfold P_X8_has
  rw [show (2 : Int32).toNatClampNeg = 2 from by decide, hp.1, lN_toI, hn.1, nI_leI (by omega) (by omega), nI_clamp (by omega), hcl, hk, hS]
  refine ⟨fun z => ⟨fun _ => ⟨hv, hkK, vpN (by omega) (by decide), ?_⟩, fun y => absurd y (by decide)⟩, fun z => ?_⟩
  · have e : p < n := Nat.not_le.mp z.2
    rw [if_pos e] at h
    exact h
  · rw [if_neg (fun y => z ⟨nI_pos (by omega), Nat.not_le.mpr y⟩)] at h
    exact h
end STORE
