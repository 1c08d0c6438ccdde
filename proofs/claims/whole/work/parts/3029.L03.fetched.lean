section FETCHED
theorem xor_sign {x y : Int64} (hy : 0 ≤ y) : 0 ≤ x ^^^ y ↔ 0 ≤ x := by
  have h : ∀ z : Int64, 0 ≤ z ↔ z.toBitVec.msb = false := by
    intro z
    rw [Int64.le_iff_toInt_le, BitVec.msb_eq_toInt, decide_eq_false_iff_not]
    show (0 : Int) ≤ z.toBitVec.toInt ↔ _
    omega
  rw [h] at hy
  rw [h, h, Int64.toBitVec_xor, BitVec.msb_xor, hy, Bool.xor_false]
theorem lI_mul (a b : Int) : lI a * lI b = lI (a * b) := (Int64.ofInt_mul a b).symm
theorem rem_n (S : Int64) {n : Nat} (h0 : 1 ≤ n) (hn : n ≤ 64) : S - S / lN n * lN n = lI (S.toInt.tmod n) := by
  have hn2 : (lN n).toInt = n := l6_int (by omega)
  have hd : S / lN n = lI (S.toInt.tdiv n) := by
    refine Int64.toInt_inj.mp ?_
    rw [Int64.toInt_div, hn2]
    exact Int64.toInt_ofInt.symm
  have hs : S = lI S.toInt := (lI_asI S).symm
  rw [hd]
  conv => lhs; lhs; rw [hs]
  show lI _ - lI _ * lI (n : Int) = _
  rw [lI_mul, lI_sub]
  congr 1
  have := Int.mul_tdiv_add_tmod S.toInt n
  have e : S.toInt.tdiv n * n = n * S.toInt.tdiv n := Int.mul_comm _ _
  omega
theorem floor_n (S : Int64) {n : Nat} (h0 : 1 ≤ n) (hn : n ≤ 64) : f_J9_floorMod_f86c9 S (lN n) = lN (S.toInt % n).toNat := by
  unfold f_J9_floorMod_f86c9
  rw [rem_n S h0 hn]
  have h1 : 0 ≤ lN n := by rw [Int64.le_iff_toInt_le, l6_int (by omega)]; exact Int.natCast_nonneg n
  have hm := Int.emod_nonneg S.toInt (show (n : Int) ≠ 0 by omega)
  have hm2 := Int.emod_lt_of_pos S.toInt (show 0 < (n : Int) by omega)
  have e : lN (S.toInt % n).toNat = lI (S.toInt % n) := by
    show lI (((S.toInt % n).toNat : Nat) : Int) = _
    rw [Int.toNat_of_nonneg hm]
  have hx : 0 ≤ S ^^^ lN n ↔ 0 ≤ S.toInt := (xor_sign h1).trans Int64.le_iff_toInt_le
  rw [e]
  have ht : S.toInt.tmod n = if 0 ≤ S.toInt then S.toInt % n else if S.toInt % n = 0 then 0 else S.toInt % n - n := by
    rw [Int.tmod_eq_emod]
    by_cases w : 0 ≤ S.toInt
    · rw [if_pos (Or.inl w), if_pos w]; omega
    · rw [if_neg w]
      by_cases z : (n : Int) ∣ S.toInt
      · rw [if_pos (Or.inr z), if_pos (Int.emod_eq_zero_of_dvd z), Int.emod_eq_zero_of_dvd z]; rfl
      · rw [if_neg (by rintro (q | q); exact w q; exact z q), if_neg (fun q => z (Int.dvd_of_emod_eq_zero q))]
        omega
  rw [ht]
  by_cases w : 0 ≤ S.toInt
  · rw [if_pos (hx.mpr w), if_pos w]
  · rw [if_neg (fun q => w (hx.mp q)), if_neg w]
    by_cases z : S.toInt % n = 0
    · rw [if_pos z, if_pos (by rfl), z]
    · rw [if_neg z, if_neg (fun q => by
        have := (lI_eq (a := S.toInt % n - n) (b := 0) (by omega) (by decide)).mp q
        omega)]
      show lI _ + lI (n : Int) = _
      rw [lI_add]
      congr 1
      omega
set_option maxRecDepth 100000 in
theorem eX2_fetched_34 {G : Nat → KT} {K : RT} (hc : cloX2_fetched G K wT) {x2 : Int32} {r0 : Nat} {M : Mem} (hW : Wf M) (kr0 : (Sh r0).1 = 5) (hr0 : gR M 443 0 = some r0) (h : (vp_in x2 32) ∧ (((gL M 445 (x2).toNatClampNeg) < (0 : Int64) → K (some (.long (0 : Int64))) (uI M 404 9 (4 : Int32))) ∧ (¬ (gL M 445 (x2).toNatClampNeg) < (0 : Int64) → ((vp_in x2 32) ∧ (((gL M 445 (x2).toNatClampNeg) < ((gI M r0 1).toInt64) → ((vp_in x2 32) ∧ ((vp_in ((gL M 445 (x2).toNatClampNeg).toInt32) 32) ∧ K (some (.long (gL M 444 ((gL M 445 (x2).toNatClampNeg).toInt32).toNatClampNeg))) M))) ∧ (¬ (gL M 445 (x2).toNatClampNeg) < ((gI M r0 1).toInt64) → K (some (.long (0 : Int64))) (uI M 404 9 (4 : Int32)))))))) : G 0 [some (.ref 404), some (.ref 100034), some (.int x2), none] [] M :=
  (hc.1 _ _ _ (i_aload rfl (i_getR (okS hW Sk_404) (nv_404_4 hW) (i_ic (i_aald hW Ss_443 (vpd rfl) hr0 (i_getI (okS hW kr0) (i_istore (Nat.le_of_ble_eq_true rfl) (i_gets (i_aload rfl (i_ord (isOp_lit (by decide)) (i_eqI (by decide +kernel : Int32.ofNat (100034 - 100000) = 34) (i_swldC (vpd rfl) (by decide +kernel : Int32.ofNat (swT.getD ((34 : Int32).toNatClampNeg) 0) = 37) (And.intro (fun _ => (hc.2.1 _ _ _ (i_aload rfl (i_getR (okS hW Sk_404) (nv_404_11 hW) (i_iload rfl (i_lald hW Ss_445 h.1 (i_lc (i_lcmp (i_lcmp_lt (fun q2511 => (hc.2.2.2.1 _ _ _ (i_aload rfl (i_ic (i_putI (okS hW Sk_404) (i_lc (i_lret hW.1 (h.2.1 q2511)))))))) (fun q2511 => (hc.2.2.1 _ _ _ (i_aload rfl (i_getR (okS hW Sk_404) (nv_404_11 hW) (i_iload rfl (i_lald hW Ss_445 (h.2.2 q2511).1 (i_iload rfl (i_i2l (i_lcmp (i_lcmp_lt (fun q2512 => (hc.2.2.2.2.1 _ _ _ (i_aload rfl (i_getR (okS hW Sk_404) (nv_404_10 hW) (i_aload rfl (i_getR (okS hW Sk_404) (nv_404_11 hW) (i_iload rfl (i_lald hW Ss_445 ((h.2.2 q2511).2.1 q2512).1 (i_l2i (i_lald hW Ss_444 ((h.2.2 q2511).2.1 q2512).2.1 (i_lret hW.1 ((h.2.2 q2511).2.1 q2512).2.2))))))))))) (fun q2512 => (hc.2.2.2.1 _ _ _ (i_aload rfl (i_ic (i_putI (okS hW Sk_404) (i_lc (i_lret hW.1 ((h.2.2 q2511).2.2 q2512))))))))))))))))))))))))))) (fun q => absurd rfl q))))))))))))))
theorem wX2_fetched_34 {x2 : Int32} {r0 : Nat} {M : Mem} {K : RT} (hW : Wf M) (kr0 : (Sh r0).1 = 5) (hr0 : gR M 443 0 = some r0) (h : (vp_in x2 32) ∧ (((gL M 445 (x2).toNatClampNeg) < (0 : Int64) → K (some (.long (0 : Int64))) (uI M 404 9 (4 : Int32))) ∧ (¬ (gL M 445 (x2).toNatClampNeg) < (0 : Int64) → ((vp_in x2 32) ∧ (((gL M 445 (x2).toNatClampNeg) < ((gI M r0 1).toInt64) → ((vp_in x2 32) ∧ ((vp_in ((gL M 445 (x2).toNatClampNeg).toInt32) 32) ∧ K (some (.long (gL M 444 ((gL M 445 (x2).toNatClampNeg).toInt32).toNatClampNeg))) M))) ∧ (¬ (gL M 445 (x2).toNatClampNeg) < ((gI M r0 1).toInt64) → K (some (.long (0 : Int64))) (uI M 404 9 (4 : Int32)))))))) : sp_X2_fetched [.ref 404, .ref 100034, .int x2] M K := by
  refine ⟨Nat.le_of_ble_eq_true rfl, fun G hc => ?_⟩
  rw [hW.1] at hc
  exact eX2_fetched_34 hc hW kr0 hr0 h
set_option maxRecDepth 100000 in
theorem eX2_fetched_35 {G : Nat → KT} {K : RT} (hc : cloX2_fetched G K wT) {x2 : Int32} {r0 : Nat} {M : Mem} (hW : Wf M) (kr0 : (Sh r0).1 = 5) (hr0 : gR M 443 0 = some r0) (h : (vp_in (gI M 404 7) 8) ∧ ((q_J9_floorMod_f86c9 (gL M 409 (gI M 404 7).toNatClampNeg) ((gI M r0 1).toInt64)) ∧ ((¬ (gI M r0 1) = 0) ∧ ((vp_in ((x2 + ((f_J9_floorMod_f86c9 (gL M 409 (gI M 404 7).toNatClampNeg) ((gI M r0 1).toInt64)).toInt32)) - (x2 + ((f_J9_floorMod_f86c9 (gL M 409 (gI M 404 7).toNatClampNeg) ((gI M r0 1).toInt64)).toInt32)) / (gI M r0 1) * (gI M r0 1)) 32) ∧ K (some (.long (gL M 444 ((x2 + ((f_J9_floorMod_f86c9 (gL M 409 (gI M 404 7).toNatClampNeg) ((gI M r0 1).toInt64)).toInt32)) - (x2 + ((f_J9_floorMod_f86c9 (gL M 409 (gI M 404 7).toNatClampNeg) ((gI M r0 1).toInt64)).toInt32)) / (gI M r0 1) * (gI M r0 1)).toNatClampNeg))) M)))) : G 0 [some (.ref 404), some (.ref 100035), some (.int x2), none] [] M :=
  (hc.1 _ _ _ (i_aload rfl (i_getR (okS hW Sk_404) (nv_404_4 hW) (i_ic (i_aald hW Ss_443 (vpd rfl) hr0 (i_getI (okS hW kr0) (i_istore (Nat.le_of_ble_eq_true rfl) (i_gets (i_aload rfl (i_ord (isOp_lit (by decide)) (i_eqI (by decide +kernel : Int32.ofNat (100035 - 100000) = 35) (i_swldC (vpd rfl) (by decide +kernel : Int32.ofNat (swT.getD ((35 : Int32).toNatClampNeg) 0) = 38) (And.intro (fun q => absurd q (by decide)) (fun _ => (And.intro (fun _ => (hc.2.2.2.2.2.1 _ _ _ (i_aload rfl (i_getR (okS hW Sk_404) (nv_404_10 hW) (i_iload rfl (i_aload rfl (i_getR (okS hW Sk_404) (nv_404_0 hW) (i_getR (okS hW Sk_405) (nv_405_3 hW) (i_aload rfl (i_getI (okS hW Sk_404) (i_lald hW Ss_409 h.1 (i_iload rfl (i_i2l (i_callS2 (Nat.le_of_ble_eq_true rfl) (c_J9_floorMod_f86c9 hW  h.2.1 (i_rJ (i_l2i (i_iadd (i_iload rfl (i_irem h.2.2.1 (i_lald hW Ss_444 h.2.2.2.1 (i_lret hW.1 h.2.2.2.2)))))))))))))))))))))) (fun q => absurd rfl q))))))))))))))))
theorem wX2_fetched_35 {x2 : Int32} {r0 : Nat} {M : Mem} {K : RT} (hW : Wf M) (kr0 : (Sh r0).1 = 5) (hr0 : gR M 443 0 = some r0) (h : (vp_in (gI M 404 7) 8) ∧ ((q_J9_floorMod_f86c9 (gL M 409 (gI M 404 7).toNatClampNeg) ((gI M r0 1).toInt64)) ∧ ((¬ (gI M r0 1) = 0) ∧ ((vp_in ((x2 + ((f_J9_floorMod_f86c9 (gL M 409 (gI M 404 7).toNatClampNeg) ((gI M r0 1).toInt64)).toInt32)) - (x2 + ((f_J9_floorMod_f86c9 (gL M 409 (gI M 404 7).toNatClampNeg) ((gI M r0 1).toInt64)).toInt32)) / (gI M r0 1) * (gI M r0 1)) 32) ∧ K (some (.long (gL M 444 ((x2 + ((f_J9_floorMod_f86c9 (gL M 409 (gI M 404 7).toNatClampNeg) ((gI M r0 1).toInt64)).toInt32)) - (x2 + ((f_J9_floorMod_f86c9 (gL M 409 (gI M 404 7).toNatClampNeg) ((gI M r0 1).toInt64)).toInt32)) / (gI M r0 1) * (gI M r0 1)).toNatClampNeg))) M)))) : sp_X2_fetched [.ref 404, .ref 100035, .int x2] M K := by
  refine ⟨Nat.le_of_ble_eq_true rfl, fun G hc => ?_⟩
  rw [hW.1] at hc
  exact eX2_fetched_35 hc hW kr0 hr0 h
set_option maxRecDepth 100000 in
theorem eX2_fetched_36 {G : Nat → KT} {K : RT} (hc : cloX2_fetched G K wT) {x2 : Int32} {r0 : Nat} {M : Mem} (hW : Wf M) (kr0 : (Sh r0).1 = 5) (hr0 : gR M 443 0 = some r0) (h : (vp_in (((gI M r0 1) - (1 : Int32)) - x2) 32) ∧ K (some (.long (gL M 444 (((gI M r0 1) - (1 : Int32)) - x2).toNatClampNeg))) M) : G 0 [some (.ref 404), some (.ref 100036), some (.int x2), none] [] M :=
  (hc.1 _ _ _ (i_aload rfl (i_getR (okS hW Sk_404) (nv_404_4 hW) (i_ic (i_aald hW Ss_443 (vpd rfl) hr0 (i_getI (okS hW kr0) (i_istore (Nat.le_of_ble_eq_true rfl) (i_gets (i_aload rfl (i_ord (isOp_lit (by decide)) (i_eqI (by decide +kernel : Int32.ofNat (100036 - 100000) = 36) (i_swldC (vpd rfl) (by decide +kernel : Int32.ofNat (swT.getD ((36 : Int32).toNatClampNeg) 0) = 39) (And.intro (fun q => absurd q (by decide)) (fun _ => (And.intro (fun q => absurd q (by decide)) (fun _ => (And.intro (fun _ => (hc.2.2.2.2.2.2.1 _ _ _ (i_aload rfl (i_getR (okS hW Sk_404) (nv_404_10 hW) (i_iload rfl (i_ic (i_isub (i_iload rfl (i_isub (i_lald hW Ss_444 h.1 (i_lret hW.1 h.2))))))))))) (fun q => absurd rfl q))))))))))))))))))
theorem wX2_fetched_36 {x2 : Int32} {r0 : Nat} {M : Mem} {K : RT} (hW : Wf M) (kr0 : (Sh r0).1 = 5) (hr0 : gR M 443 0 = some r0) (h : (vp_in (((gI M r0 1) - (1 : Int32)) - x2) 32) ∧ K (some (.long (gL M 444 (((gI M r0 1) - (1 : Int32)) - x2).toNatClampNeg))) M) : sp_X2_fetched [.ref 404, .ref 100036, .int x2] M K := by
  refine ⟨Nat.le_of_ble_eq_true rfl, fun G hc => ?_⟩
  rw [hW.1] at hc
  exact eX2_fetched_36 hc hW kr0 hr0 h
set_option maxRecDepth 100000 in
theorem eX2_fetched_37 {G : Nat → KT} {K : RT} (hc : cloX2_fetched G K wT) {x2 : Int32} {r0 : Nat} {M : Mem} (hW : Wf M) (kr0 : (Sh r0).1 = 5) (hr0 : gR M 443 0 = some r0) (h : (¬ (x2 - x2 / (2 : Int32) * (2 : Int32)) = 0 → ((vp_in (x2 / (2 : Int32)) 32) ∧ K (some (.long (gL M 445 (x2 / (2 : Int32)).toNatClampNeg))) M)) ∧ ((x2 - x2 / (2 : Int32) * (2 : Int32)) = 0 → ((vp_in (x2 / (2 : Int32)) 32) ∧ K (some (.long (gL M 444 (x2 / (2 : Int32)).toNatClampNeg))) M))) : G 0 [some (.ref 404), some (.ref 100037), some (.int x2), none] [] M :=
  (hc.1 _ _ _ (i_aload rfl (i_getR (okS hW Sk_404) (nv_404_4 hW) (i_ic (i_aald hW Ss_443 (vpd rfl) hr0 (i_getI (okS hW kr0) (i_istore (Nat.le_of_ble_eq_true rfl) (i_gets (i_aload rfl (i_ord (isOp_lit (by decide)) (i_eqI (by decide +kernel : Int32.ofNat (100037 - 100000) = 37) (i_swldC (vpd rfl) (by decide +kernel : Int32.ofNat (swT.getD ((37 : Int32).toNatClampNeg) 0) = 0) (And.intro (fun q => absurd q (by decide)) (fun _ => (And.intro (fun q => absurd q (by decide)) (fun _ => (And.intro (fun q => absurd q (by decide)) (fun _ => (hc.2.2.2.2.2.2.2.1 _ _ _ (i_iload rfl (i_ic (i_irem (by decide) (i_if_ne (fun q2514 => (hc.2.2.2.2.2.2.2.2.2.1 _ _ _ (i_aload rfl (i_getR (okS hW Sk_404) (nv_404_11 hW) (i_iload rfl (i_ic (i_idiv (by decide) (i_lald hW Ss_445 (h.1 q2514).1 (hc.2.2.2.2.2.2.2.2.2.2 _ _ _ (i_lret hW.1 (h.1 q2514).2)))))))))) (fun q2514 => (hc.2.2.2.2.2.2.2.2.1 _ _ _ (i_aload rfl (i_getR (okS hW Sk_404) (nv_404_10 hW) (i_iload rfl (i_ic (i_idiv (by decide) (i_lald hW Ss_444 (h.2 q2514).1 (hc.2.2.2.2.2.2.2.2.2.2 _ _ _ (i_lret hW.1 (h.2 q2514).2)))))))))))))))))))))))))))))))))
theorem wX2_fetched_37 {x2 : Int32} {r0 : Nat} {M : Mem} {K : RT} (hW : Wf M) (kr0 : (Sh r0).1 = 5) (hr0 : gR M 443 0 = some r0) (h : (¬ (x2 - x2 / (2 : Int32) * (2 : Int32)) = 0 → ((vp_in (x2 / (2 : Int32)) 32) ∧ K (some (.long (gL M 445 (x2 / (2 : Int32)).toNatClampNeg))) M)) ∧ ((x2 - x2 / (2 : Int32) * (2 : Int32)) = 0 → ((vp_in (x2 / (2 : Int32)) 32) ∧ K (some (.long (gL M 444 (x2 / (2 : Int32)).toNatClampNeg))) M))) : sp_X2_fetched [.ref 404, .ref 100037, .int x2] M K := by
  refine ⟨Nat.le_of_ble_eq_true rfl, fun G hc => ?_⟩
  rw [hW.1] at hc
  exact eX2_fetched_37 hc hW kr0 hr0 h
/-- the four instructions that fetch lanes -/
noncomputable def fetS (o n : Nat) (X Y : Nat → Int64) (S : Int64) (i : Nat) : Int32 × Int64 :=
  if o = 34 then iT (inS (Y i) n) (0, X (Y i).toInt.toNat) (4, 0)
  else if o = 35 then (0, X ((i + (S.toInt % n).toNat) % n))
  else if o = 36 then (0, X (n - 1 - i))
  else (0, if i % 2 = 0 then X (i / 2) else Y (i / 2))
theorem c_fetched {o : Nat} (ho : o = 34 ∨ o = 35 ∨ o = 36 ∨ o = 37) {r0 i n : Nat} {S : Int64} {X Y : Nat → Int64} {M : Mem} {K : RT} (hW : Wf M) (hr0 : gR M 443 0 = some r0) (kr0 : (Sh r0).1 = 5) (hn : gI M r0 1 = nI n ∧ 1 ≤ n ∧ n ≤ 32) (hi : i < n)
    (hX : ∀ j, j < n → gL M 444 j = X j) (hY : ∀ j, j < n → gL M 445 j = Y j) (hs : ∃ q, q < 8 ∧ gI M 404 7 = nI q ∧ gL M 409 q = S) (h : kG K M (fetS o n X Y S i)) : sp_X2_fetched [.ref 404, .ref (100000 + o), .int (nI i)] M K := by
  obtain ⟨q, q1, q2, q3⟩ := hs
  obtain ⟨n1, n2, n3⟩ := hn
  have hv : vp_in (gI M 404 7) 8 := by rw [q2]; exact vpN q1 (by decide)
  have hS : gL M 409 (gI M 404 7).toNatClampNeg = S := by rw [q2, nI_clamp (by omega)]; exact q3
  have hvi : vp_in (nI i) 32 := vpN (by omega) (by decide)
  have hYi : gL M 445 (nI i).toNatClampNeg = Y i := by rw [nI_clamp (by omega)]; exact hY _ (by omega)
  rcases ho with rfl | rfl | rfl | rfl
  · refine wX2_fetched_34 hW kr0 hr0 ⟨hvi, ?_⟩
    rw [hYi, n1, nI_toL (by omega)]
    have h : kG K M (iT (inS (Y i) n) (0, X (Y i).toInt.toNat) (4, 0)) := h
    refine ⟨fun w => ?_, fun w => ⟨hvi, fun w2 => ⟨hvi, ?_⟩, fun w2 => ?_⟩⟩
    · rw [iT_f (fun z => Int64.not_le.mpr w z.1)] at h
      exact h.2 (by decide) _
    · have hin : inS (Y i) n := ⟨Int64.not_lt.mp w, w2⟩
      obtain ⟨j, j1, j2⟩ := inS_lN (by omega) hin
      rw [iT_t hin, j2, l6_int (by omega)] at h
      rw [j2, lN_toI, nI_clamp (by omega), hX _ (by omega)]
      exact ⟨vpN (by omega) (by decide), h.1 rfl⟩
    · rw [iT_f (fun z => w2 z.2)] at h
      exact h.2 (by decide) _
  · refine wX2_fetched_35 hW kr0 hr0 ⟨hv, ?_⟩
    have hm := Int.emod_nonneg S.toInt (show (n : Int) ≠ 0 by omega)
    have hm2 := Int.emod_lt_of_pos S.toInt (show 0 < (n : Int) by omega)
    have h : kG K M (0, X ((i + (S.toInt % n).toNat) % n)) := h
    rw [hS, n1, nI_toL (by omega), floor_n S n2 (by omega), lN_toI, nI_add, pk_rem (by omega) (by omega) (by omega)]
    have hlt : (i + (S.toInt % n).toNat) % n < n := Nat.mod_lt _ (by omega)
    rw [nI_clamp (by omega), hX _ (by omega)]
    refine ⟨fun q => ?_, fun q => nI_ne0 (by omega) (by omega) q, vpN (by omega) (by decide), h.1 rfl⟩
    rw [show (0 : Int64) = lN 0 from rfl, l6_eq (by omega) (by omega)] at q
    omega
  · refine wX2_fetched_36 hW kr0 hr0 ?_
    have h : kG K M (0, X (n - 1 - i)) := h
    have e : nI n - 1 - nI i = nI (n - 1 - i) := by
      show nI n - nI 1 - nI i = _
      rw [pk_sub (by omega), pk_sub (by omega)]
    rw [n1, e, nI_clamp (by omega), hX _ (by omega)]
    exact ⟨vpN (by omega) (by decide), h.1 rfl⟩
  · refine wX2_fetched_37 hW kr0 hr0 ?_
    have h : kG K M (0, if i % 2 = 0 then X (i / 2) else Y (i / 2)) := h
    rw [show (2 : Int32) = nI 2 from rfl, pk_rem (by omega) (by decide) (by decide), pk_div (by omega) (by decide) (by decide), nI_clamp (by omega), hX _ (by omega), hY _ (by omega), show (0 : Int32) = nI 0 from rfl, nI_eq (by omega) (by decide)]
    refine ⟨fun q => ⟨vpN (by omega) (by decide), ?_⟩, fun q => ⟨vpN (by omega) (by decide), ?_⟩⟩
    · rw [if_neg q] at h; exact h.1 rfl
    · rw [if_pos q] at h; exact h.1 rfl
end FETCHED
