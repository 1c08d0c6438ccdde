section LRUN
set_option maxRecDepth 100000 in
theorem eX2_isOn {G : Nat → KT} {K : RT} (hc : cloX2_isOn G K wT) {x1 : Int32} {M : Mem} (hW : Wf M) (h : ((((gI M 404 8) >>> (x1 &&& 31)) &&& (1 : Int32)) = 0 → K (some (.int (0 : Int32))) M) ∧ (¬ (((gI M 404 8) >>> (x1 &&& 31)) &&& (1 : Int32)) = 0 → K (some (.int (1 : Int32))) M)) : G 0 [some (.ref 404), some (.int x1)] [] M :=
  (hc.1 _ _ _ (i_aload rfl (i_getI (okS hW Sk_404) (i_iload rfl (i_ishr (i_ic (i_iand (i_if_eq (fun q483 => (hc.2.2.1 _ _ _ (i_ic (hc.2.2.2 _ _ _ (i_zret (by decide) hW.1 (h.1 q483)))))) (fun q483 => (hc.2.1 _ _ _ (i_ic (hc.2.2.2 _ _ _ (i_zret (by decide) hW.1 (h.2 q483))))))))))))))
theorem wX2_isOn {x1 : Int32} {M : Mem} {K : RT} (hW : Wf M) (h : ((((gI M 404 8) >>> (x1 &&& 31)) &&& (1 : Int32)) = 0 → K (some (.int (0 : Int32))) M) ∧ (¬ (((gI M 404 8) >>> (x1 &&& 31)) &&& (1 : Int32)) = 0 → K (some (.int (1 : Int32))) M)) : sp_X2_isOn [.ref 404, .int x1] M K := by
  refine ⟨Nat.le_of_ble_eq_true rfl, fun G hc => ?_⟩
  rw [hW.1] at hc
  exact eX2_isOn hc hW  h
def P_X2_isOn (x1 : Int32) (M : Mem) : Prop := (¬ (((gI M 404 8) >>> (x1 &&& 31)) &&& (1 : Int32)) = 0)
theorem c_X2_isOn {x1 : Int32} {M : Mem} {K : RT} (hW : Wf M) (h : K (some (.int (pI (P_X2_isOn x1 M)))) M) : sp_X2_isOn [.ref 404, .int x1] M K := by
  refine wX2_isOn hW  ?_
  unfold P_X2_isOn at h
  refine ⟨fun q0 => ?_, fun q0 => ?_⟩
  · skip
    exact pI_goF h (by simp only [eq_true q0, not_true_eq_false, not_false_eq_true, true_and, false_and, and_true, and_false, true_or, or_true, false_or, or_false, iff_self])
  · skip
    exact pI_goT h (by simp only [eq_false q0, not_true_eq_false, not_false_eq_true, true_and, false_and, and_true, and_false, true_or, or_true, false_or, or_false, iff_self])
def RX2_makeLanes_30_3 (G : Nat → KT) (K : RT) : KT := (w_lstore 4 (w_aload 0 (w_getf 1 9 0 (w_if_eq (G 55) (G 45)))))
set_option maxRecDepth 100000 in
theorem eX2_makeLanes {G : Nat → KT} {K : RT} (hc : cloX2_makeLanes G K wT) {x1 : Nat} {M : Mem} (hW : Wf M) (hx1 : isOp x1) (h : G 14 [some (.ref 404), some (.ref x1), some (.ref (rR M 443 0)), some (.int (0 : Int32)), none, none] [] (uI M 404 13 (0 : Int32))) : G 0 [some (.ref 404), some (.ref x1), none, none, none, none] [] M :=
  (hc.1 _ _ _ (i_aload rfl (i_getR (okS hW Sk_404) (nv_404_4 hW) (i_ic (i_aald hW Ss_443 (vpd rfl) (Wf.mut (M := M) hW (mx_rows (by decide))) (i_astore (Nat.le_of_ble_eq_true rfl) (i_aload rfl (i_ic (i_putZ (okS hW Sk_404) (by decide) (i_ic (i_istore (Nat.le_of_ble_eq_true rfl) h)))))))))))
set_option maxRecDepth 100000 in
theorem eX2_makeLanes_14 {G : Nat → KT} {K : RT} (hc : cloX2_makeLanes G K wT) {x1 : Nat} {x2 : Nat} {x3 : Int32} {o4 : Option Value} {o5 : Option Value} {M : Mem} (hW : Wf M) (hx1 : isOp x1) (hx2 : (Sh x2).1 = 5) (h : ((gI M x2 1) ≤ x3 → K (some (.int (0 : Int32))) (uI M 404 3 (f_J6_bitCount_0f7a4 (gI M 404 8)))) ∧ (¬ (gI M x2 1) ≤ x3 → ((¬ (P_X2_isOn x3 M) → G 14 [some (.ref 404), some (.ref x1), some (.ref x2), some (.int (x3 + (1 : Int32))), o4, o5] [] M) ∧ ((P_X2_isOn x3 M) → sp_X2_made [.ref 404, .ref x1, .int x3] M (fun v M' => RX2_makeLanes_30_3 G K [some (.ref 404), some (.ref x1), some (.ref x2), some (.int x3), o4, o5] (v.toList ++ []) M'))))) : G 14 [some (.ref 404), some (.ref x1), some (.ref x2), some (.int x3), o4, o5] [] M :=
  (hc.2.1 _ _ _ (i_iload rfl (i_aload rfl (i_getI (okS hW hx2) (i_icmp_ge (fun q778 => (hc.2.2.2.2.2.2.2 _ _ _ (i_aload rfl (i_aload rfl (i_getI (okS hW Sk_404) (i_callS1 (Nat.le_of_ble_eq_true rfl) (c_J6_bitCount_0f7a4 hW  (i_rI (i_putI (okS hW Sk_404) (i_ic (i_iret hW.1 (h.1 q778)))))))))))) (fun q778 => (hc.2.2.1 _ _ _ (i_aload rfl (i_iload rfl (i_callV2 (Nat.le_of_ble_eq_true rfl) (okS hW Sk_404) (c_X2_isOn hW  (i_rI (i_bI_eq (fun q779 => (hc.2.2.2.2.2.2.1 _ _ _ (i_iinc rfl ((h.2 q778).1 q779)))) (fun q779 => (hc.2.2.2.1 _ _ _ (i_aload rfl (i_aload rfl (i_iload rfl (i_callV3 (Nat.le_of_ble_eq_true rfl) (okS hW Sk_404) ((h.2 q778).2 q779))))))))))))))))))))
set_option maxRecDepth 100000 in
theorem rX2_makeLanes_30_3 {G : Nat → KT} {K : RT} (hc : cloX2_makeLanes G K wT) {x1 : Nat} {x2 : Nat} {x3 : Int32} {o4 : Option Value} {o5 : Option Value} {y : Int64} {M : Mem} (hW : Wf M) (hx1 : isOp x1) (hx2 : (Sh x2).1 = 5) (h : ((gI M 404 9) = 0 → ((vp_in x3 64) ∧ G 14 [some (.ref 404), some (.ref x1), some (.ref x2), some (.int (x3 + (1 : Int32))), some (.long y), none] [] (uL M (x2 + 1) (x3).toNatClampNeg y))) ∧ (¬ (gI M 404 9) = 0 → K (some (.int (gI M 404 9))) (uI M 404 2 x3))) : RX2_makeLanes_30_3 G K [some (.ref 404), some (.ref x1), some (.ref x2), some (.int x3), o4, o5] (Option.toList (some (.long y)) ++ []) M :=
  (i_rJ (i_lstore (Nat.le_of_ble_eq_true rfl) (i_aload rfl (i_getI (okS hW Sk_404) (i_if_eq (fun q780 => (hc.2.2.2.2.2.1 _ _ _ (i_aload rfl (i_getR (okS hW hx2) (nvRow hW hx2) (i_iload rfl (i_lload rfl (i_last hW (Srow hx2) (h.1 q780).1 (hc.2.2.2.2.2.2.1 _ _ _ (i_iinc rfl (h.1 q780).2))))))))) (fun q780 => (hc.2.2.2.2.1 _ _ _ (i_aload rfl (i_iload rfl (i_putI (okS hW Sk_404) (i_aload rfl (i_getIE (okS hW Sk_404) (rI_k (by decide)) (i_iret hW.1 (h.2 q780))))))))))))))
theorem wX2_makeLanes {x1 : Nat} {M : Mem} {K : RT} (hW : Wf M) (hx1 : isOp x1) (h : ∀ {G : Nat → KT}, cloX2_makeLanes G K wT → G 14 [some (.ref 404), some (.ref x1), some (.ref (rR M 443 0)), some (.int (0 : Int32)), none, none] [] (uI M 404 13 (0 : Int32))) : sp_X2_makeLanes [.ref 404, .ref x1] M K := by
  refine ⟨Nat.le_of_ble_eq_true rfl, fun G hc => ?_⟩
  rw [hW.1] at hc
  exact eX2_makeLanes hc hW hx1 (h hc)
/-- lane by lane: fault, its lane, the items -/
noncomputable def lrun (mk : Option Int64 → Nat → Int32 × Int64) (on : Nat → Prop) : Nat → Nat → Option Int64 → (Nat → Int64) → Int32 × Nat × (Nat → Int64)
  | 0, i, _, f => (0, i, f)
  | j + 1, i, t, f => iT (on i) (if (mk t i).1 = 0 then lrun mk on j (i + 1) (some (mk t i).2) (up1 f i (mk t i).2) else ((mk t i).1, i, f)) (lrun mk on j (i + 1) t f)
def onW (w : Int32) (i : Nat) : Prop := ¬ ((w >>> (nI i &&& 31)) &&& (1 : Int32)) = 0
theorem c_makeLanes {o r0 r1 n a m : Nat} {k k1 : Int32} {X Y E : Nat → Int64} {S : Int64} {w : Int32} {f : Nat → Int64} {M : Mem} {K : RT} (hW : Wf M) (ho : o ∈ MKL ∨ o = 39) (hb : LB M r0 r1 k k1 n X Y S a m E)
    (n1 : ¬ 444 = r0 + 1) (n2 : ¬ 445 = r0 + 1) (n3 : ¬ 409 = r0 + 1) (n4 : ¬ a = r0) (n5 : ¬ r0 = 404) (n6 : ¬ r1 = 404) (n7 : ¬ a = 404) (n8 : ¬ a + 1 = 404) (n9 : ¬ r0 + 1 = 404) (hw : gI M 404 8 = w) (hf0 : gI M 404 9 = 0) (hf : ∀ j, j < n → gL M (r0 + 1) j = f j)
    (hok : ∀ i t, i < n → onW w i → (∀ v, t = some v → okJ k v) → mkOk o k k1 t (X i) (Y i)) (hres : ∀ i t, i < n → onW w i → (∀ v, t = some v → okJ k v) → (mkS o k k1 n X Y S m E t i).1 = 0 → okJ k (mkS o k k1 n X Y S m E t i).2)
    (h : ∀ M', Wf M' → M4 (fun b => b = r0 + 1) M M' → gR M' = gR M → (∀ j, j < n → gL M' (r0 + 1) j = (lrun (mkS o k k1 n X Y S m E) (onW w) n 0 none f).2.2 j)
      → gI M' 404 2 = (if (lrun (mkS o k k1 n X Y S m E) (onW w) n 0 none f).1 = 0 then gI M 404 2 else nI (lrun (mkS o k k1 n X Y S m E) (onW w) n 0 none f).2.1)
      → gI M' 404 3 = (if (lrun (mkS o k k1 n X Y S m E) (onW w) n 0 none f).1 = 0 then f_J6_bitCount_0f7a4 w else gI M 404 3)
      → K (some (.int (lrun (mkS o k k1 n X Y S m E) (onW w) n 0 none f).1)) M') : sp_X2_makeLanes [.ref 404, .ref (100000 + o)] M K := by
  have hx : isOp (100000 + o) := by
    rcases ho with ho | ho
    · revert ho; unfold MKL; simp only [List.mem_cons, List.not_mem_nil, or_false]; rintro (q | q | q | q | q | q | q | q | q | q | q | q | q | q | q | q | q | q | q | q | q | q | q | q | q | q) <;> (subst q; exact isOp_lit (by decide))
    · subst ho; exact isOp_lit (by decide)
  have kr0 := hb.1.2.1
  have hr0 : rR M 443 0 = r0 := by unfold rR; rw [hb.1.1]; rfl
  have hn := hb.2.1.2
  refine wX2_makeLanes hW hx (fun {G} hc => ?_)
  rw [hr0]
  have loop : ∀ j i t g M1, i + j = n → Wf M1 → LB M1 r0 r1 k k1 n X Y S a m E → M4 (fun b => b = r0 + 1) M M1 → gR M1 = gR M → gI M1 404 8 = w → gI M1 404 9 = 0 → gI M1 404 2 = gI M 404 2 → gI M1 404 3 = gI M 404 3 → (∀ q, q < n → gL M1 (r0 + 1) q = g q) → Sc o M1 t → (∀ v, t = some v → okJ k v)
      → lrun (mkS o k k1 n X Y S m E) (onW w) j i t g = lrun (mkS o k k1 n X Y S m E) (onW w) n 0 none f → ∀ {o4 o5 : Option Value}, G 14 [some (.ref 404), some (.ref (100000 + o)), some (.ref r0), some (.int (nI i)), o4, o5] [] M1 := by
    intro j
    induction j with
    | zero =>
      intro i t g M1 hi hW1 hb1 hm1 hR1 h8 h9 h2 h3 hg hsc ht hl o4 o5
      have : i = n := by omega
      subst this
      have hl : ((0 : Int32), i, g) = lrun (mkS o k k1 i X Y S m E) (onW w) i 0 none f := hl
      rw [← hl] at h
      refine eX2_makeLanes_14 hc hW1 hx kr0 ?_
      rw [hb1.2.1.2.1, h8]
      refine ⟨fun _ => h _ (Wf_uI hW1) (hm1.tr (M4_uI (by decide))) hR1 (fun q hq => hg q hq) ?_ ?_, fun q => absurd (nI_le (Nat.le_refl _) (by omega)) q⟩
      · rw [if_pos rfl, rI_k (by decide)]; exact h2
      · rw [if_pos rfl]; exact rI_eq
    | succ j ih =>
      intro i t g M1 hi hW1 hb1 hm1 hR1 h8 h9 h2 h3 hg hsc ht hl o4 o5
      have hl : iT (onW w i) (if (mkS o k k1 n X Y S m E t i).1 = 0 then lrun (mkS o k k1 n X Y S m E) (onW w) j (i + 1) (some (mkS o k k1 n X Y S m E t i).2) (up1 g i (mkS o k k1 n X Y S m E t i).2) else ((mkS o k k1 n X Y S m E t i).1, i, g)) (lrun (mkS o k k1 n X Y S m E) (onW w) j (i + 1) t g) = lrun (mkS o k k1 n X Y S m E) (onW w) n 0 none f := hl
      refine eX2_makeLanes_14 hc hW1 hx kr0 ?_
      rw [hb1.2.1.2.1, nI_1]
      refine ⟨fun q => absurd ((nI_leI (by omega) (by omega)).mp q) (by omega), fun _ => ⟨fun q => ?_, fun q => ?_⟩⟩
      · unfold P_X2_isOn at q
        rw [h8] at q
        have q : ¬ onW w i := q
        rw [iT_f q] at hl
        exact ih (i + 1) t g M1 (by omega) hW1 hb1 hm1 hR1 h8 h9 h2 h3 hg hsc ht hl
      · unfold P_X2_isOn at q
        rw [h8] at q
        have q : onW w i := q
        rw [iT_t q] at hl
        refine c_mk hW1 ho hb1 hsc (by omega) (hok i t (by omega) q ht) (fun z M2 hW2 hc2 h92 hsc2 => ?_) (fun z v M2 hW2 hc2 h92 => ?_)
        · rw [if_pos z] at hl
          refine rX2_makeLanes_30_3 hc hW2 hx kr0 ⟨fun _ => ⟨vpN (by omega) (by decide), ?_⟩, fun z2 => absurd (h92.trans h9) z2⟩
          rw [nI_clamp (by omega), nI_1]
          refine ih (i + 1) _ _ _ (by omega) (Wf_uL hW2) ((hb1.ch hc2 n5 n6 n7 n8).wr n1 n2 n3 n4) ((hm1.tr (hc2.M4)).tr (M4_uL rfl)) (hc2.2.1.trans hR1) ?_ (h92.trans h9) ?_ ?_ (fun p hp => ?_) ?_ (fun v e => ?_) hl
          · exact (hc2.2.2.2.1 404 8 (fun _ => by decide)).trans h8
          · exact (hc2.2.2.2.1 404 2 (fun _ => by decide)).trans h2
          · exact (hc2.2.2.2.1 404 3 (fun _ => by decide)).trans h3
          · unfold up1
            by_cases e : p = i
            · subst e; rw [if_pos rfl]; exact rL_eq
            · rw [if_neg e, rL_k e, hc2.2.2.2.2 _ _ (fun y => absurd y n9)]
              exact hg p hp
          · intro e
            obtain ⟨s1, s2⟩ := hsc2 e
            refine ⟨s1, fun u hu => ⟨(s2 u hu).1, ?_⟩⟩
            rw [rL_a (fun y => n9 y.symm)]
            exact (s2 u hu).2
          · cases e
            exact hres i t (by omega) q ht z
        · rw [if_neg z] at hl
          rw [← hl] at h
          refine rX2_makeLanes_30_3 hc hW2 hx kr0 ⟨fun z2 => absurd (h92.symm.trans z2) z, fun _ => ?_⟩
          rw [h92]
          refine h _ (Wf_uI hW2) ((hm1.tr (hc2.M4)).tr (M4_uI (by decide))) (hc2.2.1.trans hR1) (fun p hp => ?_) ?_ ?_
          · exact (hc2.2.2.2.2 _ _ (fun y => absurd y n9)).trans (hg p hp)
          · rw [if_neg z]; exact rI_eq
          · rw [if_neg z, rI_k (by decide)]
            exact (hc2.2.2.2.1 404 3 (fun _ => by decide)).trans h3
  refine loop n 0 none f _ (by omega) (Wf_uI hW) (hb.ch Ch.b n5 n6 n7 n8) (M4_uI (by decide)) rfl ?_ ?_ ?_ ?_ hf (fun _ => ⟨fun _ => rI_eq, fun u hu => (by cases hu)⟩) (fun v e => (by cases e)) rfl
  · rw [rI_k (by decide)]; exact hw
  · rw [rI_k (by decide)]; exact hf0
  · rw [rI_k (by decide)]
  · rw [rI_k (by decide)]
end LRUN
