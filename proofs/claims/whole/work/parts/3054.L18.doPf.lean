section DOPF
section
variable {o : Nat} {c : Nat → Int64} {d : DS} {M : Mem} {K : RT}
/-- set, get and put: what their numbers are -/
def VX (o : Nat) (c : Nat → Int64) : Prop := (o = 0 → (∃ k, k < 7 ∧ c 2 = lN k) ∧ ∃ n, 1 ≤ n ∧ n ≤ 32 ∧ c 3 = lN n) ∧ (o = 44 → ∃ p, p < 32 ∧ c 3 = lN p) ∧ (o = 45 → ∃ p, p < 32 ∧ c 2 = lN p)
theorem LnB.r0 (ho : o < 46) (hv : VC o c) (hb : LnB o c d M) : gR M 443 0 = some (410 + 4 * rgN o c 0) ∧ rgN o c 0 < 8 ∧ (Sh (410 + 4 * rgN o c 0)).1 = 5 := by
  have p1 := (pos_all o (List.mem_range.mpr ho)).2.1
  have l0 := (rg_is ho hv (j := 0) (by omega)).1
  exact ⟨hb.2.2.2.1.rg ho hv (by omega), l0, SstRN (a := 405) rfl Sk_405 l0⟩
theorem LnB.mkI (ho : o < 46) (hv : VC o c) (hu : usM o = true) (hb : LnB o c d M) : MkIs M (dm d (mkN o c)) := by
  have l := (mk_is ho hv hu).1
  exact ⟨mkN o c, l, hb.2.2.2.1.mk ho hv hu, hb.2.1.2.1 _ l⟩
theorem nm1 {o : Nat} (ho : o < 46) (h : o ≠ 0) (h2 : ¬ (28 ≤ o ∧ o ≤ 31)) (h3 : ¬ (41 ≤ o ∧ o ≤ 45)) : 1 < cntR o 4 := by
  have hW := (wh_all o (List.mem_range.mpr ho)).2.2.2.2.2.1
  have : ¬ cntR o 4 ≤ 1 := fun z => by have := hW.mp z; omega
  omega
theorem p_cmp {r0 : Nat} (ho : 17 ≤ o ∧ o ≤ 22) (hW : Wf M) (kr0 : (Sh r0).1 = 5) (hr0 : gR M 443 0 = some r0) (h : ∀ K' : RT, (∀ M', Wf M' → gR M' 443 0 = some r0 → K (some (.int (gI M' 404 9))) M' → K' none M') → sp_X2_compare [.ref 404, .ref (100000 + o)] M K') : sp_X2_perform [.ref 404, .ref (100000 + o)] M K := by
  have hc : o = 17 ∨ o = 18 ∨ o = 19 ∨ o = 20 ∨ o = 21 ∨ o = 22 := by omega
  rcases hc with rfl | rfl | rfl | rfl | rfl | rfl
  · exact p_17 hW kr0 hr0 h
  · exact p_18 hW kr0 hr0 h
  · exact p_19 hW kr0 hr0 h
  · exact p_20 hW kr0 hr0 h
  · exact p_21 hW kr0 hr0 h
  · exact p_22 hW kr0 hr0 h
theorem pf_cmp (ho : 17 ≤ o ∧ o ≤ 22) (hd : WD d) (hv : VC o c) (h0 : mfD o c d = 0) (hb : LnB o c d M) (h2 : gI M 404 2 = -1) (h3 : gI M 404 3 = 0) (h : ∀ M', LnE o c d M M' → K (some (.int (insG o c d).1)) M') : sp_X2_perform [.ref 404, .ref (100000 + o)] M K := by
  have ho4 : o < 46 := by omega
  have hF := fit_of ho4 (by omega) hv hd h0
  obtain ⟨g0, l0, k0⟩ := hb.r0 ho4 hv
  have hu : usM o = true := by unfold usM; simp; omega
  have c1 := nm1 ho4 (by omega) (by omega) (by omega)
  have hmk := (mk_is ho4 hv hu).1
  have l1 := (rg_is ho4 hv c1).1
  have g1 := hb.2.2.2.1.rg ho4 hv c1
  have row0 := hb.2.1.reg l0
  have row1 := hb.2.1.reg l1
  have n1 := (hF.1 1 c1).2.1
  refine p_cmp ho hb.1 k0 g0 (fun K' hK => ?_)
  refine c_compare (k := dk d (2 * rgN o c 0)) (n := dn d (2 * rgN o c 0)) (f := di d (2 * rgN o c 0)) (g := di d (2 * rgN o c 1)) (w := onS (nI (dn d (2 * rgN o c 0))) c (dm d)) (mw := dm d (mkN o c)) (q := mkN o c) hb.1 (isOp_n (by omega)) g0 g1 row0.1 ⟨row0.2.1, hF.2.1.2⟩ row0.2.2.2 (fun j hj => row1.2.2.2 j (by omega)) hb.2.2.2.2.2.1 hmk (hb.2.2.2.1.mk ho4 hv hu) (hb.2.1.2.1 _ hmk) ?_
  have e := insG_cmp (c := c) (d := d) ho
  have hr := RD.wm (x := crun (fun i => onW (onS (nI (dn d (2 * rgN o c 0))) c (dm d)) i ∧ P_X2_isSo (100000 + o) (f_X3_value (dk d (2 * rgN o c 0)) (di d (2 * rgN o c 0) i)) (f_X3_value (dk d (2 * rgN o c 0)) (di d (2 * rgN o c 1) i))) (dn d (2 * rgN o c 0)) 0 ((dm d (mkN o c) &&& (onS (nI (dn d (2 * rgN o c 0))) c (dm d) ^^^ (-1 : Int32))) &&& f_X2_below (nI (dn d (2 * rgN o c 0))))) hmk hb.2.1
  refine hK _ (Wf_uI hb.1) g0 ?_
  have e9 : ∀ x, gI (uI M 408 (mkN o c) x) 404 9 = 0 := fun x => (rI_a (by decide)).trans hb.2.2.2.2.1
  have hh := h (uI M 408 (mkN o c) _) ⟨Wf_uI hb.1, Mo_uI (Or.inr (Or.inr ⟨by omega, by omega⟩)), by rw [e]; exact hr, ⟨hb.2.2.1.1, hb.2.2.1.2.1, by rw [rI_a (by decide)]; exact hb.2.2.1.2.2.1, by rw [rI_a (by decide)]; exact hb.2.2.1.2.2.2⟩, by rw [e, rI_a (by decide)]; exact h2, fun _ => by rw [e, rI_a (by decide)]; exact h3, by rw [e]; exact e9 _⟩
  rw [e9]
  rw [e] at hh
  exact hh
/-- the end of a row's writing -/
theorem pf_row (ho : o < 46) (hv : VC o c) (hb : LnB o c d M) {f : Nat → Int64} {M' : Mem} (hW' : Wf M') (hm : M4 (fun b => b = 410 + 4 * rgN o c 0 + 1) M M') (hR : gR M' = gR M) (hit : ∀ j, j < dn d (2 * rgN o c 0) → gL M' (410 + 4 * rgN o c 0 + 1) j = f j) (e : (insG o c d).2.2.2 = setIt d (2 * rgN o c 0) f)
    (e2 : gI M' 404 2 = (insG o c d).2.1) (e3 : (insG o c d).1 = 0 → gI M' 404 3 = nI (insG o c d).2.2.1) (e9 : gI M' 404 9 = (insG o c d).1) : LnE o c d M M' := by
  obtain ⟨-, l0, -⟩ := hb.r0 ho hv
  refine ⟨hW', hm.1.mono (fun b hb => ?_), ?_, hb.2.2.1.mo hm hR, e2, e3, e9⟩
  · rcases hb with z | z
    · exact Or.inl z
    · have z : b = 410 + 4 * rgN o c 0 + 1 := z
      exact Or.inr (Or.inr ⟨by omega, by omega⟩)
  · rw [e]
    refine RD.it (by omega) hm.1 (fun b hb => ?_) hb.2.1 (fun i hi => ?_)
    · rcases hb with z | z
      · exact Or.inr (by omega)
      · have z : b = 410 + 4 * rgN o c 0 + 1 := z
        exact Or.inl (by omega)
    · rw [show 405 + 5 + 2 * (2 * rgN o c 0) + 1 = 410 + 4 * rgN o c 0 + 1 by omega]
      exact hit i hi
theorem pf_23 (hd : WD d) (hv : VC 23 c) (h0 : mfD 23 c d = 0) (hb : LnB 23 c d M) (h2 : gI M 404 2 = -1) (h : ∀ M', LnE 23 c d M M' → K (some (.int (insG 23 c d).1)) M') : sp_X2_perform [.ref 404, .ref (100000 + 23)] M K := by
  have hF := fit_of (by decide) (by decide) hv hd h0
  obtain ⟨g0, l0, k0⟩ := hb.r0 (by decide) hv
  have c1 := nm1 (o := 23) (by decide) (by decide) (by decide) (by decide)
  have c2 : 2 < cntR 23 4 := by have := (wh_all 23 (List.mem_range.mpr (by decide))).2.2.2.2.2.2.mpr (Or.inr (Or.inl rfl)); omega
  have row0 := hb.2.1.reg l0
  refine p_23 hb.1 k0 g0 (fun K' hK => ?_)
  refine c_select (r0 := 410 + 4 * rgN 23 c 0) (n := dn d (2 * rgN 23 c 0)) (X := di d (2 * rgN 23 c 1)) (Y := di d (2 * rgN 23 c 2)) (mw := dm d (mkN 23 c)) hb.1 ⟨g0, k0, row0.2.1, hF.2.1.2, hb.2.2.2.2.2.2.1 c1, hb.2.2.2.2.2.2.2 c2, hb.mkI (by decide) hv rfl⟩ (by omega) (by omega) (by omega) (fun M' hW' hm hR hit q2 q3 q9 => ?_)
  have e9 : gI M' 404 9 = 0 := q9.trans hb.2.2.2.2.1
  have hE := pf_row (by decide) hv hb hW' hm hR hit (by rw [insG_23]) (by rw [insG_23]; exact q2.trans h2) (fun _ => by rw [insG_23]; exact q3) (by rw [insG_23]; exact e9)
  have hh := h M' hE
  rw [← hE.2.2.2.2.2.2] at hh
  exact hK _ hW' (by rw [hR]; exact g0) hh
theorem pf_32 (hd : WD d) (hv : VC 32 c) (h0 : mfD 32 c d = 0) (hb : LnB 32 c d M) (h2 : gI M 404 2 = -1) (h3 : gI M 404 3 = 0) (h : ∀ M', LnE 32 c d M M' → K (some (.int (insG 32 c d).1)) M') : sp_X2_perform [.ref 404, .ref (100000 + 32)] M K := by
  have hF := fit_of (by decide) (by decide) hv hd h0
  obtain ⟨g0, l0, k0⟩ := hb.r0 (by decide) hv
  have c1 := nm1 (o := 32) (by decide) (by decide) (by decide) (by decide)
  have row0 := hb.2.1.reg l0
  refine p_32 hb.1 k0 g0 (fun K' hK => ?_)
  refine c_pack (r0 := 410 + 4 * rgN 32 c 0) (n := dn d (2 * rgN 32 c 0)) (X := di d (2 * rgN 32 c 1)) (Y := gL M 445) (f := di d (2 * rgN 32 c 0)) (mw := dm d (mkN 32 c)) hb.1 ⟨g0, k0, row0.2.1, hF.2.1.2, hb.2.2.2.2.2.2.1 c1, fun _ _ => rfl, hb.mkI (by decide) hv rfl⟩ (by omega) (by omega) (by omega) row0.2.2.2 h3 (fun M' hW' hm hR hit q2 q3 q9 => ?_)
  have e9 : gI M' 404 9 = 0 := q9.trans hb.2.2.2.2.1
  have hE := pf_row (by decide) hv hb hW' hm hR hit (by rw [insG_32]) (by rw [insG_32]; exact q2.trans h2) (fun _ => by rw [insG_32]; exact q3) (by rw [insG_32]; exact e9)
  have hh := h M' hE
  rw [← hE.2.2.2.2.2.2] at hh
  exact hK _ hW' (by rw [hR]; exact g0) hh
theorem pf_33 (hd : WD d) (hv : VC 33 c) (h0 : mfD 33 c d = 0) (hb : LnB 33 c d M) (h2 : gI M 404 2 = -1) (h3 : gI M 404 3 = 0) (h : ∀ M', LnE 33 c d M M' → K (some (.int (insG 33 c d).1)) M') : sp_X2_perform [.ref 404, .ref (100000 + 33)] M K := by
  have hF := fit_of (by decide) (by decide) hv hd h0
  obtain ⟨g0, l0, k0⟩ := hb.r0 (by decide) hv
  have c1 := nm1 (o := 33) (by decide) (by decide) (by decide) (by decide)
  have row0 := hb.2.1.reg l0
  refine p_33 hb.1 k0 g0 (fun K' hK => ?_)
  refine c_spread (r0 := 410 + 4 * rgN 33 c 0) (n := dn d (2 * rgN 33 c 0)) (X := di d (2 * rgN 33 c 1)) (Y := gL M 445) (f := di d (2 * rgN 33 c 0)) (mw := dm d (mkN 33 c)) hb.1 ⟨g0, k0, row0.2.1, hF.2.1.2, hb.2.2.2.2.2.2.1 c1, fun _ _ => rfl, hb.mkI (by decide) hv rfl⟩ (by omega) (by omega) (by omega) row0.2.2.2 h3 (fun M' hW' hm hR hit q2 q3 q9 => ?_)
  have e9 : gI M' 404 9 = 0 := q9.trans hb.2.2.2.2.1
  have hE := pf_row (by decide) hv hb hW' hm hR hit (by rw [insG_33]) (by rw [insG_33]; exact q2.trans h2) (fun _ => by rw [insG_33]; exact q3) (by rw [insG_33]; exact e9)
  have hh := h M' hE
  rw [← hE.2.2.2.2.2.2] at hh
  exact hK _ hW' (by rw [hR]; exact g0) hh
theorem pf_38 (hd : WD d) (hv : VC 38 c) (h0 : mfD 38 c d = 0) (hb : LnB 38 c d M) (h2 : gI M 404 2 = -1) (h : ∀ M', LnE 38 c d M M' → K (some (.int (insG 38 c d).1)) M') : sp_X2_perform [.ref 404, .ref (100000 + 38)] M K := by
  have hF := fit_of (by decide) (by decide) hv hd h0
  obtain ⟨g0, l0, k0⟩ := hb.r0 (by decide) hv
  have c1 := nm1 (o := 38) (by decide) (by decide) (by decide) (by decide)
  have row0 := hb.2.1.reg l0
  refine p_38 hb.1 k0 g0 (fun K' hK => ?_)
  refine c_sort (r0 := 410 + 4 * rgN 38 c 0) (n := dn d (2 * rgN 38 c 0)) (k := dk d (2 * rgN 38 c 0)) (X := di d (2 * rgN 38 c 1)) (f := di d (2 * rgN 38 c 0)) hb.1 g0 k0 row0.1 ⟨row0.2.1, hF.2.1.2⟩ (hb.2.2.2.2.2.2.1 c1) (by omega) (by omega) row0.2.2.2 (fun M' hW' hm hR hit q2 q3 q9 => ?_)
  have e9 : gI M' 404 9 = 0 := q9.trans hb.2.2.2.2.1
  have hE := pf_row (by decide) hv hb hW' hm hR hit (by rw [insG_38]) (by rw [insG_38]; exact q2.trans h2) (fun _ => by rw [insG_38]; exact q3) (by rw [insG_38]; exact e9)
  have hh := h M' hE
  rw [← hE.2.2.2.2.2.2] at hh
  exact hK _ hW' (by rw [hR]; exact g0) hh
theorem pf_40 (hd : WD d) (hv : VC 40 c) (h0 : mfD 40 c d = 0) (hb : LnB 40 c d M) (h2 : gI M 404 2 = -1) (h : ∀ M', LnE 40 c d M M' → K (some (.int (insG 40 c d).1)) M') : sp_X2_perform [.ref 404, .ref (100000 + 40)] M K := by
  have hF := fit_of (by decide) (by decide) hv hd h0
  obtain ⟨g0, l0, k0⟩ := hb.r0 (by decide) hv
  have c1 := nm1 (o := 40) (by decide) (by decide) (by decide) (by decide)
  have row0 := hb.2.1.reg l0
  have ek : dk d (2 * rgN 40 c 1) = dk d (2 * rgN 40 c 0) := (hF.1 1 c1).2.2.1 rfl
  refine p_40 hb.1 k0 g0 (fun K' hK => ?_)
  refine c_halve (r0 := 410 + 4 * rgN 40 c 0) (n := dn d (2 * rgN 40 c 0)) (k := dk d (2 * rgN 40 c 0)) (X := di d (2 * rgN 40 c 1)) (f := di d (2 * rgN 40 c 0)) hb.1 g0 k0 row0.1 (hF.k0 (by decide)) ⟨row0.2.1, hF.2.1.1, hF.2.1.2⟩ (hb.2.2.2.2.2.2.1 c1) (fun j hj => ek ▸ (hF.1 1 c1).2.2.2 j hj) (by omega) (by omega) (by omega) hb.2.2.2.2.1 row0.2.2.2 (fun M' hW' hm hR hit q2 q3 q9 => ?_)
  have hE : LnE 40 c d M M' := by
    refine ⟨hW', hm.1.mono (fun b hb => ?_), ?_, hb.2.2.1.mo hm hR, ?_, fun z => ?_, ?_⟩
    · rcases hb with z | z
      · exact Or.inl z
      · have z : b = 444 ∨ b = 410 + 4 * rgN 40 c 0 + 1 := z
        rcases z with z | z
        · exact Or.inr (Or.inl z)
        · exact Or.inr (Or.inr ⟨by omega, by omega⟩)
    · rw [insG_40]
      refine RD.it (by omega) hm.1 (fun b hb => ?_) hb.2.1 (fun i hi => ?_)
      · rcases hb with z | z
        · exact Or.inr (by omega)
        · have z : b = 444 ∨ b = 410 + 4 * rgN 40 c 0 + 1 := z
          omega
      · rw [show 405 + 5 + 2 * (2 * rgN 40 c 0) + 1 = 410 + 4 * rgN 40 c 0 + 1 by omega, hit i hi]
        split <;> rfl
    · rw [insG_40, q2, h2]
    · rw [insG_40] at z ⊢
      rw [q3, if_pos z]
      rfl
    · rw [insG_40]; exact q9
  have hh := h M' hE
  rw [← hE.2.2.2.2.2.2] at hh
  exact hK _ hW' (by rw [hR]; exact g0) hh
end
end DOPF
