section DOPF2
section
variable {o : Nat} {c : Nat → Int64} {d : DS} {M : Mem} {K : RT}
theorem strun_cg {el el' : Nat → Int64} {m : Nat} {f : Nat → Int64} {on : Nat → Prop} {n : Nat} (h : ∀ i, i < n → el i = el' i) : ∀ j i g, i + j = n → strun el m f on j i g = strun el' m f on j i g := by
  intro j
  induction j with
  | zero => intro i g _; rfl
  | succ j ih =>
    intro i g hi
    have e : ∀ el : Nat → Int64, strun el m f on (j + 1) i g = iT (on i) (iT (inS (el i) m) (strun el m f on j (i + 1) (up1 g (el i).toInt.toNat (f i))) (4, i, g)) (strun el m f on j (i + 1) g) := fun _ => rfl
    rw [e, e, h i (by omega), ih _ _ (by omega), ih _ _ (by omega)]
theorem p_sto {r0 : Nat} (ho : o = 27 ∨ o = 29) (hW : Wf M) (kr0 : (Sh r0).1 = 5) (hr0 : gR M 443 0 = some r0) (h : ∀ K' : RT, (∀ M', Wf M' → gR M' 443 0 = some r0 → K (some (.int (gI M' 404 9))) M' → K' none M') → sp_X2_store [.ref 404, .ref (100000 + o)] M K') : sp_X2_perform [.ref 404, .ref (100000 + o)] M K := by
  rcases ho with rfl | rfl
  · exact p_27 hW kr0 hr0 h
  · exact p_29 hW kr0 hr0 h
theorem pf_st (ho : o = 27 ∨ o = 29) (hd : WD d) (hv : VC o c) (h0 : mfD o c d = 0) (hb : LnB o c d M) (h2 : gI M 404 2 = -1) (h : ∀ M', LnE o c d M M' → K (some (.int (insG o c d).1)) M') : sp_X2_perform [.ref 404, .ref (100000 + o)] M K := by
  have ho4 : o < 46 := by omega
  have hF := fit_of ho4 (by omega) hv hd h0
  obtain ⟨g0, l0, k0⟩ := hb.r0 ho4 hv
  have hu : usA o = true := by unfold usA; simp; omega
  have la := (ar_is ho4 hv hu).1
  have ga := hb.2.2.2.1.ar ho4 hv hu
  have ka : (Sh (412 + 4 * arN c)).1 = 5 := SstAN (a := 405) rfl Sk_405 la
  have row0 := hb.2.1.reg l0
  have rowa := hb.2.1.arr la
  obtain ⟨qs, qsl, qsr⟩ := hb.2.2.1.2.2.2
  have eel : ∀ i, i < dn d (2 * rgN o c 0) → elS o (gL M 444) (gL M 409 qs) i = elS o (di d (2 * rgN o c 1)) (dsc d (scN o c)) i := by
    intro i hi
    rcases ho with rfl | rfl
    · rw [elS_A (Or.inr rfl), elS_A (Or.inr rfl)]
      exact hb.2.2.2.2.2.2.1 (nm1 (by decide) (by decide) (by decide) (by decide)) i hi
    · have es : qs = scN 29 c := by
        have := hb.2.2.2.1.sc (by decide) hv rfl
        rw [qsr] at this
        exact (nI_eq (by omega) (by have := (sc_is ho4 hv rfl).1; omega)).mp this
      rw [elS_B (Or.inr rfl), elS_B (Or.inr rfl), es, hb.2.1.2.2 _ (sc_is ho4 hv rfl).1]
  have ecg := strun_cg (m := dn d (2 * arN c + 1)) (f := di d (2 * rgN o c 0)) (on := onW (onS (nI (dn d (2 * rgN o c 0))) c (dm d))) eel (dn d (2 * rgN o c 0)) 0 (di d (2 * arN c + 1)) (by omega)
  refine p_sto ho hb.1 k0 g0 (fun K' hK => ?_)
  refine c_store (r0 := 410 + 4 * rgN o c 0) (n := dn d (2 * rgN o c 0)) (a := 412 + 4 * arN c) (m := dn d (2 * arN c + 1)) (w := onS (nI (dn d (2 * rgN o c 0))) c (dm d)) (S := gL M 409 qs) (X := gL M 444) (f := di d (2 * rgN o c 0)) (g := di d (2 * arN c + 1)) hb.1 ho g0 k0 ⟨row0.2.1, hF.2.1.2⟩ row0.2.2.2 (fun _ _ => rfl) hb.2.2.2.2.2.1 hb.2.2.2.2.1 ⟨qs, qsl, qsr, rfl⟩ ga ka ⟨rowa.2.1, rowa.2.2.1⟩ rowa.2.2.2
    (by omega) (by omega) (by omega) (by omega) (by omega) (by omega) (fun M' hW' hm hR hit q2 q3 q9 => ?_)
  rw [ecg] at hit q2 q3 q9
  have e := insG_st (c := c) (d := d) ho
  have hE : LnE o c d M M' := by
    refine ⟨hW', hm.1.mono (fun b hb => ?_), ?_, hb.2.2.1.mo hm hR, ?_, fun z => ?_, ?_⟩
    · rcases hb with z | z
      · exact Or.inl z
      · have z : b = 412 + 4 * arN c + 1 := z
        exact Or.inr (Or.inr ⟨by omega, by omega⟩)
    · rw [e]
      refine RD.it (by omega) hm.1 (fun b hb => ?_) hb.2.1 (fun i hi => ?_)
      · rcases hb with z | z
        · exact Or.inr (by omega)
        · have z : b = 412 + 4 * arN c + 1 := z
          omega
      · rw [show 405 + 5 + 2 * (2 * arN c + 1) + 1 = 412 + 4 * arN c + 1 by omega]
        exact hit i hi
    · rw [e, q2, h2]
    · rw [e] at z ⊢
      rw [q3, if_pos z]
      exact bitCount_w _
    · rw [e]; exact q9
  have hh := h M' hE
  rw [← hE.2.2.2.2.2.2] at hh
  exact hK _ hW' (by rw [hR]; exact g0) hh
theorem p_fo {r0 : Nat} (ho : 41 ≤ o ∧ o ≤ 43) (hW : Wf M) (kr0 : (Sh r0).1 = 5) (hr0 : gR M 443 0 = some r0) (h : ∀ K' : RT, (∀ M', Wf M' → gR M' 443 0 = some r0 → K (some (.int (gI M' 404 9))) M' → K' none M') → sp_X2_fold [.ref 404, .ref (100000 + o)] M K') : sp_X2_perform [.ref 404, .ref (100000 + o)] M K := by
  have hc : o = 41 ∨ o = 42 ∨ o = 43 := by omega
  rcases hc with rfl | rfl | rfl
  · exact p_41 hW kr0 hr0 h
  · exact p_42 hW kr0 hr0 h
  · exact p_43 hW kr0 hr0 h
theorem onS_hi {n i : Nat} {ms : Nat → Int32} (hn : n ≤ 32) (hi : i < 32) (h : n ≤ i) : bt (onS (nI n) c ms) i = false := by
  have hb : bt (f_X2_below (nI n)) i = false := by rw [below_bt hn hi]; exact decide_eq_false (by omega)
  unfold onS
  split
  · exact hb
  · rw [b_and, hb]; rfl
theorem pf_sc (ho : o < 46) (hv : VC o c) (hb : LnB o c d M) (hu : usS o = true) {x : Int64} (h2 : gI M 404 2 = -1) (h3 : gI M 404 3 = 0) (e : insG o c d = (0, -1, 0, setS d (scN o c) x)) : LnE o c d M (uL M 409 (scN o c) x) := by
  have l := (sc_is ho hv hu).1
  have hr := RD.ws (x := x) l hb.2.1
  refine ⟨Wf_uL hb.1, Mo_uL (Or.inr (Or.inr ⟨by omega, by omega⟩)), by rw [e]; exact hr, hb.2.2.1, by rw [e]; exact h2, fun _ => by rw [e]; exact h3, by rw [e]; exact hb.2.2.2.2.1⟩
theorem pf_id (hb : LnB o c d M) (h2 : gI M 404 2 = -1) (h3 : gI M 404 3 = 0) (e : insG o c d = (0, -1, 0, d)) : LnE o c d M M :=
  ⟨hb.1, Mo.rf, by rw [e]; exact hb.2.1, hb.2.2.1, by rw [e]; exact h2, fun _ => by rw [e]; exact h3, by rw [e]; exact hb.2.2.2.2.1⟩
theorem pf_fo (ho : 41 ≤ o ∧ o ≤ 43) (hd : WD d) (hv : VC o c) (h0 : mfD o c d = 0) (hb : LnB o c d M) (h2 : gI M 404 2 = -1) (h3 : gI M 404 3 = 0) (h : ∀ M', LnE o c d M M' → K (some (.int (insG o c d).1)) M') : sp_X2_perform [.ref 404, .ref (100000 + o)] M K := by
  have ho4 : o < 46 := by omega
  have hF := fit_of ho4 (by omega) hv hd h0
  obtain ⟨g0, l0, k0⟩ := hb.r0 ho4 hv
  have hu : usS o = true := by unfold usS; simp; omega
  have ls := (sc_is ho4 hv hu).1
  have row0 := hb.2.1.reg l0
  refine p_fo ho hb.1 k0 g0 (fun K' hK => ?_)
  refine c_fold (r0 := 410 + 4 * rgN o c 0) (n := dn d (2 * rgN o c 0)) (w := onS (nI (dn d (2 * rgN o c 0))) c (dm d)) (f := di d (2 * rgN o c 0)) (q := scN o c) hb.1 (by omega) g0 k0 ⟨row0.2.1, hF.2.1.2⟩ row0.2.2.2 hb.2.2.2.2.2.1 (w_zero hF.2.1.2 (fun i hi hn => onS_hi hF.2.1.2 hi hn)) ls (hb.2.2.2.1.sc ho4 hv hu) ?_
  have e := insG_fo (c := c) (d := d) ho
  cases hq : foEnd o (frun o (di d (2 * rgN o c 0)) (onW (onS (nI (dn d (2 * rgN o c 0))) c (dm d))) (dn d (2 * rgN o c 0)) 0 none) with
  | none =>
    rw [hq] at e
    have hE := pf_id hb h2 h3 e
    have hh := h M hE
    rw [← hE.2.2.2.2.2.2] at hh
    exact hK _ hb.1 g0 hh
  | some v =>
    rw [hq] at e
    have hE := pf_sc ho4 hv hb hu h2 h3 e
    have hh := h _ hE
    rw [← hE.2.2.2.2.2.2] at hh
    exact hK _ (Wf_uL hb.1) g0 hh
theorem pf_44 (hd : WD d) (hv : VC 44 c) (hx : VX 44 c) (hc6 : ∀ k, k < 6 → gL M 442 k = c k) (h0 : mfD 44 c d = 0) (hb : LnB 44 c d M) (h2 : gI M 404 2 = -1) (h3 : gI M 404 3 = 0) (h : ∀ M', LnE 44 c d M M' → K (some (.int (insG 44 c d).1)) M') : sp_X2_perform [.ref 404, .ref (100000 + 44)] M K := by
  have hF := fit_of (by decide) (by decide) hv hd h0
  obtain ⟨g0, l0, k0⟩ := hb.r0 (by decide) hv
  have row0 := hb.2.1.reg l0
  have ls := (sc_is (o := 44) (by decide) hv rfl).1
  obtain ⟨p, p1, p2⟩ := hx.2.1 rfl
  have ep : cn c 3 = p := cn_lN p2 (by omega)
  refine p_44 hb.1 k0 g0 (fun K' hK => ?_)
  refine c_get (r0 := 410 + 4 * rgN 44 c 0) (n := dn d (2 * rgN 44 c 0)) (f := di d (2 * rgN 44 c 0)) (p := p) (q := scN 44 c) hb.1 g0 k0 ⟨row0.2.1, hF.2.1.2⟩ row0.2.2.2 ⟨(hc6 3 (by decide)).trans p2, p1⟩ ls (hb.2.2.2.1.sc (by decide) hv rfl) ?_
  have e : insG 44 c d = _ := insG_44
  rw [ep] at e
  by_cases w : p < dn d (2 * rgN 44 c 0)
  · rw [if_pos w] at e ⊢
    have hE := pf_sc (by decide) hv hb rfl h2 h3 e
    have hh := h _ hE
    rw [← hE.2.2.2.2.2.2] at hh
    exact hK _ (Wf_uL hb.1) g0 hh
  · rw [if_neg w] at e ⊢
    have hE : LnE 44 c d M (uI (uI M 404 2 (nI p)) 404 9 4) := by
      refine ⟨Wf_uI (Wf_uI hb.1), (Mo_uI (Or.inl rfl)).tr (Mo_uI (Or.inl rfl)), ?_, hb.2.2.1.mo (S := fun _ => False) ((M4_uI (by decide)).tr (M4_uI (by decide))) rfl, ?_, fun z => ?_, ?_⟩
      · rw [e]
        exact hb.2.1.mo ((Mo_uI (S := fun b => b = 404) rfl).tr (Mo_uI rfl)) (fun b hb => by have hb : b = 404 := hb; omega)
      · rw [e, rI_k (by decide)]
        exact rI_eq
      · rw [e] at z; exact absurd (show (4 : Int32) = 0 from z) (by decide)
      · rw [e]; exact rI_eq
    have hh := h _ hE
    rw [← hE.2.2.2.2.2.2] at hh
    exact hK _ (Wf_uI (Wf_uI hb.1)) g0 hh
theorem pf_45 (hd : WD d) (hv : VC 45 c) (hx : VX 45 c) (hc6 : ∀ k, k < 6 → gL M 442 k = c k) (h0 : mfD 45 c d = 0) (hb : LnB 45 c d M) (h2 : gI M 404 2 = -1) (h : ∀ M', LnE 45 c d M M' → K (some (.int (insG 45 c d).1)) M') : sp_X2_perform [.ref 404, .ref (100000 + 45)] M K := by
  have hF := fit_of (by decide) (by decide) hv hd h0
  obtain ⟨g0, l0, k0⟩ := hb.r0 (by decide) hv
  have row0 := hb.2.1.reg l0
  have ls := (sc_is (o := 45) (by decide) hv rfl).1
  obtain ⟨p, p1, p2⟩ := hx.2.2 rfl
  have ep : cn c 2 = p := cn_lN p2 (by omega)
  refine p_45 hb.1 k0 g0 (fun K' hK => ?_)
  refine c_put1 (r0 := 410 + 4 * rgN 45 c 0) (n := dn d (2 * rgN 45 c 0)) (k := dk d (2 * rgN 45 c 0)) (S := dsc d (scN 45 c)) (p := p) (q := scN 45 c) hb.1 g0 k0 row0.1 (hF.k0 (by decide)) ⟨row0.2.1, hF.2.1.2⟩ ⟨(hc6 2 (by decide)).trans p2, p1⟩ ls (hb.2.2.2.1.sc (by decide) hv rfl) (hb.2.1.2.2 _ ls) ?_
  have e : insG 45 c d = _ := insG_45
  rw [ep] at e
  by_cases w : p < dn d (2 * rgN 45 c 0)
  · rw [if_pos w] at e ⊢
    have hm : M4 (fun b => b = 410 + 4 * rgN 45 c 0 + 1) M (uI (uL M (410 + 4 * rgN 45 c 0 + 1) p (putJ (dk d (2 * rgN 45 c 0)) (dsc d (scN 45 c)))) 404 3 1) := M4.tr (M4_uL rfl) (M4_uI (k := 3) (by decide))
    have hE : LnE 45 c d M _ := pf_row (by decide) hv hb (Wf_uI (Wf_uL hb.1)) hm rfl (fun j hj => ?_) (by rw [e]) (by rw [e, rI_k (by decide)]; exact h2) (fun _ => by rw [e]; exact rI_eq) (by rw [e, rI_k (by decide)]; exact hb.2.2.2.2.1)
    · have hh := h _ hE
      rw [← hE.2.2.2.2.2.2] at hh
      exact hK _ (Wf_uI (Wf_uL hb.1)) g0 hh
    · show gL (uL M _ p _) _ j = up1 _ p _ j
      by_cases z : j = p
      · subst z; rw [rL_eq, up1_eq]
      · rw [rL_k z, up1_ne z]; exact row0.2.2.2 j hj
  · rw [if_neg w] at e ⊢
    have hE : LnE 45 c d M (uI (uI M 404 2 (nI p)) 404 9 4) := by
      refine ⟨Wf_uI (Wf_uI hb.1), (Mo_uI (Or.inl rfl)).tr (Mo_uI (Or.inl rfl)), ?_, hb.2.2.1.mo (S := fun _ => False) ((M4_uI (by decide)).tr (M4_uI (by decide))) rfl, ?_, fun z => ?_, ?_⟩
      · rw [e]
        exact hb.2.1.mo ((Mo_uI (S := fun b => b = 404) rfl).tr (Mo_uI rfl)) (fun b hb => by have hb : b = 404 := hb; omega)
      · rw [e, rI_k (by decide)]
        exact rI_eq
      · rw [e] at z; exact absurd (show (4 : Int32) = 0 from z) (by decide)
      · rw [e]; exact rI_eq
    have hh := h _ hE
    rw [← hE.2.2.2.2.2.2] at hh
    exact hK _ (Wf_uI (Wf_uI hb.1)) g0 hh
theorem pf_0 (hd : WD d) (hv : VC 0 c) (hx : VX 0 c) (hc6 : ∀ k, k < 6 → gL M 442 k = c k) (hb : LnB 0 c d M) (h2 : gI M 404 2 = -1) (h : ∀ M', LnE 0 c d M M' → K (some (.int (insG 0 c d).1)) M') : sp_X2_perform [.ref 404, .ref (100000 + 0)] M K := by
  obtain ⟨g0, l0, k0⟩ := hb.r0 (by decide) hv
  obtain ⟨-, p, p1, p2, p3⟩ := hx.1 rfl
  have ep : cn c 3 = p := cn_lN p3 (by omega)
  refine p_0 hb.1 k0 g0 (fun K' hK => ?_)
  rw [hc6 3 (by decide), p3, lN_toI, hc6 2 (by decide)]
  refine c_X8_make hb.1 k0 (by omega) (fun M' hW' hm hR hrow => ?_)
  have e : insG 0 c d = _ := insG_0
  rw [ep] at e
  have h404 : ∀ k, gI M' 404 k = gI M 404 k := fun k => hm.I (fun z => by rcases z with z | z <;> omega)
  have hj : 2 * rgN 0 c 0 < 16 := by omega
  have e5 : 405 + 5 + 2 * (2 * rgN 0 c 0) = 410 + 4 * rgN 0 c 0 := by omega
  have hr : RD M' 405 (setRow d (2 * rgN 0 c 0) (c 2).toInt32 p (fun _ => 0)) := RD.row hj (by rw [e5]; exact hm) hb.2.1 (by rw [e5]; exact hrow)
  have hE : LnE 0 c d M (uI M' 404 3 (gI M' (410 + 4 * rgN 0 c 0) 1)) := by
    refine ⟨Wf_uI hW', (hm.mono (fun b hb => ?_)).tr (Mo_uI (Or.inl rfl)), ?_, ?_, ?_, fun _ => ?_, ?_⟩
    · rcases hb with z | z <;> exact Or.inr (Or.inr ⟨by omega, by omega⟩)
    · rw [e]
      exact hr.mo (Mo_uI (S := fun b => b = 404) rfl) (fun b hb => by have hb : b = 404 := hb; omega)
    · unfold LnOK
      have a6 : gI (uI M' 404 3 (gI M' (410 + 4 * rgN 0 c 0) 1)) 404 6 = gI M 404 6 := by rw [rI_k (by decide)]; exact h404 6
      have a7 : gI (uI M' 404 3 (gI M' (410 + 4 * rgN 0 c 0) 1)) 404 7 = gI M 404 7 := by rw [rI_k (by decide)]; exact h404 7
      have aR : gR (uI M' 404 3 (gI M' (410 + 4 * rgN 0 c 0) 1)) = gR M := hR
      rw [a6, a7, aR]
      exact hb.2.2.1
    · rw [e, rI_k (by decide), h404]; exact h2
    · rw [e, rI_eq]; exact hrow.2.1
    · rw [e, rI_k (by decide), h404]; exact hb.2.2.2.2.1
  have hh := h _ hE
  rw [← hE.2.2.2.2.2.2, rI_k (by decide)] at hh
  exact hK _ hW' (by rw [hR]; exact g0) hh
theorem c_pfD (ho : o < 46) (hn : ¬ (o ∈ MKL ∨ o = 39)) (hd : WD d) (hv : VC o c) (hx : VX o c) (hc6 : ∀ k, k < 6 → gL M 442 k = c k) (h0 : mfD o c d = 0) (hb : LnB o c d M) (h2 : gI M 404 2 = -1) (h3 : gI M 404 3 = 0) (h : ∀ M', LnE o c d M M' → K (some (.int (insG o c d).1)) M') : sp_X2_perform [.ref 404, .ref (100000 + o)] M K := by
  have hc : o = 0 ∨ (17 ≤ o ∧ o ≤ 22) ∨ o = 23 ∨ (o = 27 ∨ o = 29) ∨ o = 32 ∨ o = 33 ∨ o = 38 ∨ o = 40 ∨ (41 ≤ o ∧ o ≤ 43) ∨ o = 44 ∨ o = 45 := by
    unfold MKL at hn
    simp only [List.mem_cons, List.not_mem_nil, or_false] at hn
    omega
  rcases hc with rfl | q | rfl | q | rfl | rfl | rfl | rfl | q | rfl | rfl
  · exact pf_0 hd hv hx hc6 hb h2 h
  · exact pf_cmp q hd hv h0 hb h2 h3 h
  · exact pf_23 hd hv h0 hb h2 h
  · exact pf_st q hd hv h0 hb h2 h
  · exact pf_32 hd hv h0 hb h2 h3 h
  · exact pf_33 hd hv h0 hb h2 h3 h
  · exact pf_38 hd hv h0 hb h2 h
  · exact pf_40 hd hv h0 hb h2 h
  · exact pf_fo q hd hv h0 hb h2 h3 h
  · exact pf_44 hd hv hx hc6 h0 hb h2 h3 h
  · exact pf_45 hd hv hx hc6 h0 hb h2 h
end
end DOPF2
