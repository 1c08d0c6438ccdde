section MEM2
variable {p : Program} {l : Launch} {e : Jvm.Env} {R : Room} {s : State} {m : MethodId} {args : Array Value} {below : List Frame} {meth : Method} {c : Code} {Q : State → Prop} {w : Wd} {cc : ByteArray} {own : String} {nL n0 n1 x9 : Nat}
theorem nz_fit {x : Int32} (h : x = 0 ∨ x = 1) : narrow .boolean (.int x) = .int x ∧ fits .boolean (.int x) = true := by
  rcases h with rfl | rfl <;> decide
theorem nc_fit {x : Int32} (h : 0 ≤ x ∧ x < 65536) : narrow .char (.int x) = .int x ∧ fits .char (.int x) = true := by
  have h1 : ¬ x < 0 := fun q => by
    have a := (Int32.lt_iff_toInt_lt).mp q
    have b := (Int32.le_iff_toInt_le).mp h.1
    omega
  obtain ⟨j, hj, rfl⟩ := nI_of h1
  have h2 : j < 65536 := (nI_ltI hj (by decide)).mp (show nI j < nI 65536 from h.2)
  exact pk_charN h2
theorem nr_fit {ty : FieldType} {a : Nat} (h : (∃ n, ty = .object n) ∨ ∃ t, ty = .array t) : narrow ty (.ref a) = .ref a ∧ fits ty (.ref a) = true := by
  rcases h with ⟨n, rfl⟩ | ⟨t, rfl⟩ <;> exact ⟨rfl, rfl⟩
theorem pok_spec {own : String} {idx ci k i : Nat} (h : pokB own idx ci k i = true) : fokB own idx ci k i = true ∧ ∀ q, vwCl[ci + 3]? = some q → (q.2.1 k).2.2.2 = false := by
  unfold pokB at h
  rw [Bool.and_eq_true] at h
  refine ⟨h.1, fun q hq => ?_⟩
  have := h.2
  rw [hq] at this
  exact of_decide_eq_true this
theorem s_putI (h : Cx p s m args c w cc own nL) {pc idx ci k i : Nat} {K : KT} (hf : pokB own idx ci k i = true) (ht : (fT ci)[k]? = some 0) (hy : tyF ci k = .int) (hd : decode cc pc = .ok (.putfield idx, 3)) (hk : Sd (Gm p l e R s m args below meth c Q w nL n0 n1 x9) (pc + 3) K) : Sd (Gm p l e R s m args below meth c Q w nL n0 n1 x9) pc (w_putI ci k K) := by
  intro L st M hK
  unfold w_putI at hK
  split at hK
  · rename_i x a st
    intro ls H locs hL hR hS hn
    obtain ⟨hf, hfin⟩ := pok_spec hf
    obtain ⟨hc, C, T, N, hv, hw, hty, hnm, hN, hkN, hT, hl⟩ := fok_spec hf
    have ha := okA_lt hR hK.1 (by omega)
    have he : (cells w M (gN M))[a]? = some (ad w a, .inr (ci + 3, flds w M a ci)) := by rw [cells_get ha, ent_obj hK.1.1 hc, ad_own (by have := hR.2.1; omega)]
    have hfit := show narrow (tyF ci k) (.int x) = .int x ∧ fits (tyF ci k) (.int x) = true from by rw [hy]; exact ⟨rfl, rfl⟩
    refine va_put (C := C) (T := T) (N := N) (ref := C) (ty := tyF ci k) (v := .int x) h.1 h.2.1 h.2.2.2.2.1 hw (tyF ci) hty hnm h.2.2.2.1 h.2.2.2.2.2.1 hR.1 (cells_D w M _) hS a he hv k hkN (h.2.2.2.2.1 _ hl) (fun x hx => by rw [hT] at hx; exact hx) (hfin _ hv) (hty k hkN) hfit.1 hfit.2 (by rw [flds_len, ← hN]; exact hkN) hd ?_
    intro H1 locs1 hP1 hD1 hS1
    have hR1 : Rl w (uI M a k x) H1 := Rl_set (M := M) rfl rfl hR.2 (by have := hR.2.1; omega) (show ent w (uI M a k x) a = .inr (ci + 3, (flds w M a ci).set k (.int x)) from by
      rw [ent_obj hK.1.1 hc, flds_set (M' := uI M a k x) ht ?_ ?_]
      · simp [rdv, gI_uI, tr, va_rf]
      · intro j hj
        refine rdv_congr ?_ ?_ ?_ ?_ <;> first | rfl | (simp only [gI_uI]; rw [if_neg (fun z => hj z.2)])) (fun b hb => ent_uI_ne hb) hP1
    exact hk _ _ _ hK.2 ls H1 locs1 hL hR1 hS1 hn
  · exact hK.elim
theorem s_putZ (h : Cx p s m args c w cc own nL) {pc idx ci k i : Nat} {K : KT} (hf : pokB own idx ci k i = true) (ht : (fT ci)[k]? = some 4) (hy : tyF ci k = .boolean) (hd : decode cc pc = .ok (.putfield idx, 3)) (hk : Sd (Gm p l e R s m args below meth c Q w nL n0 n1 x9) (pc + 3) K) : Sd (Gm p l e R s m args below meth c Q w nL n0 n1 x9) pc (w_putZ ci k K) := by
  intro L st M hK
  unfold w_putZ at hK
  split at hK
  · rename_i x a st
    intro ls H locs hL hR hS hn
    obtain ⟨hf, hfin⟩ := pok_spec hf
    obtain ⟨hc, C, T, N, hv, hw, hty, hnm, hN, hkN, hT, hl⟩ := fok_spec hf
    have ha := okA_lt hR hK.1 (by omega)
    have he : (cells w M (gN M))[a]? = some (ad w a, .inr (ci + 3, flds w M a ci)) := by rw [cells_get ha, ent_obj hK.1.1 hc, ad_own (by have := hR.2.1; omega)]
    have hfit := show narrow (tyF ci k) (.int x) = .int x ∧ fits (tyF ci k) (.int x) = true from by rw [hy]; exact nz_fit hK.2.1
    refine va_put (C := C) (T := T) (N := N) (ref := C) (ty := tyF ci k) (v := .int x) h.1 h.2.1 h.2.2.2.2.1 hw (tyF ci) hty hnm h.2.2.2.1 h.2.2.2.2.2.1 hR.1 (cells_D w M _) hS a he hv k hkN (h.2.2.2.2.1 _ hl) (fun x hx => by rw [hT] at hx; exact hx) (hfin _ hv) (hty k hkN) hfit.1 hfit.2 (by rw [flds_len, ← hN]; exact hkN) hd ?_
    intro H1 locs1 hP1 hD1 hS1
    have hR1 : Rl w (uI M a k x) H1 := Rl_set (M := M) rfl rfl hR.2 (by have := hR.2.1; omega) (show ent w (uI M a k x) a = .inr (ci + 3, (flds w M a ci).set k (.int x)) from by
      rw [ent_obj hK.1.1 hc, flds_set (M' := uI M a k x) ht ?_ ?_]
      · simp [rdv, gI_uI, tr, va_rf]
      · intro j hj
        refine rdv_congr ?_ ?_ ?_ ?_ <;> first | rfl | (simp only [gI_uI]; rw [if_neg (fun z => hj z.2)])) (fun b hb => ent_uI_ne hb) hP1
    exact hk _ _ _ hK.2.2 ls H1 locs1 hL hR1 hS1 hn
  · exact hK.elim
theorem s_putC (h : Cx p s m args c w cc own nL) {pc idx ci k i : Nat} {K : KT} (hf : pokB own idx ci k i = true) (ht : (fT ci)[k]? = some 5) (hy : tyF ci k = .char) (hd : decode cc pc = .ok (.putfield idx, 3)) (hk : Sd (Gm p l e R s m args below meth c Q w nL n0 n1 x9) (pc + 3) K) : Sd (Gm p l e R s m args below meth c Q w nL n0 n1 x9) pc (w_putC ci k K) := by
  intro L st M hK
  unfold w_putC at hK
  split at hK
  · rename_i x a st
    intro ls H locs hL hR hS hn
    obtain ⟨hf, hfin⟩ := pok_spec hf
    obtain ⟨hc, C, T, N, hv, hw, hty, hnm, hN, hkN, hT, hl⟩ := fok_spec hf
    have ha := okA_lt hR hK.1 (by omega)
    have he : (cells w M (gN M))[a]? = some (ad w a, .inr (ci + 3, flds w M a ci)) := by rw [cells_get ha, ent_obj hK.1.1 hc, ad_own (by have := hR.2.1; omega)]
    have hfit := show narrow (tyF ci k) (.int x) = .int x ∧ fits (tyF ci k) (.int x) = true from by rw [hy]; exact nc_fit hK.2.1
    refine va_put (C := C) (T := T) (N := N) (ref := C) (ty := tyF ci k) (v := .int x) h.1 h.2.1 h.2.2.2.2.1 hw (tyF ci) hty hnm h.2.2.2.1 h.2.2.2.2.2.1 hR.1 (cells_D w M _) hS a he hv k hkN (h.2.2.2.2.1 _ hl) (fun x hx => by rw [hT] at hx; exact hx) (hfin _ hv) (hty k hkN) hfit.1 hfit.2 (by rw [flds_len, ← hN]; exact hkN) hd ?_
    intro H1 locs1 hP1 hD1 hS1
    have hR1 : Rl w (uI M a k x) H1 := Rl_set (M := M) rfl rfl hR.2 (by have := hR.2.1; omega) (show ent w (uI M a k x) a = .inr (ci + 3, (flds w M a ci).set k (.int x)) from by
      rw [ent_obj hK.1.1 hc, flds_set (M' := uI M a k x) ht ?_ ?_]
      · simp [rdv, gI_uI, tr, va_rf]
      · intro j hj
        refine rdv_congr ?_ ?_ ?_ ?_ <;> first | rfl | (simp only [gI_uI]; rw [if_neg (fun z => hj z.2)])) (fun b hb => ent_uI_ne hb) hP1
    exact hk _ _ _ hK.2.2 ls H1 locs1 hL hR1 hS1 hn
  · exact hK.elim
theorem s_putL (h : Cx p s m args c w cc own nL) {pc idx ci k i : Nat} {K : KT} (hf : pokB own idx ci k i = true) (ht : (fT ci)[k]? = some 1) (hy : tyF ci k = .long) (hd : decode cc pc = .ok (.putfield idx, 3)) (hk : Sd (Gm p l e R s m args below meth c Q w nL n0 n1 x9) (pc + 3) K) : Sd (Gm p l e R s m args below meth c Q w nL n0 n1 x9) pc (w_putL ci k K) := by
  intro L st M hK
  unfold w_putL at hK
  split at hK
  · rename_i x a st
    intro ls H locs hL hR hS hn
    obtain ⟨hf, hfin⟩ := pok_spec hf
    obtain ⟨hc, C, T, N, hv, hw, hty, hnm, hN, hkN, hT, hl⟩ := fok_spec hf
    have ha := okA_lt hR hK.1 (by omega)
    have he : (cells w M (gN M))[a]? = some (ad w a, .inr (ci + 3, flds w M a ci)) := by rw [cells_get ha, ent_obj hK.1.1 hc, ad_own (by have := hR.2.1; omega)]
    have hfit := show narrow (tyF ci k) (.long x) = .long x ∧ fits (tyF ci k) (.long x) = true from by rw [hy]; exact ⟨rfl, rfl⟩
    refine va_put (C := C) (T := T) (N := N) (ref := C) (ty := tyF ci k) (v := .long x) h.1 h.2.1 h.2.2.2.2.1 hw (tyF ci) hty hnm h.2.2.2.1 h.2.2.2.2.2.1 hR.1 (cells_D w M _) hS a he hv k hkN (h.2.2.2.2.1 _ hl) (fun x hx => by rw [hT] at hx; exact hx) (hfin _ hv) (hty k hkN) hfit.1 hfit.2 (by rw [flds_len, ← hN]; exact hkN) hd ?_
    intro H1 locs1 hP1 hD1 hS1
    have hR1 : Rl w (uL M a k x) H1 := Rl_set (M := M) rfl rfl hR.2 (by have := hR.2.1; omega) (show ent w (uL M a k x) a = .inr (ci + 3, (flds w M a ci).set k (.long x)) from by
      rw [ent_obj hK.1.1 hc, flds_set (M' := uL M a k x) ht ?_ ?_]
      · simp [rdv, gL_uL, tr, va_rf]
      · intro j hj
        refine rdv_congr ?_ ?_ ?_ ?_ <;> first | rfl | (simp only [gL_uL]; rw [if_neg (fun z => hj z.2)])) (fun b hb => ent_uL_ne hb) hP1
    exact hk _ _ _ hK.2 ls H1 locs1 hL hR1 hS1 hn
  · exact hK.elim
theorem s_putD (h : Cx p s m args c w cc own nL) {pc idx ci k i : Nat} {K : KT} (hf : pokB own idx ci k i = true) (ht : (fT ci)[k]? = some 2) (hy : tyF ci k = .double) (hd : decode cc pc = .ok (.putfield idx, 3)) (hk : Sd (Gm p l e R s m args below meth c Q w nL n0 n1 x9) (pc + 3) K) : Sd (Gm p l e R s m args below meth c Q w nL n0 n1 x9) pc (w_putD ci k K) := by
  intro L st M hK
  unfold w_putD at hK
  split at hK
  · rename_i x a st
    intro ls H locs hL hR hS hn
    obtain ⟨hf, hfin⟩ := pok_spec hf
    obtain ⟨hc, C, T, N, hv, hw, hty, hnm, hN, hkN, hT, hl⟩ := fok_spec hf
    have ha := okA_lt hR hK.1 (by omega)
    have he : (cells w M (gN M))[a]? = some (ad w a, .inr (ci + 3, flds w M a ci)) := by rw [cells_get ha, ent_obj hK.1.1 hc, ad_own (by have := hR.2.1; omega)]
    have hfit := show narrow (tyF ci k) (.double x) = .double x ∧ fits (tyF ci k) (.double x) = true from by rw [hy]; exact ⟨rfl, rfl⟩
    refine va_put (C := C) (T := T) (N := N) (ref := C) (ty := tyF ci k) (v := .double x) h.1 h.2.1 h.2.2.2.2.1 hw (tyF ci) hty hnm h.2.2.2.1 h.2.2.2.2.2.1 hR.1 (cells_D w M _) hS a he hv k hkN (h.2.2.2.2.1 _ hl) (fun x hx => by rw [hT] at hx; exact hx) (hfin _ hv) (hty k hkN) hfit.1 hfit.2 (by rw [flds_len, ← hN]; exact hkN) hd ?_
    intro H1 locs1 hP1 hD1 hS1
    have hR1 : Rl w (uD M a k x) H1 := Rl_set (M := M) rfl rfl hR.2 (by have := hR.2.1; omega) (show ent w (uD M a k x) a = .inr (ci + 3, (flds w M a ci).set k (.double x)) from by
      rw [ent_obj hK.1.1 hc, flds_set (M' := uD M a k x) ht ?_ ?_]
      · simp [rdv, gD_uD, tr, va_rf]
      · intro j hj
        refine rdv_congr ?_ ?_ ?_ ?_ <;> first | rfl | (simp only [gD_uD]; rw [if_neg (fun z => hj z.2)])) (fun b hb => ent_uD_ne hb) hP1
    exact hk _ _ _ hK.2 ls H1 locs1 hL hR1 hS1 hn
  · exact hK.elim
theorem s_putR (h : Cx p s m args c w cc own nL) {pc idx ci k i : Nat} {K : KT} (hf : pokB own idx ci k i = true) (ht : (fT ci)[k]? = some 3) (hy : (∃ n, tyF ci k = .object n) ∨ ∃ t, tyF ci k = .array t) (hd : decode cc pc = .ok (.putfield idx, 3)) (hk : Sd (Gm p l e R s m args below meth c Q w nL n0 n1 x9) (pc + 3) K) : Sd (Gm p l e R s m args below meth c Q w nL n0 n1 x9) pc (w_putR ci k K) := by
  intro L st M hK
  unfold w_putR at hK
  split at hK
  · rename_i x a st
    intro ls H locs hL hR hS hn
    obtain ⟨hf, hfin⟩ := pok_spec hf
    obtain ⟨hc, C, T, N, hv, hw, hty, hnm, hN, hkN, hT, hl⟩ := fok_spec hf
    have ha := okA_lt hR hK.1 (by omega)
    have he : (cells w M (gN M))[a]? = some (ad w a, .inr (ci + 3, flds w M a ci)) := by rw [cells_get ha, ent_obj hK.1.1 hc, ad_own (by have := hR.2.1; omega)]
    have hfit := show narrow (tyF ci k) (.ref (ad w x)) = .ref (ad w x) ∧ fits (tyF ci k) (.ref (ad w x)) = true from nr_fit hy
    refine va_put (C := C) (T := T) (N := N) (ref := C) (ty := tyF ci k) (v := .ref (ad w x)) h.1 h.2.1 h.2.2.2.2.1 hw (tyF ci) hty hnm h.2.2.2.1 h.2.2.2.2.2.1 hR.1 (cells_D w M _) hS a he hv k hkN (h.2.2.2.2.1 _ hl) (fun x hx => by rw [hT] at hx; exact hx) (hfin _ hv) (hty k hkN) hfit.1 hfit.2 (by rw [flds_len, ← hN]; exact hkN) hd ?_
    intro H1 locs1 hP1 hD1 hS1
    have hR1 : Rl w (uR M a k (some x)) H1 := Rl_set (M := M) rfl rfl hR.2 (by have := hR.2.1; omega) (show ent w (uR M a k (some x)) a = .inr (ci + 3, (flds w M a ci).set k (.ref (ad w x))) from by
      rw [ent_obj hK.1.1 hc, flds_set (M' := uR M a k (some x)) ht ?_ ?_]
      · simp [rdv, gR_uR, tr, va_rf]
      · intro j hj
        refine rdv_congr ?_ ?_ ?_ ?_ <;> first | rfl | (simp only [gR_uR]; rw [if_neg (fun z => hj z.2)])) (fun b hb => ent_uR_ne hb) hP1
    exact hk _ _ _ hK.2 ls H1 locs1 hL hR1 hS1 hn
  · exact hK.elim
theorem s_iald (h : Cx p s m args c w cc own nL) {pc : Nat} {K : KT} (hd : decode cc pc = .ok (.iaload, 1)) (hk : Sd (Gm p l e R s m args below meth c Q w nL n0 n1 x9) (pc + 1) K) : Sd (Gm p l e R s m args below meth c Q w nL n0 n1 x9) pc (w_iald K) := by
  intro L st M hK
  unfold w_iald at hK
  split at hK
  · rename_i i a st
    intro ls H locs hL hR hS hn
    have ha := okA_lt hR hK.1 (by decide)
    have he : (cells w M (gN M))[a]? = some (ad w a, .inl (w.2.1 13, (Sh a).2, .inl (gI M a))) := by rw [cells_get ha, ent_I (show Sh a = (13, (Sh a).2) from by rw [← hK.1.1]) (by decide), ad_own (by have := hR.2.1; omega)]
    exact va_iald h.1 h.2.1 h.2.2.2.2.2.1 hR.1 a 2 he (tys_get (by decide)) hK.2.1 hd (hk _ _ _ hK.2.2 ls H locs hL hR hS hn)
  · exact hK.elim
theorem s_bald (h : Cx p s m args c w cc own nL) {pc : Nat} {K : KT} (hd : decode cc pc = .ok (.baload, 1)) (hk : Sd (Gm p l e R s m args below meth c Q w nL n0 n1 x9) (pc + 1) K) : Sd (Gm p l e R s m args below meth c Q w nL n0 n1 x9) pc (w_bald K) := by
  intro L st M hK
  unfold w_bald at hK
  split at hK
  · rename_i i a st
    intro ls H locs hL hR hS hn
    have ha := okA_lt hR hK.1 (by decide)
    have he : (cells w M (gN M))[a]? = some (ad w a, .inl (w.2.1 11, (Sh a).2, .inl (gI M a))) := by rw [cells_get ha, ent_I (show Sh a = (11, (Sh a).2) from by rw [← hK.1.1]) (by decide), ad_own (by have := hR.2.1; omega)]
    exact va_bald h.1 h.2.1 h.2.2.2.2.2.1 hR.1 a 0 he (tys_get (by decide)) hK.2.1 hd (hk _ _ _ hK.2.2 ls H locs hL hR hS hn)
  · exact hK.elim
theorem s_zald (h : Cx p s m args c w cc own nL) {pc : Nat} {K : KT} (hd : decode cc pc = .ok (.baload, 1)) (hk : Sd (Gm p l e R s m args below meth c Q w nL n0 n1 x9) (pc + 1) K) : Sd (Gm p l e R s m args below meth c Q w nL n0 n1 x9) pc (w_zald K) := by
  intro L st M hK
  unfold w_zald at hK
  split at hK
  · rename_i i a st
    intro ls H locs hL hR hS hn
    have ha := okA_lt hR hK.1 (by decide)
    have he : (cells w M (gN M))[a]? = some (ad w a, .inl (w.2.1 15, (Sh a).2, .inl (gI M a))) := by rw [cells_get ha, ent_I (show Sh a = (15, (Sh a).2) from by rw [← hK.1.1]) (by decide), ad_own (by have := hR.2.1; omega)]
    exact va_zald h.1 h.2.1 h.2.2.2.2.2.1 hR.1 a 4 he (tys_get (by decide)) hK.2.1 hd (hk _ _ _ hK.2.2 ls H locs hL hR hS hn)
  · exact hK.elim
theorem s_lald (h : Cx p s m args c w cc own nL) {pc : Nat} {K : KT} (hd : decode cc pc = .ok (.laload, 1)) (hk : Sd (Gm p l e R s m args below meth c Q w nL n0 n1 x9) (pc + 1) K) : Sd (Gm p l e R s m args below meth c Q w nL n0 n1 x9) pc (w_lald K) := by
  intro L st M hK
  unfold w_lald at hK
  split at hK
  · rename_i i a st
    intro ls H locs hL hR hS hn
    have ha := okA_lt hR hK.1 (by decide)
    have he : (cells w M (gN M))[a]? = some (ad w a, .inl (w.2.1 14, (Sh a).2, .inr (.inl (gL M a)))) := by rw [cells_get ha, ent_J (show Sh a = (14, (Sh a).2) from by rw [← hK.1.1]), ad_own (by have := hR.2.1; omega)]
    exact va_lald h.1 h.2.1 h.2.2.2.2.2.1 hR.1 a 3 he (tys_get (by decide)) hK.2.1 hd (hk _ _ _ hK.2.2 ls H locs hL hR hS hn)
  · exact hK.elim
theorem s_dald (h : Cx p s m args c w cc own nL) {pc : Nat} {K : KT} (hd : decode cc pc = .ok (.daload, 1)) (hk : Sd (Gm p l e R s m args below meth c Q w nL n0 n1 x9) (pc + 1) K) : Sd (Gm p l e R s m args below meth c Q w nL n0 n1 x9) pc (w_dald K) := by
  intro L st M hK
  unfold w_dald at hK
  split at hK
  · rename_i i a st
    intro ls H locs hL hR hS hn
    have ha := okA_lt hR hK.1 (by decide)
    have he : (cells w M (gN M))[a]? = some (ad w a, .inl (w.2.1 12, (Sh a).2, .inr (.inr (.inr (.inl (gD M a)))))) := by rw [cells_get ha, ent_D (show Sh a = (12, (Sh a).2) from by rw [← hK.1.1]), ad_own (by have := hR.2.1; omega)]
    exact va_dald h.1 h.2.1 h.2.2.2.2.2.1 hR.1 a 1 he (tys_get (by decide)) hK.2.1 hd (hk _ _ _ hK.2.2 ls H locs hL hR hS hn)
  · exact hK.elim
theorem s_aald (h : Cx p s m args c w cc own nL) {pc k : Nat} {K : KT} (h9 : k = 16 ∨ k = 17 ∨ k = 18) (hd : decode cc pc = .ok (.aaload, 1)) (hk : Sd (Gm p l e R s m args below meth c Q w nL n0 n1 x9) (pc + 1) K) : Sd (Gm p l e R s m args below meth c Q w nL n0 n1 x9) pc (w_aald k K) := by
  intro L st M hK
  unfold w_aald at hK
  split at hK
  · rename_i i a st
    intro ls H locs hL hR hS hn
    have ha := okA_lt hR hK.1 (by omega)
    have he : (cells w M (gN M))[a]? = some (ad w a, .inl (w.2.1 k, (Sh a).2, .inr (.inr (.inr (.inr (fun j => (gR M a j).map (ad w))))))) := by rw [cells_get ha, ent_R (show Sh a = (k, (Sh a).2) from by rw [← hK.1.1]) h9, ad_own (by have := hR.2.1; omega)]
    have ht : (tysW w)[k - 11]? = some (w.2.1 k, tyS.getD (k - 11) .int) := by rw [tys_get (by omega), show 11 + (k - 11) = k by omega]
    have e1 : tr w (va_rf (gR M a i.toNatClampNeg)) = va_rf ((gR M a i.toNatClampNeg).map (ad w)) := by cases gR M a i.toNatClampNeg <;> rfl
    have hg := hk _ _ _ hK.2.2 ls H locs hL hR hS hn
    rw [List.map_cons, e1] at hg
    rcases h9 with rfl | rfl | rfl
    · exact va_aldq (C := RX8) h.1 h.2.1 h.2.2.2.2.2.1 hR.1 a 5 he ht hK.2.1 hd hg
    · exact va_aldq (C := RX9) h.1 h.2.1 h.2.2.2.2.2.1 hR.1 a 6 he ht hK.2.1 hd hg
    · exact va_aldq (C := RX10) h.1 h.2.1 h.2.2.2.2.2.1 hR.1 a 7 he ht hK.2.1 hd hg
  · exact hK.elim
theorem s_iast (h : Cx p s m args c w cc own nL) {pc : Nat} {K : KT} (hd : decode cc pc = .ok (.iastore, 1)) (hk : Sd (Gm p l e R s m args below meth c Q w nL n0 n1 x9) (pc + 1) K) : Sd (Gm p l e R s m args below meth c Q w nL n0 n1 x9) pc (w_iast K) := by
  intro L st M hK
  unfold w_iast at hK
  split at hK
  · rename_i x i a st
    intro ls H locs hL hR hS hn
    have ha := okA_lt hR hK.1 (by decide)
    have hs : Sh a = (13, (Sh a).2) := by rw [← hK.1.1]
    have he : (cells w M (gN M))[a]? = some (ad w a, .inl (w.2.1 13, (Sh a).2, .inl (gI M a))) := by rw [cells_get ha, ent_I hs (by decide), ad_own (by have := hR.2.1; omega)]
    refine va_iast h.1 h.2.1 h.2.2.2.2.2.1 hR.1 (cells_D w M _) hS a 2 he (tys_get (by decide)) hK.2.1 hd ?_
    intro H1 locs1 hP1 hD1 hS1
    have hR1 : Rl w (uI M a i.toNatClampNeg x) H1 := Rl_set (M := M) rfl rfl hR.2 (by have := hR.2.1; omega) (show ent w (uI M a i.toNatClampNeg x) a = .inl (w.2.1 13, (Sh a).2, .inl (upd (gI M a) i.toNatClampNeg x)) from by
      rw [ent_I hs (by decide)]
      exact congrArg _ (congrArg _ (congrArg _ (congrArg _ up2_row)))) (fun b hb => ent_uI_ne hb) hP1
    exact hk _ _ _ hK.2.2 ls H1 locs1 hL hR1 hS1 hn
  · exact hK.elim
theorem s_bast (h : Cx p s m args c w cc own nL) {pc : Nat} {K : KT} (hd : decode cc pc = .ok (.bastore, 1)) (hk : Sd (Gm p l e R s m args below meth c Q w nL n0 n1 x9) (pc + 1) K) : Sd (Gm p l e R s m args below meth c Q w nL n0 n1 x9) pc (w_bast K) := by
  intro L st M hK
  unfold w_bast at hK
  split at hK
  · rename_i x i a st
    intro ls H locs hL hR hS hn
    have ha := okA_lt hR hK.1 (by decide)
    have hs : Sh a = (11, (Sh a).2) := by rw [← hK.1.1]
    have he : (cells w M (gN M))[a]? = some (ad w a, .inl (w.2.1 11, (Sh a).2, .inl (gI M a))) := by rw [cells_get ha, ent_I hs (by decide), ad_own (by have := hR.2.1; omega)]
    refine va_bast h.1 h.2.1 h.2.2.2.2.2.1 hR.1 (cells_D w M _) hS a 0 he (tys_get (by decide)) hK.2.1 hd ?_
    intro H1 locs1 hP1 hD1 hS1
    have hR1 : Rl w (uI M a i.toNatClampNeg (vp_nar .byte x)) H1 := Rl_set (M := M) rfl rfl hR.2 (by have := hR.2.1; omega) (show ent w (uI M a i.toNatClampNeg (vp_nar .byte x)) a = .inl (w.2.1 11, (Sh a).2, .inl (upd (gI M a) i.toNatClampNeg (vp_nar .byte x))) from by
      rw [ent_I hs (by decide)]
      exact congrArg _ (congrArg _ (congrArg _ (congrArg _ up2_row)))) (fun b hb => ent_uI_ne hb) hP1
    exact hk _ _ _ hK.2.2 ls H1 locs1 hL hR1 hS1 hn
  · exact hK.elim
theorem s_zast (h : Cx p s m args c w cc own nL) {pc : Nat} {K : KT} (hd : decode cc pc = .ok (.bastore, 1)) (hk : Sd (Gm p l e R s m args below meth c Q w nL n0 n1 x9) (pc + 1) K) : Sd (Gm p l e R s m args below meth c Q w nL n0 n1 x9) pc (w_zast K) := by
  intro L st M hK
  unfold w_zast at hK
  split at hK
  · rename_i x i a st
    intro ls H locs hL hR hS hn
    have ha := okA_lt hR hK.1 (by decide)
    have hs : Sh a = (15, (Sh a).2) := by rw [← hK.1.1]
    have he : (cells w M (gN M))[a]? = some (ad w a, .inl (w.2.1 15, (Sh a).2, .inl (gI M a))) := by rw [cells_get ha, ent_I hs (by decide), ad_own (by have := hR.2.1; omega)]
    refine va_zast h.1 h.2.1 h.2.2.2.2.2.1 hR.1 (cells_D w M _) hS a 4 he (tys_get (by decide)) hK.2.1 hd ?_
    intro H1 locs1 hP1 hD1 hS1
    have hR1 : Rl w (uI M a i.toNatClampNeg (vp_nar .boolean x)) H1 := Rl_set (M := M) rfl rfl hR.2 (by have := hR.2.1; omega) (show ent w (uI M a i.toNatClampNeg (vp_nar .boolean x)) a = .inl (w.2.1 15, (Sh a).2, .inl (upd (gI M a) i.toNatClampNeg (vp_nar .boolean x))) from by
      rw [ent_I hs (by decide)]
      exact congrArg _ (congrArg _ (congrArg _ (congrArg _ up2_row)))) (fun b hb => ent_uI_ne hb) hP1
    exact hk _ _ _ hK.2.2 ls H1 locs1 hL hR1 hS1 hn
  · exact hK.elim
theorem s_last (h : Cx p s m args c w cc own nL) {pc : Nat} {K : KT} (hd : decode cc pc = .ok (.lastore, 1)) (hk : Sd (Gm p l e R s m args below meth c Q w nL n0 n1 x9) (pc + 1) K) : Sd (Gm p l e R s m args below meth c Q w nL n0 n1 x9) pc (w_last K) := by
  intro L st M hK
  unfold w_last at hK
  split at hK
  · rename_i x i a st
    intro ls H locs hL hR hS hn
    have ha := okA_lt hR hK.1 (by decide)
    have hs : Sh a = (14, (Sh a).2) := by rw [← hK.1.1]
    have he : (cells w M (gN M))[a]? = some (ad w a, .inl (w.2.1 14, (Sh a).2, .inr (.inl (gL M a)))) := by rw [cells_get ha, ent_J hs, ad_own (by have := hR.2.1; omega)]
    refine va_last h.1 h.2.1 h.2.2.2.2.2.1 hR.1 (cells_D w M _) hS a 3 he (tys_get (by decide)) hK.2.1 hd ?_
    intro H1 locs1 hP1 hD1 hS1
    have hR1 : Rl w (uL M a i.toNatClampNeg x) H1 := Rl_set (M := M) rfl rfl hR.2 (by have := hR.2.1; omega) (show ent w (uL M a i.toNatClampNeg x) a = .inl (w.2.1 14, (Sh a).2, .inr (.inl (vp_updL (gL M a) i.toNatClampNeg x))) from by
      rw [ent_J hs]
      exact congrArg _ (congrArg _ (congrArg _ (congrArg _ <| congrArg _ up2_row)))) (fun b hb => ent_uL_ne hb) hP1
    exact hk _ _ _ hK.2.2 ls H1 locs1 hL hR1 hS1 hn
  · exact hK.elim
theorem s_dast (h : Cx p s m args c w cc own nL) {pc : Nat} {K : KT} (hd : decode cc pc = .ok (.dastore, 1)) (hk : Sd (Gm p l e R s m args below meth c Q w nL n0 n1 x9) (pc + 1) K) : Sd (Gm p l e R s m args below meth c Q w nL n0 n1 x9) pc (w_dast K) := by
  intro L st M hK
  unfold w_dast at hK
  split at hK
  · rename_i x i a st
    intro ls H locs hL hR hS hn
    have ha := okA_lt hR hK.1 (by decide)
    have hs : Sh a = (12, (Sh a).2) := by rw [← hK.1.1]
    have he : (cells w M (gN M))[a]? = some (ad w a, .inl (w.2.1 12, (Sh a).2, .inr (.inr (.inr (.inl (gD M a)))))) := by rw [cells_get ha, ent_D hs, ad_own (by have := hR.2.1; omega)]
    refine va_dast h.1 h.2.1 h.2.2.2.2.2.1 hR.1 (cells_D w M _) hS a 1 he (tys_get (by decide)) hK.2.1 hd ?_
    intro H1 locs1 hP1 hD1 hS1
    have hR1 : Rl w (uD M a i.toNatClampNeg x) H1 := Rl_set (M := M) rfl rfl hR.2 (by have := hR.2.1; omega) (show ent w (uD M a i.toNatClampNeg x) a = .inl (w.2.1 12, (Sh a).2, .inr (.inr (.inr (.inl (vf_upd (gD M a) i.toNatClampNeg x))))) from by
      rw [ent_D hs]
      exact congrArg _ (congrArg _ (congrArg _ (congrArg _ <| congrArg _ <| congrArg _ <| congrArg _ up2_row)))) (fun b hb => ent_uD_ne hb) hP1
    exact hk _ _ _ hK.2.2 ls H1 locs1 hL hR1 hS1 hn
  · exact hK.elim
theorem s_aast (h : Cx p s m args c w cc own nL) {pc k : Nat} {K : KT} (h9 : k = 16 ∨ k = 17 ∨ k = 18) (hd : decode cc pc = .ok (.aastore, 1)) (hk : Sd (Gm p l e R s m args below meth c Q w nL n0 n1 x9) (pc + 1) K) : Sd (Gm p l e R s m args below meth c Q w nL n0 n1 x9) pc (w_aast k K) := by
  intro L st M hK
  unfold w_aast at hK
  split at hK
  · rename_i x i a st
    intro ls H locs hL hR hS hn
    obtain ⟨hA, hX, hin, hK⟩ := hK
    have ha := okA_lt hR hA (by omega)
    have hx := okA_lt hR hX (by omega)
    have hs : Sh a = (k, (Sh a).2) := by rw [← hA.1]
    have he : (cells w M (gN M))[a]? = some (ad w a, .inl (w.2.1 k, (Sh a).2, .inr (.inr (.inr (.inr (fun j => (gR M a j).map (ad w))))))) := by rw [cells_get ha, ent_R hs h9, ad_own (by have := hR.2.1; omega)]
    have hv : (cells w M (gN M))[x]? = some (ad w x, .inr (k - 11 + 3, flds w M x (k - 11))) := by rw [cells_get hx, ent_obj hX.1 (by omega), ad_own (by have := hR.2.1; omega)]
    have ht : (tysW w)[k - 11]? = some (w.2.1 k, tyS.getD (k - 11) .int) := by rw [tys_get (by omega), show 11 + (k - 11) = k by omega]
    have key : ∀ (H1 : Heap) (locs1 : List Loc), va_P w.1 vwCl ((cells w M (gN M)).set a (ad w a, .inl (w.2.1 k, (Sh a).2, .inr (.inr (.inr (.inr (va_up (fun j => (gR M a j).map (ad w)) i.toNatClampNeg (some (ad w x))))))))) H1 → va_S (Aw w) s.heap H1 locs1 → W p l e R s m args below meth c H1 locs1 (gN M - n0 + 8 * x9) (SS (gN M) - SS n0 + 64 * x9) Q (F0 m (pc + 1) ls (st.map (tr w))) := by
      intro H1 locs1 hP1 hS1
      have hR1 : Rl w (uR M a i.toNatClampNeg (some x)) H1 := Rl_set (M := M) rfl rfl hR.2 (by have := hR.2.1; omega) (show ent w (uR M a i.toNatClampNeg (some x)) a = .inl (w.2.1 k, (Sh a).2, .inr (.inr (.inr (.inr (va_up (fun j => (gR M a j).map (ad w)) i.toNatClampNeg (some (ad w x))))))) from by
        rw [ent_R hs h9]
        refine congrArg _ (congrArg _ (congrArg _ (congrArg _ (congrArg _ (congrArg _ (congrArg _ ?_))))))
        funext j
        unfold va_up
        rw [gR_uR]
        by_cases hj : j = i.toNatClampNeg
        · rw [if_pos ⟨rfl, hj⟩, if_pos hj]; rfl
        · rw [if_neg (fun z => hj z.2), if_neg hj]) (fun b hb => ent_uR_ne hb) hP1
      exact hk _ _ _ hK ls H1 locs1 hL hR1 hS1 hn
    rcases h9 with rfl | rfl | rfl
    · exact va_astq (r := (RX8, TX8, 3)) h.1 h.2.1 h.2.2.2.2.2.1 hR.1 (cells_D w M _) hS a 5 x 8 he ht hv rfl hin hd (fun H1 locs1 q1 _ q3 => key H1 locs1 q1 q3)
    · exact va_astq (r := (RX9, TX9, 4)) h.1 h.2.1 h.2.2.2.2.2.1 hR.1 (cells_D w M _) hS a 6 x 9 he ht hv rfl hin hd (fun H1 locs1 q1 _ q3 => key H1 locs1 q1 q3)
    · exact va_astq (r := (RX10, TX10, 4)) h.1 h.2.1 h.2.2.2.2.2.1 hR.1 (cells_D w M _) hS a 7 x 10 he ht hv rfl hin hd (fun H1 locs1 q1 _ q3 => key H1 locs1 q1 q3)
  · exact hK.elim
end MEM2
