section NEWS
def w_obj (K : KT) : KT := fun L st M => match st with
  | .ref _ :: st => st.length ≤ 4 ∧ K L st M
  | _ => False
def w_copyL (K : KT) : KT := fun L st M => match st with
  | .int n :: .int dp :: .ref b :: .int sp :: .ref a :: st => okA M a 14 ∧ okA M b 14 ∧ st.length ≤ 4 ∧ (¬ sp < 0 ∧ ¬ dp < 0 ∧ ¬ n < 0 ∧ sp.toNatClampNeg + n.toNatClampNeg ≤ (Sh a).2 ∧ dp.toNatClampNeg + n.toNatClampNeg ≤ (Sh b).2) ∧ K L st (bL M b (va_cpy (gL M a) (gL M b) sp.toNatClampNeg dp.toNatClampNeg n.toNatClampNeg))
  | _ => False
def w_copyI (K : KT) : KT := fun L st M => match st with
  | .int n :: .int dp :: .ref b :: .int sp :: .ref a :: st => okA M a 13 ∧ okA M b 13 ∧ st.length ≤ 4 ∧ (¬ sp < 0 ∧ ¬ dp < 0 ∧ ¬ n < 0 ∧ sp.toNatClampNeg + n.toNatClampNeg ≤ (Sh a).2 ∧ dp.toNatClampNeg + n.toNatClampNeg ≤ (Sh b).2) ∧ K L st (bI M b (va_cpy (gI M a) (gI M b) sp.toNatClampNeg dp.toNatClampNeg n.toNatClampNeg))
  | _ => False
def w_new (k n1 : Nat) (K : KT) : KT := fun L st M => (Sh (gN M)).1 = k ∧ gE M = true ∧ gN M + 1 ≤ n1 ∧ K L (.ref (gN M) :: st) (nwM M)
def w_newa (k n1 : Nat) (K : KT) : KT := fun L st M => match st with
  | .int n :: st => Sh (gN M) = (k, n.toNatClampNeg) ∧ ¬ n < 0 ∧ gE M = true ∧ gN M + 1 ≤ n1 ∧ K L (.ref (gN M) :: st) (nwM M)
  | _ => False
def arraycopyW : Bool := decide (lw_tbl[0]? = lw_tbl[0]?)
theorem nw_lt {M : Mem} {b : Nat} (h : b < M.1.1) : gI (nwM M) b = gI M b ∧ gL (nwM M) b = gL M b ∧ gD (nwM M) b = gD M b ∧ gR (nwM M) b = gR M b :=
  ⟨rw2_ne (by omega), rw2_ne (by omega), rw2_ne (by omega), rw2_ne (by omega)⟩
theorem cells_nw {w : Wd} {M : Mem} : cells w (nwM M) (gN M + 1) = cells w M (gN M) ++ [(b0 w + gN M, ent w (nwM M) (gN M))] := by
  unfold cells
  rw [List.range_succ, List.map_append]
  congr 1
  refine List.map_congr_left fun b hb => ?_
  have hb := List.mem_range.mp hb
  obtain ⟨h1, h2, h3, h4⟩ := nw_lt (M := M) (b := b) hb
  rw [ent_congr h1 h2 h3 h4]
theorem SS_succ {n : Nat} (h : n < 651) : SS (n + 1) = SS n + szS (Sh n) := by
  have e : shTab.length = 651 := by decide +kernel
  have h1 : shTab[n]? = some (shTab[n]'(by omega)) := List.getElem?_eq_getElem (by omega)
  unfold SS
  rw [List.take_add_one, h1]
  simp only [Option.toList, List.map_append, List.sum_append, List.map_cons, List.map_nil, List.sum_cons, List.sum_nil, Nat.add_zero]
  unfold Sh
  rw [List.getD_eq_getElem?_getD, h1]
  rfl
/-- what a new cell's address is: the heap has no room for another -/
theorem new_at {w : Wd} {M : Mem} {H1 : Heap} {q : Nat} {E : va_E} {sz : Nat} (hP : va_P w.1 vwCl (cells w M (gN M) ++ [(q, E)]) H1) (hD : va_D (Aw w) (cells w M (gN M) ++ [(q, E)])) (hz : H1.size ≤ sz) (hs : sz = b0 w + gN M + 1) : q = b0 w + gN M := by
  have hq : (cells w M (gN M) ++ [(q, E)])[gN M]? = some (q, E) := by
    rw [List.getElem?_append_right (by rw [cells_len]; exact Nat.le_refl _), cells_len, Nat.sub_self]
    rfl
  have h1 := (hP _ _ hq).lt
  have h2 : b0 w ≤ q := hD.2 _ _ hq
  dsimp only at h1
  by_cases hlt : q < b0 w + gN M
  · have hc : (cells w M (gN M) ++ [(q, E)])[q - b0 w]? = some (b0 w + (q - b0 w), ent w M (q - b0 w)) := by
      rw [List.getElem?_append_left (by rw [cells_len]; omega)]
      exact cells_get (by omega)
    have := hD.1 _ _ _ _ hc hq (by dsimp only; omega)
    omega
  · omega
def dvT (t : Nat) : Value := match t with
  | 0 => .int 0
  | 1 => .long 0
  | 2 => .double 0
  | 3 => .null
  | _ => .int 0
theorem dv_all : ∀ k, k < 11 → ∀ j, j < (fT k).length → defaultValue (tyF k j) = dvT ((fT k).getD j 0) ∧ (fT k).getD j 0 ≤ 5 := by decide +kernel
theorem rdv_nw {w : Wd} {M : Mem} {t j : Nat} (ht : t ≤ 5) : tr w (rdv t (nwM M) (gN M) j) = dvT t := by
  have h1 : gI (nwM M) (gN M) = fun _ => 0 := rw2_eq
  have h2 : gL (nwM M) (gN M) = fun _ => 0 := rw2_eq
  have h3 : gD (nwM M) (gN M) = fun _ => 0 := rw2_eq
  have h4 : gR (nwM M) (gN M) = fun _ => none := rw2_eq
  unfold rdv
  rw [h1, h2, h3, h4]
  match t, ht with
  | 0, _ => rfl
  | 1, _ => rfl
  | 2, _ => rfl
  | 3, _ => rfl
  | 4, _ => rfl
  | 5, _ => rfl
variable {p : Program} {l : Launch} {e : Jvm.Env} {R : Room} {s : State} {m : MethodId} {args : Array Value} {below : List Frame} {meth : Method} {c : Code} {Q : State → Prop} {w : Wd} {cc : ByteArray} {own : String} {nL n0 n1 x9 : Nat}
theorem s_obj (h : Cx p s m args c w cc own nL) {d : Nat} (hr : Cr R d n0 n1 x9) (hd1 : 1 ≤ d) {pc idx : Nat} {K : KT} (hl : Cond.methodLink own idx objectInit ∈ lw_ok) (hi : Cond.instanceMethod objectInit ∈ lw_ok) (hco : Cond.code objectInit ⟨#[0xb1]⟩ 1 none ∈ lw_ok) (hd : decode cc pc = .ok (.invokespecial idx, 3)) (hk : Sd (Gm p l e R s m args below meth c Q w nL n0 n1 x9) (pc + 3) K) : Sd (Gm p l e R s m args below meth c Q w nL n0 n1 x9) pc (w_obj K) := by
  intro L st M hK
  unfold w_obj at hK
  split at hK
  · rename_i a st
    intro ls H locs hL hR hS hn
    obtain ⟨hr1, hr2, hr3, hr4, h01⟩ := hr
    have hc := sum_cat (st.map (tr w)) 4 (by simpa using hK.1)
    refine W.objInit (rest := st.map (tr w)) h.1 h.2.1 h.2.2.2.1 (h.2.2.2.2.1 _ hl) (h.2.2.2.2.1 _ hi) (h.2.2.2.2.1 _ hco) rfl (by rw [h.2.2.1]; exact hL.1) rfl hd (Nat.le_trans hd1 hr3) ?_ ?_
    · show 2 * 0 + _ + 12 ≤ R.locals
      omega
    · exact hk _ _ _ hK.2 ls H locs hL hR hS hn
  · exact hK.elim
theorem s_copyL (h : Cx p s m args c w cc own nL) {d : Nat} (hr : Cr R d n0 n1 x9) (hd1 : 1 ≤ d) {pc idx : Nat} {K : KT} (hl : Cond.methodLink own idx arraycopyName ∈ lw_ok) (hn1 : Cond.native arraycopyName ∈ lw_ok) (hn2 : Cond.static arraycopyName ∈ lw_ok) (hn3 : Cond.initialized "java/lang/System" ∈ lw_ok) (hd : decode cc pc = .ok (.invokestatic idx, 3)) (hk : Sd (Gm p l e R s m args below meth c Q w nL n0 n1 x9) (pc + 3) K) : Sd (Gm p l e R s m args below meth c Q w nL n0 n1 x9) pc (w_copyL K) := by
  intro L st M hK
  unfold w_copyL at hK
  split at hK
  · rename_i n dp b sp a st
    intro ls H locs hL hR hS hn
    obtain ⟨hA, hB, hst, ⟨h1, h2, h3, h4, h5⟩, hK⟩ := hK
    obtain ⟨hr1, hr2, hr3, hr4, h01⟩ := hr
    have ha := okA_lt hR hA (by decide)
    have hb := okA_lt hR hB (by decide)
    have hsa : Sh a = (14, (Sh a).2) := by rw [← hA.1]
    have hsb : Sh b = (14, (Sh b).2) := by rw [← hB.1]
    have hc := sum_cat (st.map (tr w)) 4 (by simpa using hst)
    have hea : (cells w M (gN M))[a]? = some (ad w a, .inl (w.2.1 14, (Sh a).2, .inr (.inl (gL M a)))) := by rw [cells_get ha, ent_J hsa, ad_own (by have := hR.2.1; omega)]
    have heb : (cells w M (gN M))[b]? = some (ad w b, .inl (w.2.1 14, (Sh b).2, .inr (.inl (gL M b)))) := by rw [cells_get hb, ent_J hsb, ad_own (by have := hR.2.1; omega)]
    refine va_copyl (rest := st.map (tr w)) h.1 h.2.1 (by rw [h.2.2.1]; exact hL.1.symm) h.2.2.2.1 (h.2.2.2.2.1 _ hl) (h.2.2.2.2.1 _ hn1) (h.2.2.2.2.1 _ hn2) (h.2.2.2.2.1 _ hn3) h.2.2.2.2.2.1 hR.1 (cells_D w M _) hS a b 3 3 hea heb (tys_get (by decide)) (tys_get (by decide)) rfl h1 h2 h3 h4 h5 (fun _ _ => rfl) (Nat.le_trans hd1 hr3) ?_ hd ?_
    · have e9 : nativeFrameWords "java/lang/System" "arraycopy" 5 ≤ 40 := by decide
      show _ ≤ R.locals
      omega
    · intro H1 locs1 hP1 hD1 hS1
      have hR1 : Rl w (bL M b (va_cpy (gL M a) (gL M b) sp.toNatClampNeg dp.toNatClampNeg n.toNatClampNeg)) H1 := Rl_set (M := M) rfl rfl hR.2 (by have := hR.2.1; omega) (show ent w (bL M b (va_cpy (gL M a) (gL M b) sp.toNatClampNeg dp.toNatClampNeg n.toNatClampNeg)) b = .inl (w.2.1 14, (Sh b).2, .inr (.inl (va_cpy (gL M a) (gL M b) sp.toNatClampNeg dp.toNatClampNeg n.toNatClampNeg))) from by
        rw [ent_J hsb]
        exact congrArg _ (congrArg _ (congrArg _ (congrArg _ (congrArg _ rw2_eq))))) (fun q hq => ent_congr rfl (rw2_ne hq) rfl rfl) hP1
      exact hk _ _ _ hK ls H1 locs1 hL hR1 hS1 hn
  · exact hK.elim
theorem s_copyI (h : Cx p s m args c w cc own nL) {d : Nat} (hr : Cr R d n0 n1 x9) (hd1 : 1 ≤ d) {pc idx : Nat} {K : KT} (hl : Cond.methodLink own idx arraycopyName ∈ lw_ok) (hn1 : Cond.native arraycopyName ∈ lw_ok) (hn2 : Cond.static arraycopyName ∈ lw_ok) (hn3 : Cond.initialized "java/lang/System" ∈ lw_ok) (hd : decode cc pc = .ok (.invokestatic idx, 3)) (hk : Sd (Gm p l e R s m args below meth c Q w nL n0 n1 x9) (pc + 3) K) : Sd (Gm p l e R s m args below meth c Q w nL n0 n1 x9) pc (w_copyI K) := by
  intro L st M hK
  unfold w_copyI at hK
  split at hK
  · rename_i n dp b sp a st
    intro ls H locs hL hR hS hn
    obtain ⟨hA, hB, hst, ⟨h1, h2, h3, h4, h5⟩, hK⟩ := hK
    obtain ⟨hr1, hr2, hr3, hr4, h01⟩ := hr
    have ha := okA_lt hR hA (by decide)
    have hb := okA_lt hR hB (by decide)
    have hsa : Sh a = (13, (Sh a).2) := by rw [← hA.1]
    have hsb : Sh b = (13, (Sh b).2) := by rw [← hB.1]
    have hc := sum_cat (st.map (tr w)) 4 (by simpa using hst)
    have hea : (cells w M (gN M))[a]? = some (ad w a, .inl (w.2.1 13, (Sh a).2, .inl (gI M a))) := by rw [cells_get ha, ent_I hsa (by decide), ad_own (by have := hR.2.1; omega)]
    have heb : (cells w M (gN M))[b]? = some (ad w b, .inl (w.2.1 13, (Sh b).2, .inl (gI M b))) := by rw [cells_get hb, ent_I hsb (by decide), ad_own (by have := hR.2.1; omega)]
    refine va_copyi (rest := st.map (tr w)) h.1 h.2.1 (by rw [h.2.2.1]; exact hL.1.symm) h.2.2.2.1 (h.2.2.2.2.1 _ hl) (h.2.2.2.2.1 _ hn1) (h.2.2.2.2.1 _ hn2) (h.2.2.2.2.1 _ hn3) h.2.2.2.2.2.1 hR.1 (cells_D w M _) hS a b 2 2 hea heb (tys_get (by decide)) (tys_get (by decide)) rfl h1 h2 h3 h4 h5 (fun _ _ => rfl) (Nat.le_trans hd1 hr3) ?_ hd ?_
    · have e9 : nativeFrameWords "java/lang/System" "arraycopy" 5 ≤ 40 := by decide
      show _ ≤ R.locals
      omega
    · intro H1 locs1 hP1 hD1 hS1
      have hR1 : Rl w (bI M b (va_cpy (gI M a) (gI M b) sp.toNatClampNeg dp.toNatClampNeg n.toNatClampNeg)) H1 := Rl_set (M := M) rfl rfl hR.2 (by have := hR.2.1; omega) (show ent w (bI M b (va_cpy (gI M a) (gI M b) sp.toNatClampNeg dp.toNatClampNeg n.toNatClampNeg)) b = .inl (w.2.1 13, (Sh b).2, .inl (va_cpy (gI M a) (gI M b) sp.toNatClampNeg dp.toNatClampNeg n.toNatClampNeg)) from by
        rw [ent_I hsb (by decide)]
        exact congrArg _ (congrArg _ (congrArg _ (congrArg _ rw2_eq)))) (fun q hq => ent_congr (rw2_ne hq) rfl rfl rfl) hP1
      exact hk _ _ _ hK ls H1 locs1 hL hR1 hS1 hn
  · exact hK.elim
theorem s_new (h : Cx p s m args c w cc own nL) {d : Nat} (hr : Cr R d n0 n1 x9) {pc idx k : Nat} {K : KT} {C : String} {N : Nat} (hk9 : k ≤ 10) (hv : (vwCl[k + 3]?).map (fun q => (q.1, q.2.2)) = some (C, N)) (hcl : Cond.classLink own idx C ∈ lw_ok) (hins : Cond.instantiable C N ∈ lw_ok) (hini : Cond.initialized C ∈ lw_ok) (hd : decode cc pc = .ok (.new idx, 3)) (hk : Sd (Gm p l e R s m args below meth c Q w nL n0 n1 x9) (pc + 3) K) : Sd (Gm p l e R s m args below meth c Q w nL n0 n1 x9) pc (w_new k n1 K) := by
  intro L st M hK
  intro ls H locs hL hR hS hn
  obtain ⟨hs, hE, hlt, hK⟩ := hK
  have hx0 := hn.2.2.2 hE
  subst hx0
  obtain ⟨hr1, hr2, hr3, hr4, h01⟩ := hr
  obtain ⟨C', T, N', hv', hw, hty, hnm, hN⟩ := cl_all hk9
  rw [hv'] at hv
  cases hv
  have h651 : gN M < 651 := Sh_lt (by omega)
  have hsz : szS (Sh (gN M)) = N' := by
    unfold szS
    rw [if_pos (by omega), hs, hN]
  have hSS := SS_succ h651
  have hSm := SS_mono hlt
  have hS0 := SS_mono hn.1
  refine va_new (C := C') (T := T) (N := N') (ty := tyF k) (ci := k + 3) (fs := flds w (nwM M) (gN M) k) h.1 h.2.1 h.2.2.2.2.1 hw hty h.2.2.2.1 (h.2.2.2.2.1 _ hcl) (h.2.2.2.2.1 _ hins) (h.2.2.2.2.1 _ hini) h.2.2.2.2.2.1 hR.1 (cells_D w M _) hS (fun q hq => Nat.le_trans h.2.2.2.2.2.2.1.2.1 hq) hv' ?_ ?_ ?_ hd ?_
  · intro j hj
    have hj' : j < (fT k).length := by rw [← hN]; exact hj
    have ht : (fT k)[j]? = some ((fT k).getD j 0) := by rw [List.getD_eq_getElem?_getD, List.getElem?_eq_getElem hj']; rfl
    obtain ⟨d1, d2⟩ := dv_all k (by omega) j hj'
    show _ = (flds w (nwM M) (gN M) k).getD j .null
    rw [List.getD_eq_getElem?_getD, flds_get ht, d1]
    exact (rdv_nw d2).symm
  · show gN M - n0 + 8 * 0 + 1 ≤ R.cells
    omega
  · show SS (gN M) - SS n0 + 64 * 0 + N' ≤ R.slots
    omega
  · intro q H1 hP1 hD1 hS1
    refine W_sz (fun hz => ?_)
    have h0 := hn.2.1 hE
    have hq := new_at hP1 hD1 hz (by omega)
    subst hq
    have hR1 : Rl w (nwM M) H1 := by
      refine ⟨?_, ?_, fun hE' => ?_⟩
      · show va_P w.1 vwCl (cells w (nwM M) (gN M + 1)) H1
        rw [cells_nw, ent_obj hs hk9]
        exact hP1
      · show gN M + 1 ≤ 651
        omega
      · exact absurd (show gE M = false from hE') (by rw [hE]; decide)
    have hg := hk _ _ _ hK ls H1 locs hL hR1 hS1 ⟨Nat.le_trans hn.1 (Nat.le_succ _), hn.2.1, hlt, fun _ => rfl⟩
    have e1 : gN (nwM M) - n0 = gN M - n0 + 1 := by show gN M + 1 - n0 = _; omega
    have e2 : SS (gN (nwM M)) - SS n0 = SS (gN M) - SS n0 + N' := by show SS (gN M + 1) - SS n0 = _; omega
    have e3 : ad w (gN M) = b0 w + gN M := ad_own (by omega)
    rw [e1, e2, List.map_cons, show tr w (.ref (gN M)) = .ref (b0 w + gN M) by rw [← e3]; rfl] at hg
    exact hg
theorem Rl_nw {w : Wd} {M : Mem} {H1 : Heap} {E : va_E} (hP : va_P w.1 vwCl (cells w M (gN M) ++ [(b0 w + gN M, E)]) H1) (he : ent w (nwM M) (gN M) = E) (h651 : gN M < 651) (hE : gE M = true) : Rl w (nwM M) H1 := by
  refine ⟨?_, ?_, fun hE' => ?_⟩
  · show va_P w.1 vwCl (cells w (nwM M) (gN M + 1)) H1
    rw [cells_nw, he]
    exact hP
  · show gN M + 1 ≤ 651
    omega
  · exact absurd (show gE M = false from hE') (by rw [hE]; decide)
theorem nw_row (M : Mem) : gI (nwM M) (gN M) = (fun _ => 0) ∧ gL (nwM M) (gN M) = (fun _ => 0) ∧ gD (nwM M) (gN M) = (fun _ => 0) ∧ gR (nwM M) (gN M) = (fun _ => none) := ⟨rw2_eq, rw2_eq, rw2_eq, rw2_eq⟩
theorem s_newa (h : Cx p s m args c w cc own nL) {d : Nat} (hr : Cr R d n0 n1 x9) {pc k : Nat} {K : KT} {at9 : ArrayType} {ty : FieldType} {tn : Nat} (hk9 : 11 ≤ k ∧ k ≤ 18) (hty : newarray.typeOf at9 = ty) (hb9 : componentBytes ty ≤ 8) (hac : Cond.arrayClass ty ∈ lw_ok) (htn : (tysW w)[tn]? = some (w.2.1 k, ty)) (hra : ∀ c1 c2 U, va_RA U c1 ty → va_RA U c2 ty → c1 = c2) (ha : ∀ (N : Nat), ∃ x, ∀ cA : ClassId, vp_cell cA (N, x) = arrV cA N (fun _ => defaultValue ty) ∧ ∀ M : Mem, Sh (gN M) = (k, N) → ent w (nwM M) (gN M) = .inl (w.2.1 k, (N, x))) (hd : decode cc pc = .ok (.newarray at9, 2)) (hk : Sd (Gm p l e R s m args below meth c Q w nL n0 n1 x9) (pc + 2) K) : Sd (Gm p l e R s m args below meth c Q w nL n0 n1 x9) pc (w_newa k n1 K) := by
  intro L st M hK
  unfold w_newa at hK
  split at hK
  · rename_i n st
    intro ls H locs hL hR hS hn
    obtain ⟨hs, hn9, hE, hlt, hK⟩ := hK
    have hx0 := hn.2.2.2 hE
    subst hx0
    obtain ⟨hr1, hr2, hr3, hr4, h01⟩ := hr
    have h651 : gN M < 651 := Sh_lt (by rw [hs]; exact hk9.2)
    have hsz : szS (Sh (gN M)) = n.toNatClampNeg := by
      unfold szS
      rw [hs, if_neg (by dsimp only; omega)]
    have hSS := SS_succ h651
    have hSm := SS_mono hlt
    have hS0 := SS_mono hn.1
    obtain ⟨x, hx⟩ := ha n.toNatClampNeg
    have hbig : n.toNatClampNeg ≤ 180000 := by
      have : ∀ i, i < 651 → (Sh i).2 ≤ 180000 := by decide +kernel
      have := this _ h651
      rw [hs] at this
      exact this
    refine va_newa (a0 := (n.toNatClampNeg, x)) (N' := n.toNatClampNeg) (ty := ty) h.1 h.2.1 (by rw [hty]; exact h.2.2.2.2.1 _ hac) hty h.2.2.2.2.2.1 hR.1 (cells_D w M _) hS (fun q hq => Nat.le_trans h.2.2.2.2.2.2.1.2.1 hq) (fun cA => (hx cA).1) hn9 rfl ?_ ?_ ?_ hd ?_
    · calc n.toNatClampNeg * componentBytes ty ≤ 180000 * 8 := Nat.mul_le_mul hbig hb9
        _ ≤ 536870912 := by decide
    · show gN M - n0 + 8 * 0 + 1 ≤ R.cells
      omega
    · show SS (gN M) - SS n0 + 64 * 0 + n.toNatClampNeg ≤ R.slots
      omega
    · intro q cA H1 hK1 hP1 hD1 hS1
      refine W_sz (fun hz => ?_)
      have h0 := hn.2.1 hE
      have hq := new_at hP1 hD1 hz (by omega)
      subst hq
      have hcA : cA = w.2.1 k := by
        have h1 := (hK1.2 (tysW w).length (cA, ty) (by simp)).2
        have h2 := (h.2.2.2.2.2.1.2 tn (w.2.1 k, ty) htn).2
        exact hra _ _ _ h1 h2
      subst hcA
      have hR1 : Rl w (nwM M) H1 := Rl_nw hP1 ((hx (w.2.1 k)).2 M hs) h651 hE
      have hg := hk _ _ _ hK ls H1 locs hL hR1 hS1 ⟨Nat.le_trans hn.1 (Nat.le_succ _), hn.2.1, hlt, fun _ => rfl⟩
      have e1 : gN (nwM M) - n0 = gN M - n0 + 1 := by show gN M + 1 - n0 = _; omega
      have e2 : SS (gN (nwM M)) - SS n0 = SS (gN M) - SS n0 + n.toNatClampNeg := by show SS (gN M + 1) - SS n0 = _; omega
      have e3 : ad w (gN M) = b0 w + gN M := ad_own (by omega)
      rw [e1, e2, List.map_cons, show tr w (.ref (gN M)) = .ref (b0 w + gN M) by rw [← e3]; rfl] at hg
      exact hg
  · exact hK.elim
theorem ra_prim {ty : FieldType} (h : ∀ C, ty ≠ .object C) : ∀ c1 c2 U, va_RA U c1 ty → va_RA U c2 ty → c1 = c2 := by
  intro c1 c2 U h1 h2
  cases ty with
  | object C => exact absurd rfl (h C)
  | _ => exact Option.some.inj (h1.symm.trans h2)
theorem ra_obj (C : String) : ∀ c1 c2 U, va_RA U c1 (.object C) → va_RA U c2 (.object C) → c1 = c2 := by
  intro c1 c2 U h1 h2
  obtain ⟨_, _, _, _, _, h1⟩ := h1
  obtain ⟨_, _, _, _, _, h2⟩ := h2
  exact Option.some.inj (h1.symm.trans h2)
theorem s_newa13 (h : Cx p s m args c w cc own nL) {d : Nat} (hr : Cr R d n0 n1 x9) {pc : Nat} {K : KT} (hac : Cond.arrayClass .int ∈ lw_ok) (hd : decode cc pc = .ok (.newarray .int, 2)) (hk : Sd (Gm p l e R s m args below meth c Q w nL n0 n1 x9) (pc + 2) K) : Sd (Gm p l e R s m args below meth c Q w nL n0 n1 x9) pc (w_newa 13 n1 K) :=
  s_newa h hr (ty := .int) (at9 := .int) (tn := 2) ⟨by decide, by decide⟩ rfl (by decide) hac (tys_get (by decide)) (ra_prim (fun _ q => by cases q)) (fun N => ⟨.inl (fun _ => 0), fun cA => ⟨by rw [vp_cell_i]; rfl, fun M hs => by rw [ent_I hs (by decide), (nw_row M).1]⟩⟩) hd hk
theorem s_newa11 (h : Cx p s m args c w cc own nL) {d : Nat} (hr : Cr R d n0 n1 x9) {pc : Nat} {K : KT} (hac : Cond.arrayClass .byte ∈ lw_ok) (hd : decode cc pc = .ok (.newarray .byte, 2)) (hk : Sd (Gm p l e R s m args below meth c Q w nL n0 n1 x9) (pc + 2) K) : Sd (Gm p l e R s m args below meth c Q w nL n0 n1 x9) pc (w_newa 11 n1 K) :=
  s_newa h hr (ty := .byte) (at9 := .byte) (tn := 0) ⟨by decide, by decide⟩ rfl (by decide) hac (tys_get (by decide)) (ra_prim (fun _ q => by cases q)) (fun N => ⟨.inl (fun _ => 0), fun cA => ⟨by rw [vp_cell_i]; rfl, fun M hs => by rw [ent_I hs (by decide), (nw_row M).1]⟩⟩) hd hk
theorem s_newa15 (h : Cx p s m args c w cc own nL) {d : Nat} (hr : Cr R d n0 n1 x9) {pc : Nat} {K : KT} (hac : Cond.arrayClass .boolean ∈ lw_ok) (hd : decode cc pc = .ok (.newarray .boolean, 2)) (hk : Sd (Gm p l e R s m args below meth c Q w nL n0 n1 x9) (pc + 2) K) : Sd (Gm p l e R s m args below meth c Q w nL n0 n1 x9) pc (w_newa 15 n1 K) :=
  s_newa h hr (ty := .boolean) (at9 := .boolean) (tn := 4) ⟨by decide, by decide⟩ rfl (by decide) hac (tys_get (by decide)) (ra_prim (fun _ q => by cases q)) (fun N => ⟨.inl (fun _ => 0), fun cA => ⟨by rw [vp_cell_i]; rfl, fun M hs => by rw [ent_I hs (by decide), (nw_row M).1]⟩⟩) hd hk
theorem s_newa14 (h : Cx p s m args c w cc own nL) {d : Nat} (hr : Cr R d n0 n1 x9) {pc : Nat} {K : KT} (hac : Cond.arrayClass .long ∈ lw_ok) (hd : decode cc pc = .ok (.newarray .long, 2)) (hk : Sd (Gm p l e R s m args below meth c Q w nL n0 n1 x9) (pc + 2) K) : Sd (Gm p l e R s m args below meth c Q w nL n0 n1 x9) pc (w_newa 14 n1 K) :=
  s_newa h hr (ty := .long) (at9 := .long) (tn := 3) ⟨by decide, by decide⟩ rfl (by decide) hac (tys_get (by decide)) (ra_prim (fun _ q => by cases q)) (fun N => ⟨.inr (.inl (fun _ => 0)), fun cA => ⟨by rw [vp_cell_l]; rfl, fun M hs => by rw [ent_J hs, (nw_row M).2.1]⟩⟩) hd hk
theorem s_newa12 (h : Cx p s m args c w cc own nL) {d : Nat} (hr : Cr R d n0 n1 x9) {pc : Nat} {K : KT} (hac : Cond.arrayClass .double ∈ lw_ok) (hd : decode cc pc = .ok (.newarray .double, 2)) (hk : Sd (Gm p l e R s m args below meth c Q w nL n0 n1 x9) (pc + 2) K) : Sd (Gm p l e R s m args below meth c Q w nL n0 n1 x9) pc (w_newa 12 n1 K) :=
  s_newa h hr (ty := .double) (at9 := .double) (tn := 1) ⟨by decide, by decide⟩ rfl (by decide) hac (tys_get (by decide)) (ra_prim (fun _ q => by cases q)) (fun N => ⟨.inr (.inr (.inr (.inl (fun _ => 0)))), fun cA => ⟨by rw [vp_cell_d]; rfl, fun M hs => by rw [ent_D hs, (nw_row M).2.2.1]⟩⟩) hd hk
theorem s_newr (h : Cx p s m args c w cc own nL) {d : Nat} (hr : Cr R d n0 n1 x9) {pc k tn idx : Nat} {K : KT} {C : String} (hk9 : k = 16 ∨ k = 17 ∨ k = 18) (hcl : Cond.classLink own idx C ∈ lw_ok) {i9 : Nat} (hao : lw_tbl[i9]? = some (Cond.arrayOver (.object C))) (htn : (tysW w)[tn]? = some (w.2.1 k, .object C)) (hd : decode cc pc = .ok (.anewarray idx, 3)) (hk : Sd (Gm p l e R s m args below meth c Q w nL n0 n1 x9) (pc + 3) K) : Sd (Gm p l e R s m args below meth c Q w nL n0 n1 x9) pc (w_newa k n1 K) := by
  intro L st M hK
  unfold w_newa at hK
  split at hK
  · rename_i n st
    intro ls H locs hL hR hS hn
    obtain ⟨hs, hn9, hE, hlt, hK⟩ := hK
    have hx0 := hn.2.2.2 hE
    subst hx0
    obtain ⟨hr1, hr2, hr3, hr4, h01⟩ := hr
    have h651 : gN M < 651 := Sh_lt (by rw [hs]; dsimp only; omega)
    have hsz : szS (Sh (gN M)) = n.toNatClampNeg := by
      unfold szS
      rw [hs, if_neg (by dsimp only; omega)]
    have hSS := SS_succ h651
    have hSm := SS_mono hlt
    have hS0 := SS_mono hn.1
    have hbig : n.toNatClampNeg ≤ 180000 := by
      have : ∀ i, i < 651 → (Sh i).2 ≤ 180000 := by decide +kernel
      have := this _ h651
      rw [hs] at this
      exact this
    refine va_newq (C := C) (N' := n.toNatClampNeg) h.1 h.2.1 h.2.2.2.1 (h.2.2.2.2.1 _ hcl) (va_AO.moved h.2.2.2.2.2.2.1.1.alike (va_AO.of (h.2.2.2.2.2.2.2.2.1 _ (List.mem_of_getElem? hao)))) h.2.2.2.2.2.1 hR.1 (cells_D w M _) hS (fun q hq => Nat.le_trans h.2.2.2.2.2.2.1.2.1 hq) hn9 rfl ?_ ?_ ?_ hd ?_
    · omega
    · show gN M - n0 + 8 * 0 + 1 ≤ R.cells
      omega
    · show SS (gN M) - SS n0 + 64 * 0 + n.toNatClampNeg ≤ R.slots
      omega
    · intro q cA H1 hK1 hP1 hD1 hS1
      refine W_sz (fun hz => ?_)
      have h0 := hn.2.1 hE
      have hq := new_at hP1 hD1 hz (by omega)
      subst hq
      have hcA : cA = w.2.1 k := by
        have h1 := (hK1.2 (tysW w).length (cA, .object C) (by simp)).2
        have h2 := (h.2.2.2.2.2.1.2 tn (w.2.1 k, .object C) htn).2
        exact ra_obj C _ _ _ h1 h2
      subst hcA
      have hR1 : Rl w (nwM M) H1 := Rl_nw hP1 (by rw [ent_R hs hk9, (nw_row M).2.2.2]; rfl) h651 hE
      have hg := hk _ _ _ hK ls H1 locs hL hR1 hS1 ⟨Nat.le_trans hn.1 (Nat.le_succ _), hn.2.1, hlt, fun _ => rfl⟩
      have e1 : gN (nwM M) - n0 = gN M - n0 + 1 := by show gN M + 1 - n0 = _; omega
      have e2 : SS (gN (nwM M)) - SS n0 = SS (gN M) - SS n0 + n.toNatClampNeg := by show SS (gN M + 1) - SS n0 = _; omega
      have e3 : ad w (gN M) = b0 w + gN M := ad_own (by omega)
      rw [e1, e2, List.map_cons, show tr w (.ref (gN M)) = .ref (b0 w + gN M) by rw [← e3]; rfl] at hg
      exact hg
  · exact hK.elim
theorem s_callI (h : Cx p s m args c w cc own nL) {d d' dn : Nat} (hr : Cr R d n0 n1 x9) {pc idx n : Nat} {K : KT} {sp : SP} {y : MethodName} {yc : ByteArray} {yL : Nat} (hC : Ctr y yc yL none d' dn sp)
    (hl : Cond.methodLink own idx y ∈ lw_ok ∨ ∃ (host : String) (i9 : Nat), lw_tbl[i9]? = some (Cond.methodLinkNest own idx y host)) (hi : Cond.instanceMethod y ∈ lw_ok) (hini : Cond.initialized y.cls ∈ lw_ok) (hco : Cond.code y yc yL none ∈ lw_ok) (hyn : y.name = "<init>")
    (hd9 : y.cls ≠ "java/lang/invoke/MethodHandle" ∧ y.cls ≠ "java/lang/invoke/VarHandle" ∧ (parseMethodDescriptor y.desc).map (fun d => d.parameters.length) = some n) (hdd : d' < d) (hyL : yL ≤ 45)
    (hd : decode cc pc = .ok (.invokespecial idx, 3)) (hk : Sd (Gm p l e R s m args below meth c Q w nL n0 n1 x9) (pc + 3) K) : Sd (Gm p l e R s m args below meth c Q w nL n0 n1 x9) pc (w_callI (n + 1) dn n1 sp K) := by
  intro L st M hK
  obtain ⟨As, st', hlen, rfl, hle, hdn, hE9, hK⟩ := spl_spec _ _ _ _ hK
  rw [List.append_nil] at hK
  cases As with
  | nil => exact hK.elim
  | cons a0 As =>
    cases a0 with
    | ref a =>
      intro ls H locs hL hR hS hn
      obtain ⟨hr1, hr2, hr3, hr4, h01⟩ := hr
      have hM := hC l w _ M _ h.2.2.2.2.2.2.2 hK
      have hSm := SS_mono hdn
      have hS0 := SS_mono hn.1
      have hx0 := hn.2.2.2 hE9
      subst hx0
      have hS1' := SS_mono (Nat.le_add_right (gN M) dn)
      refine W_sz (fun hsz => ?_)
      rw [show List.map (tr w) ((Value.ref a :: As).reverse ++ st') = (As.map (tr w)).reverse ++ .ref (ad w a) :: st'.map (tr w) by simp [tr]]
      have hR9 : (rmD d' dn (SS (gN M + dn) - SS (gN M))).frames + 1 ≤ R.frames ∧ 8 + (yL + 11) + (rmD d' dn (SS (gN M + dn) - SS (gN M))).locals ≤ R.locals := ⟨by show d' + 1 ≤ R.frames; omega, by show 8 + (yL + 11) + 64 * d' ≤ R.locals; omega⟩
      have hp : PreS s H (Pcm w (Value.ref a :: As) M) (.ref (ad w a) :: As.map (tr w)) := ⟨Pcm_blind, fun U hU hW => Pcm_at h hR hS hn (fun _ => hsz) U hU hW⟩
      have hrest := sum_cat (st'.map (tr w)) 4 (by simpa using hle)
      have hlen' : (As.map (tr w)).length = n := by simpa using hlen
      have hf9 : gN M - n0 + dn ≤ R.cells ∧ SS (gN M) - SS n0 + (SS (gN M + dn) - SS (gN M)) ≤ R.slots := ⟨by omega, by omega⟩
      have hrun : va_Run p l e R s m args below meth c H locs (gN M - n0) (SS (gN M) - SS n0) dn (SS (gN M + dn) - SS (gN M)) (F0 m pc ls ((As.map (tr w)).reverse ++ .ref (ad w a) :: st'.map (tr w))) (st'.map (tr w)) (Qcm w (gN M + dn, gE M) (fun v M' => K L (v.toList ++ st') M') (Value.ref (ad w a) :: As.map (tr w)).toArray) (Aw w) := by
        rcases hl with hl | ⟨host, i9, hl⟩
        · exact va_runI (n := n) ⟨h.1, h.2.1, h.2.2.1, h.2.2.2.1, h.2.2.2.2.1⟩ hM (cwI n h.2.2.2.2.1 (lw_good hco) rfl rfl rfl (h.2.2.2.2.1 _ hini) (h.2.2.2.2.1 _ hl) (h.2.2.2.2.1 _ hi) hyn hd9 hR9) hp rfl hlen' hL.1 rfl (lv_room (by omega)) hd hf9
        · exact va_runIN (n := n) ⟨h.1, h.2.1, h.2.2.1, h.2.2.2.1, h.2.2.2.2.1⟩ hM ⟨va_cnB n h.2.2.2.2.1 (lw_good hco) rfl rfl rfl (va_Nw.warmM h.2.2.2.2.2.2.1.1 (va_Nw.of rfl (h.2.2.2.2.2.2.2.2.1 _ (List.mem_of_getElem? hl)))) (h.2.2.2.2.1 _ hini) hd9 hR9, hyn, h.2.2.2.2.1 _ hi⟩ hp rfl hlen' hL.1 rfl (lv_room (by omega)) hd hf9
      refine run_go hrun hS (fun v M' H1 locs1 hKv hN hR1 hS1 => ?_)
      have hN1 : gN M' = gN M + dn := congrArg Prod.fst hN
      have hE1 : gE M' = gE M := by
        show M'.1.2 = gE M
        rw [hN]
      have hg := hk _ _ _ hKv ls H1 locs1 hL hR1 hS1 (by rw [hN1, hE1]; exact ⟨by omega, hn.2.1, hdn, fun _ => rfl⟩)
      rw [hN1] at hg
      rw [show (v.map (tr w)).toList ++ st'.map (tr w) = (v.toList ++ st').map (tr w) by cases v <;> rfl, show gN M - n0 + 8 * 0 + dn = gN M + dn - n0 + 8 * 0 by omega, show SS (gN M) - SS n0 + 64 * 0 + (SS (gN M + dn) - SS (gN M)) = SS (gN M + dn) - SS n0 + 64 * 0 by omega]
      exact hg
    | _ => exact hK.elim
end NEWS
