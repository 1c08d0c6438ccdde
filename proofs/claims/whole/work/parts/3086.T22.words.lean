section WORDS2
section
variable {M M' : Mem} {K : RT} {t : Nat → Nat} {n : Nat} {x : TK}
theorem all_i {l : Nat} {P : Nat → Prop} [DecidablePred P] : (List.range l).all (fun i => decide (P i)) = true ↔ ∀ i, i < l → P i := by
  rw [List.all_eq_true]
  exact ⟨fun h i hi => of_decide_eq_true (h i (List.mem_range.mpr hi)), fun h i hi => decide_eq_true (h i (List.mem_range.mp hi))⟩
theorem wdM_i {l : List Nat} : wdM t x l = true ↔ l.length = eT x - sT x ∧ ∀ i, i < l.length → t (sT x + i) = l.getD i 0 := by
  unfold wdM
  rw [Bool.and_eq_true, decide_eq_true_iff, all_i]
theorem c_isToken {a : Nat} (hW : Wf M) (hT : RdT M t n) (hx : TkOK t n x) (hr : TkR x M) (ha : isTx a) (h : K (some (.int (pI (wdM t x (tI a) = true)))) M) : sp_X7_isToken [.ref 1, .ref a] M K := by
  have hn := hT.1
  have hlen := tI_len ha
  have hxe := hx.2.1
  rw [wdM_i] at h
  have no : ¬ ((tI a).length = eT x - sT x ∧ ∀ i, i < (tI a).length → t (sT x + i) = (tI a).getD i 0) → K (some (.int (0 : Int32))) M := fun z => by rw [pI_f z] at h; exact h
  refine wX7_isToken hW ha (fun {G} hc => ?_)
  rw [c_len ha, tk_len hT hx hr, nI_eq (by omega) (by omega)]
  refine ⟨fun z => ?_, fun z => no (fun y => z y.1)⟩
  have loop : ∀ j i : Nat, i + j = (tI a).length → (∀ q, q < i → t (sT x + q) = (tI a).getD q 0) → G 20 [some (.ref 1), some (.ref a), some (.int (nI i))] [] M := by
    intro j
    induction j with
    | zero =>
      intro i hi hs
      refine eX7_isToken_20 hc hW ha ?_
      rw [c_len ha]
      refine ⟨fun _ => ?_, fun y => absurd (nI_le (by omega) (by omega)) y⟩
      rw [pI_t ⟨z, fun q hq => hs q (by omega)⟩] at h
      exact h
    | succ j ih =>
      intro i hi hs
      refine eX7_isToken_20 hc hW ha ?_
      rw [c_len ha]
      obtain ⟨b1, b2, b3⟩ := tk_byte (i := sT x + i) hT (by omega)
      have hlt := tI_lt ha (i := i)
      refine ⟨fun y => absurd ((nI_leI (by omega) (by omega)).mp y) (by omega), fun _ => c_charAt hW ha (by omega) (rX7_isToken_28_2 hc hW ha ?_)⟩
      rw [hr.2.2.1, nI_add, b2, nI_eq (by omega) (by omega), nI_1]
      refine ⟨b1, fun y => ih (i + 1) (by omega) (fun q hq => ?_), fun y => no (fun w => y (w.2 i (by omega)).symm)⟩
      by_cases w : q = i
      · rw [w]; exact y.symm
      · exact hs q (by omega)
  exact loop _ 0 (Nat.zero_add _) (fun q hq => absurd hq (by omega))
theorem c_wordNo (hW : Wf M) (hT : RdT M t n) (hx : TkOK t n x) (hr : TkR x M) (h : K (some (.int (if woN t x < 68 then nI (woN t x) else -1))) M) : sp_X7_numberOfWord [.ref 1] M K := by
  refine wX7_numberOfWord hW (fun {G} hc => ?_)
  have loop : ∀ j o : Nat, o + j = 68 → woF t x j o = woN t x → G 2 [some (.ref 1), some (.int (nI o))] [] M := by
    intro j
    induction j with
    | zero =>
      intro o ho e
      have : o = 68 := by omega
      subst this
      have e : 68 = woN t x := e
      rw [← e, if_neg (by decide)] at h
      exact eX7_numberOfWord_2 hc hW ⟨fun _ => h, fun q => absurd (by decide) q⟩
    | succ j ih =>
      intro o ho e
      refine eX7_numberOfWord_2 hc hW ⟨fun q => absurd ((nI_leI (a := 68) (by decide) (by omega)).mp q) (by omega), fun _ => ⟨vpN (by omega) (by decide), ?_⟩⟩
      rw [nI_clamp (by omega), op_c]
      have tx := wTx (isOp_n (o := o) (by omega))
      rw [op_c] at tx
      refine c_isToken hW hT hx hr tx (rX7_numberOfWord_10_5 hc hW ?_)
      have e1 : woF t x (j + 1) o = if wdM t x (wdL o) = true then o else woF t x j (o + 1) := rfl
      rw [e1] at e
      by_cases z : wdM t x (tI (100200 + wIx.getD o 0)) = true
      · rw [pI_t z]
        have z : wdM t x (wdL o) = true := z
        rw [if_pos z] at e
        rw [← e, if_pos (by omega)] at h
        exact ⟨fun y => absurd y (by decide), fun _ => h⟩
      · rw [pI_f z]
        have z : ¬ wdM t x (wdL o) = true := z
        rw [if_neg z] at e
        refine ⟨fun _ => ?_, fun y => absurd rfl y⟩
        rw [nI_1]
        exact ih (o + 1) (by omega) e
  exact loop 68 0 rfl rfl
theorem wd_at {a i : Nat} (hT : RdT M t n) (ha : a < n) (hi : a + i ≤ scF t n isWd a) : q_X7_byteAt (nI (a + i)) M ∧ (P_X7_isOfWord (f_X7_byteAt (nI (a + i)) M) ↔ a + i < scF t n isWd a) ∧ (a + i < scF t n isWd a → f_X7_byteAt (nI (a + i)) M = nI (t (a + i)) ∧ t (a + i) < 256) := by
  have hn := hT.1
  have hle := scF_le t n isWd (p := a) (by omega)
  obtain ⟨q, e⟩ := byte_f (i := a + i) hT (by omega)
  refine ⟨q, ?_, fun z => ?_⟩
  · rw [e]
    by_cases z : a + i < n
    · rw [if_pos z, isWd_P (by have := (hT.2.2 _ z).2; omega)]
      refine ⟨fun y => ?_, fun y => (scF_in t n isWd (p := a) (by omega) y).2⟩
      rcases Nat.lt_or_ge (a + i) (scF t n isWd a) with w | w
      · exact w
      · have hs := (scF_spec t n isWd _ a rfl).2.2.2
        have : scF t n isWd a = a + i := by omega
        rw [this] at hs
        exact absurd ⟨z, y⟩ hs
    · rw [if_neg z]
      refine ⟨fun y => ?_, fun y => by omega⟩
      exact absurd y (fun w => w.elim no_let.1 no_let.2)
  · rw [e, if_pos (by omega)]
    exact ⟨rfl, (hT.2.2 _ (by omega)).2⟩
theorem likW_i {a b : Nat} : likW t n a b = true ↔ scF t n isWd a - a = scF t n isWd b - b ∧ ∀ i, i < scF t n isWd a - a → t (a + i) = t (b + i) := by
  unfold likW
  rw [Bool.and_eq_true, decide_eq_true_iff, all_i]
theorem c_sameWord {a b : Nat} (hW : Wf M) (hT : RdT M t n) (ha : a < n ∧ scF t n isWd a - a ≤ 12) (hb : b < n ∧ scF t n isWd b - b ≤ 12) (h : K (some (.int (pI (likW t n a b = true)))) M) : sp_X7_isSameWord [.ref 1, .int (nI a), .int (nI b)] M K := by
  have hn := hT.1
  rw [likW_i] at h
  have ga := scF_ge t n isWd a
  have gb := scF_ge t n isWd b
  have no : ¬ (scF t n isWd a - a = scF t n isWd b - b ∧ ∀ i, i < scF t n isWd a - a → t (a + i) = t (b + i)) → K (some (.int (0 : Int32))) M := fun z => by rw [pI_f z] at h; exact h
  refine wX7_isSameWord hW (fun {G} hc => ?_)
  have loop : ∀ j i : Nat, i + j = 13 → a + i ≤ scF t n isWd a → b + i ≤ scF t n isWd b → (∀ q, q < i → t (a + q) = t (b + q)) → ∀ o4 o5, G 2 [some (.ref 1), some (.int (nI a)), some (.int (nI b)), some (.int (nI i)), o4, o5] [] M := by
    intro j
    induction j with
    | zero => intro i hi h1 h2; omega
    | succ j ih =>
      intro i hi h1 h2 hs o4 o5
      obtain ⟨a1, a2, a3⟩ := wd_at hT ha.1 h1
      obtain ⟨b1, b2, b3⟩ := wd_at hT hb.1 h2
      refine eX7_isSameWord_2 hc hW ⟨fun z => absurd ((nI_ltI (a := 12) (by decide) (by omega)).mp z) (by omega), fun _ => ?_⟩
      rw [nI_add, nI_add, a2, b2]
      have go : a + i < scF t n isWd a → b + i < scF t n isWd b → f_X7_byteAt (nI (a + i)) M = f_X7_byteAt (nI (b + i)) M → G 2 [some (.ref 1), some (.int (nI a)), some (.int (nI b)), some (.int (nI i + (1 : Int32))), some (.int (f_X7_byteAt (nI (a + i)) M)), some (.int (f_X7_byteAt (nI (b + i)) M))] [] M := fun z1 z2 e => by
        obtain ⟨e1, l1⟩ := a3 z1
        obtain ⟨e2, l2⟩ := b3 z2
        have et : t (a + i) = t (b + i) := (nI_eq (by omega) (by omega)).mp (by rw [← e1, ← e2]; exact e)
        rw [nI_1]
        refine ih (i + 1) (by omega) (by omega) (by omega) (fun q hq => ?_) _ _
        by_cases w : q = i
        · rw [w]; exact et
        · exact hs q (by omega)
      have ne : a + i < scF t n isWd a → b + i < scF t n isWd b → ¬ f_X7_byteAt (nI (a + i)) M = f_X7_byteAt (nI (b + i)) M → K (some (.int (0 : Int32))) M := fun z1 z2 e => no (fun w => e (by
        rw [(a3 z1).1, (b3 z2).1, w.2 i (by omega)]))
      refine ⟨a1, b1, fun z1 => ⟨fun e => ?_, fun e => ?_⟩, fun z1 => ⟨fun z2 => ⟨fun e => ?_, fun e => no (fun w => by omega)⟩, fun z2 => ?_⟩⟩
      · have z2 : b + i < scF t n isWd b := b2.mp (by rw [← e]; exact a2.mpr z1)
        exact go z1 z2 e
      · by_cases z2 : b + i < scF t n isWd b
        · exact ne z1 z2 e
        · exact no (fun w => by omega)
      · exact absurd (a2.mp (by rw [e]; exact b2.mpr z2)) z1
      · rw [pI_t ⟨by omega, fun q hq => hs q (by omega)⟩] at h
        exact h
  exact loop 13 0 rfl (by omega) (by omega) (fun q hq => absurd hq (by omega)) _ _
def LbM (M : Mem) (t : Nat → Nat) (n : Nat) (st : PS) : Prop := gI M 1 8 = nI (pB st) ∧ pB st ≤ 40 ∧ ∀ l, l < pB st → (gI M 5 l = nI (pF st l) ∧ gI M 6 l = nI (pA st l)) ∧ pF st l < n ∧ scF t n isWd (pF st l) - pF st l ≤ 12
theorem c_labelLike {p : Nat} {st : PS} (hW : Wf M) (hT : RdT M t n) (hL : LbM M t n st) (hp : p < n ∧ scF t n isWd p - p ≤ 12) (h : K (some (.int (match lkS t n (pB st) (pF st) p with | none => -1 | some l => nI l))) M) : sp_X7_labelLike [.ref 1, .int (nI p)] M K := by
  obtain ⟨h8, h40, hl⟩ := hL
  unfold lkS at h
  refine wX7_labelLike hW (fun {G} hc => ?_)
  have loop : ∀ j l : Nat, l + j = pB st → lkF t n (pF st) p j l = lkF t n (pF st) p (pB st) 0 → G 2 [some (.ref 1), some (.int (nI p)), some (.int (nI l))] [] M := by
    intro j
    induction j with
    | zero =>
      intro l hl2 e
      have e : none = lkF t n (pF st) p (pB st) 0 := e
      rw [← e] at h
      refine eX7_labelLike_2 hc hW ?_
      rw [h8]
      exact ⟨fun _ => h, fun z => absurd (nI_le (by omega) (by omega)) z⟩
    | succ j ih =>
      intro l hl2 e
      obtain ⟨⟨l1, l2⟩, l3, l4⟩ := hl l (by omega)
      have hn := hT.1
      refine eX7_labelLike_2 hc hW ?_
      rw [h8, nI_clamp (by omega), l1]
      refine ⟨fun z => absurd ((nI_leI (by omega) (by omega)).mp z) (by omega), fun _ => ⟨vpN (by omega) (by decide), c_sameWord hW hT ⟨l3, l4⟩ hp (rX7_labelLike_10_6 hc hW ?_)⟩⟩
      have e1 : lkF t n (pF st) p (j + 1) l = if likW t n (pF st l) p = true then some l else lkF t n (pF st) p j (l + 1) := rfl
      rw [e1] at e
      by_cases z : likW t n (pF st l) p = true
      · rw [pI_t z]
        rw [if_pos z] at e
        rw [← e] at h
        exact ⟨fun y => absurd y (by decide), fun _ => h⟩
      · rw [pI_f z]
        rw [if_neg z] at e
        refine ⟨fun _ => ?_, fun y => absurd rfl y⟩
        rw [nI_1]
        exact ih (l + 1) (by omega) e
  exact loop _ 0 (by omega) rfl
theorem c_colon {e : Nat} (hW : Wf M) (hT : RdT M t n) (he : e ≤ n) (h4 : gI M 1 4 = nI e) (h : K (some (.int (pI (bN t n (scF t n isBl e) = 58)))) M) : sp_X7_isColonNext [.ref 1] M K := by
  have hn := hT.1
  refine wX7_isColonNext hW (fun {G} hc => ?_)
  rw [h4]
  have loop : ∀ k q : Nat, n - q = k → q ≤ n → scF t n isBl q = scF t n isBl e → G 5 [some (.ref 1), some (.int (nI q))] [] M := by
    intro k
    induction k with
    | zero =>
      intro q hk hq es
      obtain ⟨b1, b2⟩ := byte_f (i := q) hT (by omega)
      have e2 : scF t n isBl q = q := scF_n t n _ (fun z => by omega)
      rw [if_neg (by omega)] at b2
      rw [← es, e2] at h
      have : bN t n q = 256 := if_neg (by omega)
      rw [this, pI_f (by decide)] at h
      refine eX7_isColonNext_5 hc hW ?_
      rw [hT.2.1, b2]
      exact ⟨fun _ => ⟨b1, fun _ => h, fun z => absurd z (by decide)⟩, fun z => absurd (nI_le (by omega) (by omega)) z⟩
    | succ k ih =>
      intro q hk hq es
      obtain ⟨b1, b2, b3⟩ := tk_byte (i := q) hT (by omega)
      refine eX7_isColonNext_5 hc hW ?_
      rw [hT.2.1, b2, nI_clamp (by omega), (hT.2.2 q (by omega)).1]
      have e32 : nI (t q) = 32 ↔ t q = 32 := nI_eq (b := 32) (by omega) (by decide)
      have e58 : nI (t q) = 58 ↔ t q = 58 := nI_eq (b := 58) (by omega) (by decide)
      rw [e32, e58, nI_1]
      refine ⟨fun z => absurd ((nI_leI (by omega) (by omega)).mp z) (by omega), fun _ => ⟨vpN (by omega) (by decide), fun z => ⟨b1, ?_⟩, fun z => ih (q + 1) (by omega) (by omega) (by rw [← es, scF_t t n _ (by omega) (isBl_i.mpr z)])⟩⟩
      have e2 : scF t n isBl q = q := scF_n t n _ (fun y => z (isBl_i.mp y.2))
      rw [← es, e2] at h
      have : bN t n q = t q := if_pos (by omega)
      rw [this] at h
      exact ⟨fun y => by rw [pI_f y] at h; exact h, fun y => by rw [pI_t y] at h; exact h⟩
  exact loop _ e rfl he rfl
/-- an instruction's rows, as the reader's program has them -/
def PgM (M : Mem) (d : Nat) (c : Nat → Nat → Int64) : Prop := d ≤ 100 ∧ gI M 2 0 = nI d ∧ ∀ i, i < d → ∀ w, w < 6 → gL M 3 (i * 6 + w) = c i w
/-- one more label -/
def lbP (st : PS) (p : Nat) : PS := (pD st, pC st, pB st + 1, up1 (pF st) (pB st) p, up1 (pA st) (pB st) (pD st))
theorem c_addLabel {st : PS} (hW : Wf M) (hT : RdT M t n) (hx : TkOK t n x) (hr : TkR x M) (hk : kT x = 119) (hP : PgM M (pD st) (pC st)) (hL : LbM M t n st)
    (h : eT x - sT x ≤ 12 ∧ pB st ≠ 40 ∧ lkS t n (pB st) (pF st) (sT x) = none → ∀ M', Wf M' → Mo (fun b => b = 1 ∨ b = 5 ∨ b = 6) M M' → (∀ j, j ≠ 8 → gI M' 1 j = gI M 1 j) → LbM M' t n (lbP st (sT x)) → K (some (.int (1 : Int32))) M')
    (h0 : ¬ (eT x - sT x ≤ 12 ∧ pB st ≠ 40 ∧ lkS t n (pB st) (pF st) (sT x) = none) → K (some (.int (0 : Int32))) M) : sp_X7_addLabel [.ref 1] M K := by
  have hn := hT.1
  have hL0 := hL
  obtain ⟨h8, h40, hl⟩ := hL
  obtain ⟨w1, w2, w3⟩ := hx.2.2.1 hk
  have hxe := hx.2.1
  refine wX7_addLabel hW (fun {G} hc => ?_)
  rw [tk_len hT hx hr, show (12 : Int32) = nI 12 from rfl, nI_ltI (by omega) (by omega), h8, show (40 : Int32) = nI 40 from rfl, nI_eq (by omega) (by omega), hr.2.2.1]
  refine ⟨fun z => h0 (fun y => by omega), fun z1 => ⟨fun z => h0 (fun y => y.2.1 z), fun z2 => c_labelLike hW hT hL0 ⟨w1, by rw [← w2]; omega⟩ (rX7_addLabel_23_3 hc hW ?_)⟩⟩
  cases hk : lkS t n (pB st) (pF st) (sT x) with
  | some l =>
    have := lkF_lt _ _ hk
    exact ⟨fun z => absurd z (nI_pos (by omega)), fun _ => h0 (fun y => by rw [y.2.2] at hk; exact absurd hk (by simp))⟩
  | none =>
    refine ⟨fun _ => ?_, fun z => absurd (by decide) z⟩
    rw [h8, nI_clamp (by omega), hP.2.1, hr.2.2.1, nI_1]
    refine ⟨vpN (by omega) (by decide), vpN (by omega) (by decide), h ⟨by omega, z2, hk⟩ _ (Wf_uI (Wf_uI (Wf_uI hW))) (((Mo_uI (Or.inr (Or.inl rfl))).tr (Mo_uI (Or.inr (Or.inr rfl)))).tr (Mo_uI (Or.inl rfl))) (fun j hj => ?_) ⟨?_, by show pB st + 1 ≤ 40; omega, fun l hl2 => ?_⟩⟩
    · rw [rI_k hj]
      have : ∀ (M : Mem) (a k : Nat) (y : Int32), a ≠ 1 → gI (uI M a k y) 1 j = gI M 1 j := fun M a k y ha => (Mo_uI (S := fun b => b = a) (M := M) (a := a) (k := k) (x := y) rfl).I (fun z => ha z.symm)
      rw [this _ _ _ _ (by decide), this _ _ _ _ (by decide)]
    · exact rI_eq
    · have hl2 : l < pB st + 1 := hl2
      have e : ∀ a, a = 5 ∨ a = 6 → ∀ (M : Mem) (k : Nat) (y : Int32), gI (uI M 1 k y) a l = gI M a l := fun a ha M k y => (Mo_uI (S := fun b => b = 1) (M := M) (a := 1) (k := k) (x := y) rfl).I (fun z => by have z : a = 1 := z; omega)
      have e5 : ∀ (M : Mem) (k : Nat) (y : Int32), gI (uI M 6 k y) 5 l = gI M 5 l := fun M k y => (Mo_uI (S := fun b => b = 6) (M := M) (a := 6) (k := k) (x := y) rfl).I (by decide)
      have e6 : ∀ (M : Mem) (k : Nat) (y : Int32), gI (uI M 5 k y) 6 l = gI M 6 l := fun M k y => (Mo_uI (S := fun b => b = 5) (M := M) (a := 5) (k := k) (x := y) rfl).I (by decide)
      rw [e 5 (Or.inl rfl), e 6 (Or.inr rfl), e5]
      show (_ = nI (up1 (pF st) (pB st) (sT x) l) ∧ _ = nI (up1 (pA st) (pB st) (pD st) l)) ∧ up1 (pF st) (pB st) (sT x) l < n ∧ scF t n isWd (up1 (pF st) (pB st) (sT x) l) - up1 (pF st) (pB st) (sT x) l ≤ 12
      by_cases z : l = pB st
      · subst z
        rw [rI_eq, rI_eq, up1_eq, up1_eq]
        exact ⟨⟨rfl, rfl⟩, w1, by rw [← w2]; omega⟩
      · rw [rI_k z, rI_k z, up1_ne z, up1_ne z, e6]
        exact hl l (by omega)
end
end WORDS2
