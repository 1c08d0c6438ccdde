section RFACE1
section
variable {M M' : Mem} {K : RT} {s : SG} {Fr : Mem → Nat → (Nat → Nat → Int64) → Prop}
/-- an array is made anew -/
theorem RDc.areset {S : Nat → Nat → Prop} {v m : Nat} {k : Int32} {d : DS} {g : Nat → Int64} (hd : WD d) (hf : FrC S M M') (hS : ∀ a j, S a j → (624 ≤ a ∧ a ≤ 631) → ((a = 628 ∨ a = 629) ∧ j = v) ∨ ((a = 626 ∨ a = 627) ∧ 256 + 64 * v ≤ j ∧ j < 256 + 64 * v + 64)) (hv : v < 8) (h : RDc M d) (hk : gI M' 628 v = k) (hm : gI M' 629 v = nI m) (hg : ∀ j, j < m → VR k (gL M' 626 (256 + 64 * v + j)) (gD M' 627 (256 + 64 * v + j)) (g j)) : RDc M' (setRow d (2 * v + 1) k m g) := by
  obtain ⟨h1, h2, h3, h4⟩ := h
  have ne : ∀ a j, (624 ≤ a ∧ a ≤ 631) → ¬ (((a = 628 ∨ a = 629) ∧ j = v) ∨ ((a = 626 ∨ a = 627) ∧ 256 + 64 * v ≤ j ∧ j < 256 + 64 * v + 64)) → ¬ S a j := fun a j q q' z => q' (hS a j z q)
  refine ⟨fun u hu => ?_, fun u hu => ?_, fun m hm => ?_, fun k hk => ?_⟩
  · obtain ⟨a1, a2, a3⟩ := h1 u hu
    have hl : dn d (2 * u) ≤ 32 := by
      rcases (hd.1 (2 * u) (by omega)).1 with z | z
      · omega
      · exact (z.2.2 (by omega)).2
    show gI M' 624 u = up1 (dk d) (2 * v + 1) k (2 * u) ∧ gI M' 625 u = nI (up1 (dn d) (2 * v + 1) m (2 * u)) ∧ ∀ j, j < up1 (dn d) (2 * v + 1) m (2 * u) → VR (up1 (dk d) (2 * v + 1) k (2 * u)) _ _ (up1 (di d) (2 * v + 1) g (2 * u) j)
    unfold up1
    rw [if_neg (by omega), if_neg (by omega), if_neg (by omega), hf.i (ne _ _ (by omega) (by omega)), hf.i (ne _ _ (by omega) (by omega))]
    refine ⟨a1, a2, fun j hj => ?_⟩
    rw [hf.l (ne _ _ (by omega) (by omega)), hf.d (ne _ _ (by omega) (by omega))]
    exact a3 j hj
  · obtain ⟨a1, a2, a3⟩ := h2 u hu
    have hl := dn_le hd (j := 2 * u + 1) (by omega)
    show gI M' 628 u = up1 (dk d) (2 * v + 1) k (2 * u + 1) ∧ gI M' 629 u = nI (up1 (dn d) (2 * v + 1) m (2 * u + 1)) ∧ ∀ j, j < up1 (dn d) (2 * v + 1) m (2 * u + 1) → VR (up1 (dk d) (2 * v + 1) k (2 * u + 1)) _ _ (up1 (di d) (2 * v + 1) g (2 * u + 1) j)
    unfold up1
    by_cases e : u = v
    · subst e
      rw [if_pos rfl, if_pos rfl, if_pos rfl]
      exact ⟨hk, hm, hg⟩
    · rw [if_neg (by omega), if_neg (by omega), if_neg (by omega), hf.i (ne _ _ (by omega) (by omega)), hf.i (ne _ _ (by omega) (by omega))]
      refine ⟨a1, a2, fun j hj => ?_⟩
      rw [hf.l (ne _ _ (by omega) (by omega)), hf.d (ne _ _ (by omega) (by omega))]
      exact a3 j hj
  · rw [hf.i (ne _ _ (by omega) (by omega))]; exact h3 m hm
  · rw [hf.l (ne _ _ (by omega) (by omega))]; exact h4 k hk
theorem in7 {x : Int32} : P_X13_in x.toInt64 0 7 ↔ inI x 8 := in_N (by decide) rfl
theorem in64 {x : Int32} : P_X13_in x.toInt64 0 64 ↔ inI x 65 := in_N (by decide) rfl
theorem in63 {x : Int32} : P_X13_in x.toInt64 0 63 ↔ inI x 64 := in_N (by decide) rfl
theorem in1_ {x : Int32} : P_X13_in x.toInt64 0 1 ↔ inI x 2 := in_N (by decide) rfl
theorem in3 {x : Int32} : P_X13_in x.toInt64 0 3 ↔ inI x 4 := in_N (by decide) rfl
theorem isA_R {d : DS} {m : Int32} (h : RDc M d) : q_X13_isArray m M ∧ (P_X13_isArray m M ↔ isA d m) := by
  unfold q_X13_isArray P_X13_isArray isA
  rw [in7]
  refine ⟨fun z => vp_of z (by decide), ?_⟩
  refine and_congr_right (fun z => ?_)
  rw [cl_of z (by decide), (h.2.1 _ (inI_lt z)).1]
theorem isE_R {d : DS} {m i : Int32} (hd : WD d) (h : RDc M d) : q_X13_isElement m i M ∧ (P_X13_isElement m i M ↔ isE d m i) := by
  obtain ⟨q, p⟩ := isA_R (m := m) h
  unfold q_X13_isElement P_X13_isElement isE
  rw [p]
  refine ⟨⟨q, fun z => vp_of z.1 (by decide)⟩, and_congr_right (fun z => ?_)⟩
  have l8 := inI_lt z.1
  have := dn_le hd (j := 2 * iv m + 1) (by omega)
  rw [cl_of z.1 (by decide), (h.2.1 _ l8).2.1, in_L (by omega)]
theorem c_el13 {d : DS} (hW : Wf M) (hd : WD d) (hD : RDc M d) (h : K (some (.int (nI (elN d)))) M) : sp_X13_elements [.ref 605] M K := by
  refine wX13_elements hW (fun {G} hc => ?_)
  have loop : ∀ j i : Nat, i + j = 8 → G 4 [some (.ref 605), some (.int (nI (fb_sm (fun a => dn d (2 * a + 1)) i))), some (.int (nI i))] [] M := by
    intro j
    induction j with
    | zero =>
      intro i hi
      have hi : i = 8 := by omega
      subst hi
      exact eX13_elements_4 hc hW ⟨fun _ => h, fun z => absurd (by decide) z⟩
    | succ j ih =>
      intro i hi
      refine eX13_elements_4 hc hW ⟨fun z => absurd ((nI_leI (a := 8) (by decide) (by omega)).mp z) (by omega), fun _ => ?_⟩
      rw [nI_clamp (by omega), (hD.2.1 i (by omega)).2.1, nI_add, nI_1]
      exact ⟨vpN (by omega) (by decide), ih (i + 1) (by omega)⟩
  exact loop 8 0 rfl
theorem b_fault {what : Int32} (hFr : FrOK Fr) (hW : Wf M) (hI : RI Fr M s) (h : ∀ M', Wf M' → FrC rfS M M' → RI Fr M' s → gI M' 605 2 = 0 → K (some (.int (sFault what s))) M') : sp_X13_fault [.ref 605, .int what] M K := by
  refine c_X13_fault hW ?_
  have e : f_X13_fault what M = sFault what s := by
    unfold f_X13_fault sFault
    rw [hI.2.2.2.2.2.2.1, hI.2.2.2.2.2.2.2.1, hI.2.2.2.2.2.2.2.2]
  rw [e]
  exact h _ (thr0.wf hW) thr_rf (hI.t hFr) (by unfold m_X13_fault; rw [gI_uI, if_pos ⟨rfl, rfl⟩])
/-- cells of an array are emptied -/
theorem layFr {p : Nat} (hp : p < 768) : q_X13_lay (nI p) 0 FP.dconst0 ∧ m_X13_lay (nI p) 0 FP.dconst0 M = uD (uL M 626 p 0) 627 p FP.dconst0 := by
  unfold q_X13_lay m_X13_lay
  rw [nI_clamp (by omega)]
  exact ⟨⟨vpN hp (by decide), vpN hp (by decide)⟩, rfl⟩
theorem pl {a k : Nat} : (256 : Int32) + (64 : Int32) * nI a + nI k = nI (256 + 64 * a + k) := by rw [show (64 : Int32) = nI 64 from rfl, show (256 : Int32) = nI 256 from rfl, pk_mul, nI_add, nI_add]
theorem thr2 {S : Nat → Nat → Prop} {x : Int32} (hf : FrC S (uI M 605 2 x) M') (hS : ∀ a j, S a j → ¬ (a = 605 ∧ j = 2)) : gI M' 605 2 = x := by rw [hf.i (fun z => hS _ _ z ⟨rfl, rfl⟩), gI_uI, if_pos ⟨rfl, rfl⟩]
theorem b_memory {k n : Int32} (hFr : FrOK Fr) (hW : Wf M) (hI : RI Fr M s) (h : ∀ M', Wf M' → FrC rfS M M' → RI Fr M' (sMemory k n s).2 → gI M' 605 2 = 0 → K (some (.int (sMemory k n s).1)) M') : sp_X13_memory [.ref 605, .int k, .int n] M K := by
  obtain ⟨hD, hd⟩ := hI.dat
  have hW1 : Wf (uI M 605 2 0) := thr0.wf hW
  have hI1 := hI.t hFr (x := 0)
  have hD1 := hI1.dat.1
  have hel := hd.el
  have no : ¬ (inI k 7 ∧ inI n 65) → K (some (.int (-1 : Int32))) (uI M 605 2 0) := fun z => by
    unfold sMemory at h
    rw [iT_f z] at h
    exact h _ hW1 thr_rf hI1 (by rw [gI_uI, if_pos ⟨rfl, rfl⟩])
  refine wX13_memory hW (fun {G} hc => ?_)
  rw [in64, in_N (N := 7) (by decide) (show (6 : Int64).toInt = _ from rfl)]
  refine ⟨fun z => no (fun y => z y.1), fun hk => ⟨fun hn => ?_, fun z => no (fun y => z y.2)⟩⟩
  have hn65 := inI_lt hn
  have es : sMemory k n s = (if ffN (gD_ s) < 8 ∧ elN (gD_ s) + iv n ≤ 400 then (nI (ffN (gD_ s)), wDat s (setRow (gD_ s) (2 * ffN (gD_ s) + 1) k (iv n) (fun _ => 0))) else (-2, s)) := iT_t ⟨hk, hn⟩
  rw [es] at h
  obtain ⟨n1, n2, n3⟩ := ffN_spec (d := gD_ s)
  have bad : ¬ (ffN (gD_ s) < 8 ∧ elN (gD_ s) + iv n ≤ 400) → K (some (.int (-2 : Int32))) (uI M 605 2 0) := fun z => by
    rw [if_neg z] at h
    exact h _ hW1 thr_rf hI1 (by rw [gI_uI, if_pos ⟨rfl, rfl⟩])
  have go : ∀ o4 : Option Value, G 55 [some (.ref 605), some (.int k), some (.int n), some (.int (nI (ffN (gD_ s)))), o4] [] (uI M 605 2 0) := by
    intro o4
    refine eX13_memory_55 hc hW1 ⟨fun z => bad (fun y => ?_), fun z => ?_⟩
    · have := (nI_eq (a := ffN (gD_ s)) (b := 8) (by omega) (by decide)).mp z; omega
    · have n8 : ffN (gD_ s) < 8 := by
        rcases Nat.lt_or_ge (ffN (gD_ s)) 8 with y | y
        · exact y
        · exact absurd (by rw [show ffN (gD_ s) = 8 by omega]; rfl) z
      refine c_el13 hW1 hd hD1 (rX13_memory_61_1 hc hW1 ?_)
      have e1 : nI (elN (gD_ s)) + n = nI (elN (gD_ s) + iv n) := by
        conv => lhs; rw [inI_nI hn]
        exact nI_add _ _
      rw [e1, show (400 : Int32) = nI 400 from rfl, nI_leI (by omega) (by decide), nI_clamp (by omega)]
      refine ⟨fun y => ⟨vpN n8 (by decide), vpN n8 (by decide), ?_⟩, fun y => bad (fun w => y w.2)⟩
      rw [if_pos ⟨n8, y⟩] at h
      have f0 : FrC (fun a j => (a = 628 ∨ a = 629) ∧ j = ffN (gD_ s)) (uI M 605 2 0) (uI (uI (uI M 605 2 0) 628 (ffN (gD_ s)) k) 629 (ffN (gD_ s)) n) := (FrC_uI ⟨Or.inl rfl, rfl⟩).tr (FrC_uI ⟨Or.inr rfl, rfl⟩)
      have loop : ∀ f p : Nat, p + f = 64 → ∀ (M1 : Mem) (o1 o2 : Option Value), Wf M1 → FrC (fun a j => (a = 626 ∨ a = 627) ∧ 256 + 64 * ffN (gD_ s) ≤ j ∧ j < 256 + 64 * ffN (gD_ s) + 64) (uI (uI (uI M 605 2 0) 628 (ffN (gD_ s)) k) 629 (ffN (gD_ s)) n) M1 → (∀ i, i < p → gL M1 626 (256 + 64 * ffN (gD_ s) + i) = 0 ∧ gD M1 627 (256 + 64 * ffN (gD_ s) + i) = FP.dconst0) → G 93 [some (.ref 605), o1, o2, some (.int (nI (ffN (gD_ s)))), some (.int (nI p))] [] M1 := by
        intro f
        induction f with
        | zero =>
          intro p hp M1 o1 o2 hW2 f1 hz
          have hp : p = 64 := by omega
          subst hp
          refine eX13_memory_93 hc hW2 ⟨fun _ => ?_, fun z => absurd (by decide) z⟩
          have f2 : FrC (fun a j => a = 605 ∧ j = 59) M1 (uI M1 605 59 0) := FrC_uI ⟨rfl, rfl⟩
          have fx : FrC (fun a j => ((a = 628 ∨ a = 629) ∧ j = ffN (gD_ s)) ∨ ((a = 626 ∨ a = 627) ∧ 256 + 64 * ffN (gD_ s) ≤ j ∧ j < 256 + 64 * ffN (gD_ s) + 64) ∨ (a = 605 ∧ j = 59)) (uI M 605 2 0) (uI M1 605 59 0) := ((f0.mono (fun a j z => Or.inl z)).tr (f1.mono (fun a j z => Or.inr (Or.inl z)))).tr (f2.mono (fun a j z => Or.inr (Or.inr z)))
          have hDn : RDc (uI M1 605 59 0) (setRow (gD_ s) (2 * ffN (gD_ s) + 1) k (iv n) (fun _ => 0)) := by
            refine RDc.areset hd fx (fun a j z w => by omega) n8 hD1 ?_ ?_ (fun j hj => ?_)
            · rw [f2.i (by omega), f1.i (by omega), gI_uI, if_neg (by omega), gI_uI, if_pos ⟨rfl, rfl⟩]
            · rw [f2.i (by omega), f1.i (by omega), gI_uI, if_pos ⟨rfl, rfl⟩]; exact inI_nI hn
            · rw [f2.l (by omega), f2.d (by omega), (hz j (by omega)).1, (hz j (by omega)).2]; exact VR_0
          refine h _ (f2.wf hW2) (thr_rf.tr (fx.mono (fun a j z => by unfold rfS; omega))) (hI1.wdat hFr fx (fun a j z => by omega) hDn (hd.arr n8 (Or.inr ⟨isK_of hk, by omega⟩) (fun _ _ => zero_ok (isK_of hk)) (by omega)) (by rw [gI_uI, if_pos ⟨rfl, rfl⟩])) (thr2 fx (fun a j z => by omega))
        | succ f ih =>
          intro p hp M1 o1 o2 hW2 f1 hz
          refine eX13_memory_93 hc hW2 ⟨fun z => absurd ((nI_leI (a := 64) (by decide) (by omega)).mp z) (by omega), fun _ => ?_⟩
          obtain ⟨q1, q2⟩ := layFr (M := M1) (p := 256 + 64 * ffN (gD_ s) + p) (by omega)
          rw [pl, q2, nI_1]
          have f2 : FrC (fun a j => (a = 626 ∨ a = 627) ∧ j = 256 + 64 * ffN (gD_ s) + p) M1 (uD (uL M1 626 (256 + 64 * ffN (gD_ s) + p) 0) 627 (256 + 64 * ffN (gD_ s) + p) FP.dconst0) := (FrC_uL ⟨Or.inl rfl, rfl⟩).tr (FrC_uD ⟨Or.inr rfl, rfl⟩)
          refine ⟨q1, ih (p + 1) (by omega) _ _ _ (f2.wf hW2) (f1.tr (f2.mono (fun a j z => by omega))) (fun i hi => ?_)⟩
          by_cases e : i = p
          · subst e
            exact ⟨by show gL (uL M1 626 (256 + 64 * ffN (gD_ s) + i) 0) 626 _ = 0; rw [gL_uL, if_pos ⟨rfl, rfl⟩], by rw [gD_uD, if_pos ⟨rfl, rfl⟩]⟩
          · rw [f2.l (by omega), f2.d (by omega)]; exact hz i (by omega)
      exact loop 64 0 rfl _ _ _ (f0.wf hW1) FrC.rf (fun i hi => absurd hi (Nat.not_lt_zero i))
  have find : ∀ f p : Nat, p + f = 8 → p ≤ ffN (gD_ s) → ∀ o4 : Option Value, G 33 [some (.ref 605), some (.int k), some (.int n), some (.int (nI p)), o4] [] (uI M 605 2 0) := by
    intro f
    induction f with
    | zero =>
      intro p hp le o4
      have e : p = ffN (gD_ s) := by omega
      refine eX13_memory_33 hc hW1 ⟨fun _ => by rw [e]; exact go o4, fun z => absurd (by rw [show p = 8 by omega]; decide) z⟩
    | succ f ih =>
      intro p hp le o4
      refine eX13_memory_33 hc hW1 ⟨fun z => absurd ((nI_leI (a := 8) (by decide) (by omega)).mp z) (by omega), fun _ => ⟨vpN (by omega) (by decide), ?_⟩⟩
      rw [nI_clamp (by omega), (hD1.2.1 p (by omega)).1, nI_1]
      refine ⟨fun z => ?_, fun z => ih (p + 1) (by omega) ?_ o4⟩
      · have e : p = ffN (gD_ s) := by
          rcases Nat.lt_or_ge p (ffN (gD_ s)) with y | y
          · exact absurd z (n3 p y)
          · omega
        rw [e]; exact go o4
      · rcases Nat.lt_or_ge p (ffN (gD_ s)) with y | y
        · exact y
        · have e : p = ffN (gD_ s) := by omega
          rw [e] at z
          exact absurd (n2 (by omega)) z
  exact find 8 0 rfl (Nat.zero_le _) _
theorem b_free {m : Int32} (hFr : FrOK Fr) (hW : Wf M) (hI : RI Fr M s) (h : ∀ M', Wf M' → FrC rfS M M' → RI Fr M' (sFree m s).2 → gI M' 605 2 = 0 → K (some (.int (sFree m s).1)) M') : sp_X13_free [.ref 605, .int m] M K := by
  obtain ⟨hD, hd⟩ := hI.dat
  have hW1 : Wf (uI M 605 2 0) := thr0.wf hW
  have hI1 := hI.t hFr (x := 0)
  have hD1 := hI1.dat.1
  obtain ⟨q, p⟩ := isA_R (m := m) hD1
  unfold sFree at h
  refine c_X13_free hW ⟨q, ?_⟩ ?_
  · rw [p]; exact fun z => ⟨vp_of z.1 (by decide), vp_of z.1 (by decide)⟩
  · unfold P_X13_free m_X13_free
    rw [propext p]
    by_cases z : isA (gD_ s) m
    · rw [iT_t z] at h ⊢
      have l8 := inI_lt z.1
      have hel := hd.el
      have hle := WD.le_el (d := gD_ s) l8
      rw [pI_t z, cl_of z.1 (by decide)]
      have fx : FrC (fun a j => ((a = 628 ∨ a = 629) ∧ j = iv m) ∨ (a = 605 ∧ j = 59)) (uI M 605 2 0) (uI (uI (uI (uI M 605 2 0) 628 (iv m) (-1)) 629 (iv m) 0) 605 59 0) := ((FrC_uI (Or.inl ⟨Or.inl rfl, rfl⟩)).tr (FrC_uI (Or.inl ⟨Or.inr rfl, rfl⟩))).tr (FrC_uI (Or.inr ⟨rfl, rfl⟩))
      have hDn : RDc (uI (uI (uI (uI M 605 2 0) 628 (iv m) (-1)) 629 (iv m) 0) 605 59 0) (setRow (gD_ s) (2 * iv m + 1) (-1) 0 (di (gD_ s) (2 * iv m + 1))) := by
        refine RDc.areset hd fx (fun a j z w => by omega) l8 hD1 ?_ ?_ (fun j hj => absurd hj (Nat.not_lt_zero j))
        · rw [gI_uI, if_neg (by omega), gI_uI, if_neg (by omega), gI_uI, if_pos ⟨rfl, rfl⟩]
        · rw [gI_uI, if_neg (by omega), gI_uI, if_pos ⟨rfl, rfl⟩]; rfl
      exact h _ (fx.wf hW1) (thr_rf.tr (fx.mono (fun a j z => by unfold rfS; omega))) (hI1.wdat hFr fx (fun a j z => by omega) hDn (hd.arr l8 (Or.inl ⟨rfl, rfl⟩) (fun i hi => absurd hi (by omega)) (by omega)) (by rw [gI_uI, if_pos ⟨rfl, rfl⟩])) (thr2 fx (fun a j z => by omega))
    · rw [iT_f z] at h ⊢
      rw [pI_f z]
      exact h _ hW1 thr_rf hI1 (by rw [gI_uI, if_pos ⟨rfl, rfl⟩])
theorem b_resize {m n : Int32} (hFr : FrOK Fr) (hW : Wf M) (hI : RI Fr M s) (h : ∀ M', Wf M' → FrC rfS M M' → RI Fr M' (sResize m n s).2 → gI M' 605 2 = 0 → K (some (.int (sResize m n s).1)) M') : sp_X13_resize [.ref 605, .int m, .int n] M K := by
  obtain ⟨hD, hd⟩ := hI.dat
  have hW1 : Wf (uI M 605 2 0) := thr0.wf hW
  have hI1 := hI.t hFr (x := 0)
  have hD1 := hI1.dat.1
  have hel := hd.el
  obtain ⟨q, p⟩ := isA_R (m := m) hD1
  have no : ¬ (isA (gD_ s) m ∧ inI n 65) → K (some (.int (-1 : Int32))) (uI M 605 2 0) := fun z => by
    unfold sResize at h
    rw [iT_f z] at h
    exact h _ hW1 thr_rf hI1 (by rw [gI_uI, if_pos ⟨rfl, rfl⟩])
  refine wX13_resize hW (fun {G} hc => ?_)
  rw [in64, p]
  refine ⟨q, fun z => no (fun y => z y.1), fun z => ⟨fun hn => ?_, fun y => no (fun w => y w.2)⟩⟩
  have hn65 := inI_lt hn
  have l8 := inI_lt z.1
  have hle := WD.le_el (d := gD_ s) l8
  have hw := hd.1 (2 * iv m + 1) (by omega)
  have hk : isK (dk (gD_ s) (2 * iv m + 1)) := by
    rcases hw.1 with y | y
    · exact absurd y.1 z.2
    · exact y.1
  have d64 := dn_le hd (j := 2 * iv m + 1) (by omega)
  obtain ⟨a1, a2, a3⟩ := hD1.2.1 _ l8
  have es : sResize m n s = (if elN (gD_ s) - dn (gD_ s) (2 * iv m + 1) + iv n ≤ 400 then (nI (dn (gD_ s) (2 * iv m + 1)), wDat s (setRow (gD_ s) (2 * iv m + 1) (dk (gD_ s) (2 * iv m + 1)) (iv n) (fun i => if i < dn (gD_ s) (2 * iv m + 1) then di (gD_ s) (2 * iv m + 1) i else 0))) else (-2, s)) := iT_t ⟨z, hn⟩
  rw [es] at h
  refine c_el13 hW1 hd hD1 (rX13_resize_27_1 hc hW1 ?_)
  rw [cl_of z.1 (by decide), a2]
  have e1 : nI (elN (gD_ s)) - nI (dn (gD_ s) (2 * iv m + 1)) + n = nI (elN (gD_ s) - dn (gD_ s) (2 * iv m + 1) + iv n) := by
    conv => lhs; rw [inI_nI hn]
    rw [pk_sub hle, nI_add]
  rw [e1, show (400 : Int32) = nI 400 from rfl, nI_leI (by omega) (by decide)]
  refine ⟨vp_of z.1 (by decide), fun w => ⟨vp_of z.1 (by decide), ?_⟩, fun w => ?_⟩
  · rw [if_pos w] at h
    have loop : ∀ f p : Nat, p + f = 64 → ∀ (M1 : Mem), (∃ b, (b = dn (gD_ s) (2 * iv m + 1) ∨ b = iv n) ∧ b ≤ p ∧ (b = iv n → iv n ≤ dn (gD_ s) (2 * iv m + 1)) ∧ (∀ i, b ≤ i → i < p → gL M1 626 (256 + 64 * iv m + i) = 0 ∧ gD M1 627 (256 + 64 * iv m + i) = FP.dconst0) ∧ FrC (fun a j => (a = 626 ∨ a = 627) ∧ 256 + 64 * iv m + b ≤ j ∧ j < 256 + 64 * iv m + 64) (uI M 605 2 0) M1) → Wf M1 → G 68 [some (.ref 605), some (.int m), some (.int n), some (.int (nI (dn (gD_ s) (2 * iv m + 1)))), some (.int (nI p))] [] M1 := by
      intro f
      induction f with
      | zero =>
        intro p hp M1 ⟨b, b1, b2, b3, b4, f1⟩ hW2
        have hp : p = 64 := by omega
        subst hp
        refine eX13_resize_68 hc hW2 ⟨fun _ => ⟨vp_of z.1 (by decide), ?_⟩, fun z => absurd (by decide) z⟩
        rw [cl_of z.1 (by decide)]
        have f2 : FrC (fun a j => (a = 629 ∧ j = iv m) ∨ (a = 605 ∧ j = 59)) M1 (uI (uI M1 629 (iv m) n) 605 59 0) := (FrC_uI (Or.inl ⟨rfl, rfl⟩)).tr (FrC_uI (Or.inr ⟨rfl, rfl⟩))
        have fx : FrC (fun a j => ((a = 626 ∨ a = 627) ∧ 256 + 64 * iv m + b ≤ j ∧ j < 256 + 64 * iv m + 64) ∨ (a = 629 ∧ j = iv m) ∨ (a = 605 ∧ j = 59)) (uI M 605 2 0) (uI (uI M1 629 (iv m) n) 605 59 0) := (f1.mono (fun a j z => Or.inl z)).tr (f2.mono (fun a j z => Or.inr z))
        have hDn : RDc (uI (uI M1 629 (iv m) n) 605 59 0) (setRow (gD_ s) (2 * iv m + 1) (dk (gD_ s) (2 * iv m + 1)) (iv n) (fun i => if i < dn (gD_ s) (2 * iv m + 1) then di (gD_ s) (2 * iv m + 1) i else 0)) := by
          refine RDc.areset hd fx (fun a j z w => by omega) l8 hD1 ?_ ?_ (fun j hj => ?_)
          · rw [fx.i (by omega)]; exact a1
          · rw [gI_uI, if_neg (by omega), gI_uI, if_pos ⟨rfl, rfl⟩]; exact inI_nI hn
          · rw [f2.l (by omega), f2.d (by omega)]
            show VR _ _ _ (if j < dn (gD_ s) (2 * iv m + 1) then di (gD_ s) (2 * iv m + 1) j else 0)
            by_cases y : j < dn (gD_ s) (2 * iv m + 1)
            · rw [if_pos y, f1.l (by omega), f1.d (by omega)]; exact a3 j y
            · rw [if_neg y, (b4 j (by omega) (by omega)).1, (b4 j (by omega) (by omega)).2]; exact VR_0
        refine h _ (f2.wf hW2) (thr_rf.tr (fx.mono (fun a j z => by unfold rfS; omega))) (hI1.wdat hFr fx (fun a j z => by omega) hDn (hd.arr l8 (Or.inr ⟨hk, by omega⟩) (fun i hi => ?_) (by omega)) (by rw [gI_uI, if_pos ⟨rfl, rfl⟩])) (thr2 fx (fun a j z => by omega))
        show okJ _ (if i < dn (gD_ s) (2 * iv m + 1) then di (gD_ s) (2 * iv m + 1) i else 0)
        split
        · rename_i y; exact hw.2 i y
        · exact zero_ok hk
      | succ f ih =>
        intro p hp M1 ⟨b, b1, b2, b3, b4, f1⟩ hW2
        refine eX13_resize_68 hc hW2 ⟨fun z => absurd ((nI_leI (a := 64) (by decide) (by omega)).mp z) (by omega), fun _ => ?_⟩
        obtain ⟨q1, q2⟩ := layFr (M := M1) (p := 256 + 64 * iv m + p) (by omega)
        have ep : (256 : Int32) + (64 : Int32) * m + nI p = nI (256 + 64 * iv m + p) := by
          conv => lhs; rw [inI_nI z.1]
          exact pl
        rw [ep, q2, nI_1]
        have f2 : FrC (fun a j => (a = 626 ∨ a = 627) ∧ j = 256 + 64 * iv m + p) M1 (uD (uL M1 626 (256 + 64 * iv m + p) 0) 627 (256 + 64 * iv m + p) FP.dconst0) := (FrC_uL ⟨Or.inl rfl, rfl⟩).tr (FrC_uD ⟨Or.inr rfl, rfl⟩)
        refine ⟨q1, ih (p + 1) (by omega) _ ⟨b, b1, by omega, b3, fun i i1 i2 => ?_, f1.tr (f2.mono (fun a j z => by omega))⟩ (f2.wf hW2)⟩
        by_cases e : i = p
        · subst e
          exact ⟨by show gL (uL M1 626 (256 + 64 * iv m + i) 0) 626 _ = 0; rw [gL_uL, if_pos ⟨rfl, rfl⟩], by rw [gD_uD, if_pos ⟨rfl, rfl⟩]⟩
        · rw [f2.l (by omega), f2.d (by omega)]; exact b4 i i1 (by omega)
    have hle2 : nI (dn (gD_ s) (2 * iv m + 1)) ≤ n ↔ dn (gD_ s) (2 * iv m + 1) ≤ iv n := by
      conv => lhs; rw [inI_nI hn]
      exact nI_leI (by omega) (by omega)
    rw [hle2]
    refine ⟨fun y => loop (64 - dn (gD_ s) (2 * iv m + 1)) _ (by omega) _ ⟨dn (gD_ s) (2 * iv m + 1), Or.inl rfl, Nat.le_refl _, fun e => by omega, fun i i1 i2 => absurd i1 (by omega), FrC.rf⟩ hW1, fun y => ?_⟩
    have hh := loop (64 - iv n) (iv n) (by omega) _ ⟨iv n, Or.inr rfl, Nat.le_refl _, fun _ => by omega, fun i i1 i2 => absurd i1 (by omega), FrC.rf⟩ hW1
    rw [← inI_nI hn] at hh
    exact hh
  · rw [if_neg w] at h
    exact h _ hW1 thr_rf hI1 (by rw [gI_uI, if_pos ⟨rfl, rfl⟩])
end
end RFACE1
