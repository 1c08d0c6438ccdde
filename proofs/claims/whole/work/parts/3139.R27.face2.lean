section RFACE2
section
variable {M M' : Mem} {K : RT} {s : SG} {Fr : Mem → Nat → (Nat → Nat → Int64) → Prop}
theorem in_M {x : Int32} {N : Nat} (hN : N < 2 ^ 31) : P_X13_in x.toInt64 0 (nI N - (1 : Int32)).toInt64 ↔ inI x N := by
  refine in_N hN ?_
  rw [Int32.toInt_toInt64, Int32.toInt_sub, nI_toInt hN, show (1 : Int32).toInt = 1 from rfl]
  exact Int.bmod_eq_of_le (by omega) (by omega)
theorem b_poke {m i : Int32} {v : Int64} (hFr : FrOK Fr) (hW : Wf M) (hI : RI Fr M s) (h : ∀ M', Wf M' → FrC rfS M M' → RI Fr M' (sPoke m i v s).2 → gI M' 605 2 = 0 → K (some (.int (sPoke m i v s).1)) M') : sp_X13_poke [.ref 605, .int m, .int i, .long v] M K := by
  obtain ⟨hD, hd⟩ := hI.dat
  have hW1 : Wf (uI M 605 2 0) := thr0.wf hW
  have hI1 := hI.t hFr (x := 0)
  have hD1 := hI1.dat.1
  unfold sPoke at h
  refine wX13_poke hW (fun {G} hc => ?_)
  obtain ⟨q, p⟩ := isE_R (m := m) (i := i) hd hD1
  rw [p]
  refine ⟨q, fun z => ⟨vp_of z.1.1 (by decide), ?_⟩, fun z => ?_⟩
  · rw [iT_t z] at h
    have l8 := inI_lt z.1.1
    have hw := hd.1 (2 * iv m + 1) (by omega)
    have hk : isK (dk (gD_ s) (2 * iv m + 1)) := hw.1.elim (fun y => absurd y.1 z.1.2) (fun y => y.1)
    have d64 := dn_le hd (j := 2 * iv m + 1) (by omega)
    have hi := inI_lt z.2
    obtain ⟨a1, a2, a3⟩ := hD1.2.1 _ l8
    have ep : (256 : Int32) + (64 : Int32) * m + i = nI (256 + 64 * iv m + iv i) := by
      conv => lhs; rw [inI_nI z.1.1, inI_nI z.2]
      exact pl
    rw [ep, cl_of z.1.1 (by decide), (hD.2.1 _ l8).1]
    refine c_put13 hW1 hk (by omega) (fun W X hv => rX13_poke_16_13 hc ((FrC_uL (S := fun _ _ => True) trivial).tr (FrC_uD trivial) |>.wf hW1) ?_)
    have fx : FrC (fun a j => ((a = 626 ∨ a = 627) ∧ j = 256 + 64 * iv m + iv i) ∨ (a = 605 ∧ j = 59)) (uI M 605 2 0) (uI (uD (uL (uI M 605 2 0) 626 (256 + 64 * iv m + iv i) W) 627 (256 + 64 * iv m + iv i) X) 605 59 0) := ((FrC_uL (Or.inl ⟨Or.inl rfl, rfl⟩)).tr (FrC_uD (Or.inl ⟨Or.inr rfl, rfl⟩))).tr (FrC_uI (Or.inr ⟨rfl, rfl⟩))
    have hDn : RDc (uI (uD (uL (uI M 605 2 0) 626 (256 + 64 * iv m + iv i) W) 627 (256 + 64 * iv m + iv i) X) 605 59 0) (setIt (gD_ s) (2 * iv m + 1) (up1 (di (gD_ s) (2 * iv m + 1)) (iv i) (putJ (dk (gD_ s) (2 * iv m + 1)) v))) := by
      refine RDc.arr hd fx (fun a j z w => by omega) l8 hD1 (fun j hj => ?_)
      by_cases e : j = iv i
      · subst e
        rw [up1_eq]
        show VR _ (gL (uL (uI M 605 2 0) 626 (256 + 64 * iv m + iv i) W) 626 _) (gD (uD (uL (uI M 605 2 0) 626 (256 + 64 * iv m + iv i) W) 627 (256 + 64 * iv m + iv i) X) 627 _) _
        rw [gL_uL, if_pos ⟨rfl, rfl⟩, gD_uD, if_pos ⟨rfl, rfl⟩]
        exact hv
      · rw [up1_ne e, fx.l (by omega), fx.d (by omega)]
        exact a3 j hj
    refine h _ (fx.wf hW1) (thr_rf.tr (fx.mono (fun a j z => by unfold rfS; omega))) (hI1.wdat hFr fx (fun a j z => by omega) hDn (hd.it (fun k hk1 => ?_)) (by rw [gI_uI, if_pos ⟨rfl, rfl⟩])) (thr2 fx (fun a j z => by omega))
    show okJ _ (up1 _ _ _ k)
    by_cases y : k = iv i
    · subst y; rw [up1_eq]; exact putJ_ok v
    · rw [up1_ne y]; exact hw.2 k hk1
  · rw [iT_f z] at h
    exact h _ hW1 thr_rf hI1 (by rw [gI_uI, if_pos ⟨rfl, rfl⟩])
/-- only thrown is other -/
theorem RI.end0 (hFr : FrOK Fr) (hW : Wf M) (hI : RI Fr M s) {x : Int32} : Wf (uI M 605 2 x) ∧ FrC rfS M (uI M 605 2 x) ∧ RI Fr (uI M 605 2 x) s ∧ gI (uI M 605 2 x) 605 2 = x := ⟨thr0.wf hW, thr_rf, hI.t hFr, by rw [gI_uI, if_pos ⟨rfl, rfl⟩]⟩
theorem b_peek {m i : Int32} (hFr : FrOK Fr) (hW : Wf M) (hI : RI Fr M s) (h : ∀ v, sPeek m i s = some v → ∀ M', Wf M' → FrC rfS M M' → RI Fr M' s → gI M' 605 2 = 0 → K (some (.long v)) M') (h1 : sPeek m i s = none → ∀ M', Wf M' → FrC rfS M M' → RI Fr M' s → gI M' 605 2 = 1 → K (some (.long 0)) M') : sp_X13_peek [.ref 605, .int m, .int i] M K := by
  obtain ⟨hD, hd⟩ := hI.dat
  obtain ⟨q, p⟩ := isE_R (m := m) (i := i) hd hD
  unfold sPeek at h h1
  have e : isE (gD_ s) m i → q_X13_watchSum m i (uI M 605 2 0) ∧ f_X13_watchSum m i (uI M 605 2 0) = di (gD_ s) (2 * iv m + 1) (iv i) := fun z => by
    have := sum_is (M := uI M 605 2 0) hd (hI.t hFr (x := 0)).dat.1 (inI_lt z.1.1) (inI_lt z.2)
    rw [← inI_nI z.1.1, ← inI_nI z.2] at this
    exact this
  refine c_X13_peek hW ⟨q, ?_⟩ ?_
  · rw [p]; exact fun z => (e z).1
  · unfold f_X13_peek m_X13_peek
    rw [propext p]
    by_cases z : isE (gD_ s) m i
    · rw [iT_t z] at h ⊢
      rw [iT_t z, (e z).2]
      obtain ⟨k1, k2, k3, k4⟩ := hI.end0 hFr hW (x := 0)
      exact h _ rfl _ k1 k2 k3 k4
    · rw [iT_f z] at h1 ⊢
      rw [iT_f z]
      obtain ⟨k1, k2, k3, k4⟩ := hI.end0 hFr hW (x := 1)
      exact h1 rfl _ k1 k2 k3 k4
theorem w01 {w : Int32} : (inI w 2 ∧ ¬ w = 0 ↔ w = 1) := by
  constructor
  · rintro ⟨a, b⟩
    have := inI_nI a
    have l := inI_lt a
    rcases (show iv w = 0 ∨ iv w = 1 by omega) with z | z
    · rw [z] at this; exact absurd this b
    · rw [z] at this; exact this
  · intro z; subst z; exact ⟨inI_of (v := 1) (by decide) (by decide), by decide⟩
theorem shp_is {d : DS} {j : Nat} {w x y : Int32} (hx : x = dk d j) (hy : y = nI (dn d j)) : iT (inI w 2) (if w = 0 then x else y) (-2) = shpF d j w := by
  unfold shpF
  by_cases z : inI w 2
  · rw [iT_t z]
    by_cases e : w = 0
    · rw [if_pos e, if_pos e, hx]
    · rw [if_neg e, if_neg e, if_pos (w01.mp ⟨z, e⟩), hy]
  · rw [iT_f z, if_neg, if_neg]
    · intro e; subst e; exact z (inI_of (v := 1) (by decide) (by decide))
    · intro e; subst e; exact z (inI_of (v := 0) (by decide) (by decide))
theorem b_array {m w : Int32} (hFr : FrOK Fr) (hW : Wf M) (hI : RI Fr M s) (h : ∀ M', Wf M' → FrC rfS M M' → RI Fr M' s → gI M' 605 2 = 0 → K (some (.int (sArray m w s))) M') : sp_X13_array [.ref 605, .int m, .int w] M K := by
  obtain ⟨hD, hd⟩ := hI.dat
  obtain ⟨k1, k2, k3, k4⟩ := hI.end0 hFr hW (x := 0)
  have hh := h _ k1 k2 k3 k4
  refine c_X13_array hW ?_ ?_
  · unfold q_X13_array
    rw [in7]
    exact fun z _ => ⟨fun _ => vp_of z (by decide), fun _ => vp_of z (by decide)⟩
  · unfold f_X13_array m_X13_array
    rw [propext in7, propext in1_]
    unfold sArray at hh
    by_cases z : inI m 8
    · rw [iT_t z] at hh ⊢
      rw [cl_of z (by decide), shp_is (hD.2.1 _ (inI_lt z)).1 (hD.2.1 _ (inI_lt z)).2.1]
      exact hh
    · rw [iT_f z] at hh ⊢
      exact hh
theorem b_register {m w : Int32} (hFr : FrOK Fr) (hW : Wf M) (hI : RI Fr M s) (h : ∀ M', Wf M' → FrC rfS M M' → RI Fr M' s → gI M' 605 2 = 0 → K (some (.int (sRegister m w s))) M') : sp_X13_register [.ref 605, .int m, .int w] M K := by
  obtain ⟨hD, hd⟩ := hI.dat
  obtain ⟨k1, k2, k3, k4⟩ := hI.end0 hFr hW (x := 0)
  have hh := h _ k1 k2 k3 k4
  refine c_X13_register hW ?_ ?_
  · unfold q_X13_register
    rw [in7]
    exact fun z _ => ⟨fun _ => vp_of z (by decide), fun _ => vp_of z (by decide)⟩
  · unfold f_X13_register m_X13_register
    rw [propext in7, propext in1_]
    unfold sRegister at hh
    by_cases z : inI m 8
    · rw [iT_t z] at hh ⊢
      rw [cl_of z (by decide), shp_is (hD.1 _ (inI_lt z)).1 (hD.1 _ (inI_lt z)).2.1]
      exact hh
    · rw [iT_f z] at hh ⊢
      exact hh
theorem b_scalar {k : Int32} {v : Int64} (hFr : FrOK Fr) (hW : Wf M) (hI : RI Fr M s) (h : ∀ M', Wf M' → FrC rfS M M' → RI Fr M' (sScalar k v s).2 → gI M' 605 2 = 0 → K (some (.int (sScalar k v s).1)) M') : sp_X13_scalar [.ref 605, .int k, .long v] M K := by
  obtain ⟨hD, hd⟩ := hI.dat
  have hW1 : Wf (uI M 605 2 0) := thr0.wf hW
  have hI1 := hI.t hFr (x := 0)
  have hD1 := hI1.dat.1
  unfold sScalar at h
  refine c_X13_scalar hW ?_ ?_
  · unfold q_X13_scalar
    rw [in7]
    exact fun z => vp_of z (by decide)
  · unfold P_X13_scalar m_X13_scalar
    rw [propext in7]
    by_cases z : inI k 8
    · rw [iT_t z] at h ⊢
      rw [pI_t z, cl_of z (by decide)]
      have fx : FrC (fun a j => (a = 631 ∧ j = iv k) ∨ (a = 605 ∧ j = 59)) (uI M 605 2 0) (uI (uL (uI M 605 2 0) 631 (iv k) v) 605 59 0) := (FrC_uL (Or.inl ⟨rfl, rfl⟩)).tr (FrC_uI (Or.inr ⟨rfl, rfl⟩))
      have hDn : RDc (uI (uL (uI M 605 2 0) 631 (iv k) v) 605 59 0) (setS (gD_ s) (iv k) v) := RDc.scal fx (fun a j z w => by omega) hD1 (by show gL (uL (uI M 605 2 0) 631 (iv k) v) 631 _ = v; rw [gL_uL, if_pos ⟨rfl, rfl⟩])
      exact h _ (fx.wf hW1) (thr_rf.tr (fx.mono (fun a j z => by unfold rfS; omega))) (hI1.wdat hFr fx (fun a j z => by omega) hDn hd (by rw [gI_uI, if_pos ⟨rfl, rfl⟩])) (thr2 fx (fun a j z => by omega))
    · rw [iT_f z] at h ⊢
      rw [pI_f z]
      exact h _ hW1 thr_rf hI1 (by rw [gI_uI, if_pos ⟨rfl, rfl⟩])
theorem b_scalarOf {k : Int32} (hFr : FrOK Fr) (hW : Wf M) (hI : RI Fr M s) (h : ∀ v, sScalarOf k s = some v → ∀ M', Wf M' → FrC rfS M M' → RI Fr M' s → gI M' 605 2 = 0 → K (some (.long v)) M') (h1 : sScalarOf k s = none → ∀ M', Wf M' → FrC rfS M M' → RI Fr M' s → gI M' 605 2 = 1 → K (some (.long 0)) M') : sp_X13_scalarOf [.ref 605, .int k] M K := by
  obtain ⟨hD, hd⟩ := hI.dat
  unfold sScalarOf at h h1
  refine c_X13_scalarOf hW ?_ ?_
  · unfold q_X13_scalarOf
    rw [in7]
    exact fun z => vp_of z (by decide)
  · unfold f_X13_scalarOf m_X13_scalarOf
    rw [propext in7]
    by_cases z : inI k 8
    · rw [iT_t z] at h ⊢
      rw [iT_t z, cl_of z (by decide), hD.2.2.2 _ (inI_lt z)]
      obtain ⟨k1, k2, k3, k4⟩ := hI.end0 hFr hW (x := 0)
      exact h _ rfl _ k1 k2 k3 k4
    · rw [iT_f z] at h1 ⊢
      rw [iT_f z]
      obtain ⟨k1, k2, k3, k4⟩ := hI.end0 hFr hW (x := 1)
      exact h1 rfl _ k1 k2 k3 k4
theorem b_lane {m i : Int32} (hFr : FrOK Fr) (hW : Wf M) (hI : RI Fr M s) (h : ∀ v, sLane m i s = some v → ∀ M', Wf M' → FrC rfS M M' → RI Fr M' s → gI M' 605 2 = 0 → K (some (.long v)) M') (h1 : sLane m i s = none → ∀ M', Wf M' → FrC rfS M M' → RI Fr M' s → gI M' 605 2 = 1 → K (some (.long 0)) M') : sp_X13_lane_ [.ref 605, .int m, .int i] M K := by
  obtain ⟨hD, hd⟩ := hI.dat
  unfold sLane at h h1
  refine wX13_lane_ hW (fun {G} hc => ?_)
  have no : ¬ (inI m 8 ∧ inI i (dn (gD_ s) (2 * iv m))) → G 36 [some (.ref 605), some (.int m), some (.int i)] [.int 1, .ref 605] M := fun z => by
    rw [iT_f z] at h1
    obtain ⟨k1, k2, k3, k4⟩ := hI.end0 hFr hW (x := 1)
    exact eX13_lane__36 hc hW ⟨fun y => absurd y (by decide), fun _ => h1 rfl _ k1 k2 k3 k4⟩
  rw [in7]
  refine ⟨fun z => no (fun y => z y.1), fun z => ⟨vp_of z (by decide), ?_⟩⟩
  have l8 := inI_lt z
  obtain ⟨a1, a2, a3⟩ := hD.1 _ l8
  have hw := hd.1 (2 * iv m) (by omega)
  have d64 := dn_le hd (j := 2 * iv m) (by omega)
  rw [cl_of z (by decide), a2, in_L (by omega)]
  refine ⟨fun y => no (fun w => y w.2), fun y => ?_⟩
  have hil := inI_lt y
  have hk : isK (dk (gD_ s) (2 * iv m)) := hw.1.elim (fun u => absurd hil (by omega)) (fun u => u.1)
  have hl : dn (gD_ s) (2 * iv m) ≤ 32 := by
    rcases hw.1 with u | u
    · omega
    · exact (u.2.2 (by omega)).2
  refine eX13_lane__36 hc hW ⟨fun _ => ⟨vp_of z (by decide), ?_⟩, fun y => absurd (by decide) y⟩
  have ep : (32 : Int32) * m + i = nI (32 * iv m + iv i) := by
    conv => lhs; rw [inI_nI z, inI_nI y]
    rw [show (32 : Int32) = nI 32 from rfl, pk_mul, nI_add]
  obtain ⟨b1, b2⟩ := bits_is hk (hw.2 _ hil) (a3 _ hil)
  rw [ep, nI_clamp (by omega), cl_of z (by decide), a1]
  refine ⟨vpN (by omega) (by decide), vpN (by omega) (by decide), b2, ?_⟩
  rw [b1]
  obtain ⟨k1, k2, k3, k4⟩ := hI.end0 hFr hW (x := 0)
  exact h _ (iT_t ⟨z, y⟩) _ k1 k2 k3 k4
theorem b_mask {m : Int32} (hFr : FrOK Fr) (hW : Wf M) (hI : RI Fr M s) (h : ∀ M', Wf M' → FrC rfS M M' → RI Fr M' s → gI M' 605 2 = 0 → K (some (.int (sMask m s))) M') : sp_X13_mask [.ref 605, .int m] M K := by
  obtain ⟨hD, hd⟩ := hI.dat
  obtain ⟨k1, k2, k3, k4⟩ := hI.end0 hFr hW (x := 0)
  have hh := h _ k1 k2 k3 k4
  unfold sMask at hh
  refine c_X13_mask hW ?_ ?_
  · unfold q_X13_mask
    rw [in3]
    exact fun z => vp_of z (by decide)
  · unfold f_X13_mask m_X13_mask
    rw [propext in3]
    by_cases z : inI m 4
    · rw [iT_t z] at hh ⊢
      rw [cl_of z (by decide), hD.2.2.1 _ (inI_lt z)]
      exact hh
    · rw [iT_f z] at hh ⊢
      exact hh
theorem b_stop {i : Int32} {on : Bool} (hFr : FrOK Fr) (hW : Wf M) (hI : RI Fr M s) (h : ∀ M', Wf M' → FrC rfS M M' → RI Fr M' (sStop i on s).2 → gI M' 605 2 = 0 → K (some (.int (sStop i on s).1)) M') : sp_X13_stop [.ref 605, .int i, .int (blI on)] M K := by
  obtain ⟨k1, k2, k3, k4⟩ := hI.end0 hFr hW (x := 0)
  have n100 := hI.prog.2.2.1
  have g23 := hI.prog.2.2.2.1
  have hst := hI.1.2.2.1
  have ec : ∀ hi : inI i (gPr s).1, gI M 633 i.toNatClampNeg = blI (gSt s (iv i)) := fun hi => by rw [cl_of hi (by omega)]; exact hst _ (by have := inI_lt hi; omega)
  have vi : ∀ hi : inI i (gPr s).1, vp_in i 100 := fun hi => vp_of (N := 100) ⟨hi.1, by have := hi.2; omega⟩ (by decide)
  unfold sStop at h
  have eP : P_X13_stop i (blI on) M ↔ (inI i (gPr s).1 ∧ gSt s (iv i) ≠ on) := by
    unfold P_X13_stop
    rw [g23, in_M (by omega)]
    refine and_congr_right (fun hi => ?_)
    rw [ec hi, blI_inj]
  refine c_X13_stop hW ?_ ?_
  · unfold q_X13_stop
    rw [g23, in_M (by omega)]
    exact fun hi => ⟨vi hi, fun _ => vi hi⟩
  · unfold m_X13_stop
    rw [g23, propext (in_M (by omega)), propext eP]
    by_cases hi : inI i (gPr s).1
    · rw [iT_t hi, ec hi]
      by_cases e : gSt s (iv i) = on
      · rw [if_pos (by rw [e]), pI_f (fun y => y.2 e)]
        rw [iT_f (fun y => y.2 e)] at h
        exact h _ k1 k2 k3 k4
      · rw [if_neg (fun y => e (blI_inj.mp y)), pI_t ⟨hi, e⟩, cl_of hi (by omega), nar_bl]
        rw [iT_t ⟨hi, e⟩] at h
        have fx : FrC (fun a j => a = 633 ∧ j = iv i) (uI M 605 2 0) (uI (uI M 605 2 0) 633 (iv i) (blI on)) := FrC_uI ⟨rfl, rfl⟩
        obtain ⟨⟨o1, o2, o3, o4, o5, o6⟩, hX⟩ := k3
        refine h _ (fx.wf k1) (k2.tr (fx.mono (fun a j z => by unfold rfS; omega))) ⟨⟨o1.fr fx (by omega) (fun j => by omega), RPg.fr (s := s) fx (fun a j z => by unfold rPgc prS; omega) o2, fun j hj => ?_, o4.fr fx (fun j => by omega), o5.fr fx (fun a j z => by unfold rKpc; omega), o6.fr hFr fx (by omega) (fun a j z => by omega)⟩, hX.fr fx (fun a j z => by unfold rXc; omega)⟩ (thr2 fx (fun a j z => by omega))
        show gI _ 633 j = blI (up1 (gSt s) (iv i) on j)
        by_cases y : j = iv i
        · subst y; rw [gI_uI, if_pos ⟨rfl, rfl⟩, up1_eq]
        · rw [gI_uI, if_neg (fun z => y z.2), up1_ne y]; exact o3 j hj
    · rw [iT_f hi, pI_f (fun y => hi y.1)]
      rw [iT_f (fun y => hi y.1)] at h
      exact h _ k1 k2 k3 k4
theorem b_watch {m i : Int32} {on : Bool} (hFr : FrOK Fr) (hW : Wf M) (hI : RI Fr M s) (h : ∀ M', Wf M' → FrC rfS M M' → RI Fr M' (sWatch m i on s).2 → gI M' 605 2 = 0 → K (some (.int (sWatch m i on s).1)) M') : sp_X13_watch [.ref 605, .int m, .int i, .int (blI on)] M K := by
  obtain ⟨k1, k2, k3, k4⟩ := hI.end0 hFr hW (x := 0)
  have hww := hI.1.2.2.2.1
  have ep : ∀ (hm : inI m 8) (hi : inI i 64), (64 : Int32) * m + i = nI (64 * iv m + iv i) := fun hm hi => by
    conv => lhs; rw [inI_nI hm, inI_nI hi]
    rw [show (64 : Int32) = nI 64 from rfl, pk_mul, nI_add]
  have lt : ∀ (hm : inI m 8) (hi : inI i 64), 64 * iv m + iv i < 512 := fun hm hi => by have := inI_lt hm; have := inI_lt hi; omega
  have ec : ∀ (hm : inI m 8) (hi : inI i 64), gI M 634 ((64 : Int32) * m + i).toNatClampNeg = blI (wbB (gWw s) (64 * iv m + iv i)) := fun hm hi => by
    have := lt hm hi
    rw [ep hm hi, nI_clamp (by omega)]; exact hww _ this
  have ew : ∀ (hi : inI i 64), wbB (gWw s) (64 * iv m + iv i) = true ↔ wbit (gWw s (iv m)) (iv i) := fun hi => by
    have := inI_lt hi
    rw [wbit_wb, show (64 * iv m + iv i) / 64 = iv m by omega, show (64 * iv m + iv i) % 64 = iv i by omega]
  have eb : ∀ (hi : inI i 64), (¬ wbB (gWw s) (64 * iv m + iv i) = on) ↔ (wbit (gWw s (iv m)) (iv i) ↔ on = false) := fun hi => by
    rw [← ew hi]
    cases wbB (gWw s) (64 * iv m + iv i) <;> cases on <;> decide
  unfold sWatch at h
  have eP : P_X13_watch m i (blI on) M ↔ (inI m 8 ∧ inI i 64 ∧ (wbit (gWw s (iv m)) (iv i) ↔ on = false)) := by
    unfold P_X13_watch
    rw [in7, in63]
    refine and_congr_right (fun hm => and_congr_right (fun hi => ?_))
    rw [ec hm hi, blI_inj, eb hi]
  refine c_X13_watch hW ?_ ?_
  · unfold q_X13_watch
    rw [in7, in63]
    exact fun hm hi => by
      rw [ep hm hi]
      exact ⟨vpN (lt hm hi) (by decide), fun _ => vpN (lt hm hi) (by decide)⟩
  · unfold m_X13_watch
    rw [propext in7, propext in63, propext eP]
    by_cases hm : inI m 8
    · by_cases hi : inI i 64
      · rw [iT_t hm, iT_t hi, ec hm hi]
        by_cases e : wbB (gWw s) (64 * iv m + iv i) = on
        · rw [if_pos (by rw [e]), pI_f (fun y => (eb hi).mpr y.2.2 e)]
          rw [iT_f (fun y => (eb hi).mpr y.2.2 e)] at h
          exact h _ k1 k2 k3 k4
        · have hc := (eb hi).mp e
          rw [if_neg (fun y => e (blI_inj.mp y)), pI_t ⟨hm, hi, hc⟩, ep hm hi, nI_clamp (by have := lt hm hi; omega), nar_bl]
          rw [iT_t ⟨hm, hi, hc⟩] at h
          have fx : FrC (fun a j => a = 634 ∧ j = 64 * iv m + iv i) (uI M 605 2 0) (uI (uI M 605 2 0) 634 (64 * iv m + iv i) (blI on)) := FrC_uI ⟨rfl, rfl⟩
          obtain ⟨⟨o1, o2, o3, o4, o5, o6⟩, hX⟩ := k3
          refine h _ (fx.wf k1) (k2.tr (fx.mono (fun a j z => by unfold rfS; omega))) ⟨⟨o1.fr fx (by omega) (fun j => by omega), RPg.fr (s := s) fx (fun a j z => by unfold rPgc prS; omega) o2, o3.fr fx (fun j => by omega), fun j hj => ?_, o5.fr fx (fun a j z => by unfold rKpc; omega), o6.fr hFr fx (by omega) (fun a j z => by omega)⟩, hX.fr fx (fun a j z => by unfold rXc; omega)⟩ (thr2 fx (fun a j z => by omega))
          have l64 := inI_lt hi
          show gI _ 634 j = blI (wbB (up1 (gWw s) (iv m) (gWw s (iv m) ^^^ ((1 : Int64) <<< ((nI (iv i)).toInt64 &&& 63)))) j)
          have tr : ∀ a b : Bool, (a = true ↔ b = true) → blI a = blI b := fun a b z => by cases a <;> cases b <;> simp_all
          by_cases y : j = 64 * iv m + iv i
          · rw [gI_uI, if_pos ⟨rfl, y⟩]
            refine tr _ _ ?_
            rw [wbit_wb, y, show (64 * iv m + iv i) / 64 = iv m by omega, show (64 * iv m + iv i) % 64 = iv i by omega, up1_eq, wbit_x l64 l64, if_pos rfl, hc]
            cases on <;> decide
          · rw [gI_uI, if_neg (fun z => y z.2), o4 j hj]
            refine tr _ _ ?_
            rw [wbit_wb, wbit_wb]
            by_cases u : j / 64 = iv m
            · rw [u, up1_eq, wbit_x l64 (by omega), if_neg (by omega)]
            · rw [up1_ne u]
      · rw [iT_t hm, iT_f hi, pI_f (fun y => hi y.2.1)]
        rw [iT_f (fun y => hi y.2.1)] at h
        exact h _ k1 k2 k3 k4
    · rw [iT_f hm, pI_f (fun y => hm y.1)]
      rw [iT_f (fun y => hm y.1)] at h
      exact h _ k1 k2 k3 k4
theorem rtr_get {w : Nat} : ∀ (tr : List TE) (k : Nat), RTr M w k tr → ∀ j t, tr[j]? = some t → gI M 641 (slN w (k + j)) = nI t.1 ∧ gI M 642 (slN w (k + j)) = nI t.2.1 := by
  intro tr
  induction tr with
  | nil => intro k _ j t h; simp at h
  | cons t rest ih =>
    intro k hc j u hj
    obtain ⟨⟨a1, a2, -⟩, a7⟩ := hc
    cases j with
    | zero => simp at hj; subst hj; exact ⟨a1, a2⟩
    | succ j =>
      simp at hj
      have := ih (k + 1) a7 j u hj
      rw [show k + (j + 1) = k + 1 + j by omega]
      exact this
theorem b_trace {k w : Int32} (hFr : FrOK Fr) (hW : Wf M) (hI : RI Fr M s) (h : ∀ M', Wf M' → FrC rfS M M' → RI Fr M' s → gI M' 605 2 = 0 → K (some (.int (sTrace k w s))) M') : sp_X13_trace [.ref 605, .int k, .int w] M K := by
  obtain ⟨k1, k2, k3, k4⟩ := hI.end0 hFr hW (x := 0)
  have hh := h _ k1 k2 k3 k4
  unfold sTrace at hh
  obtain ⟨-, -, -, ⟨l, w1, w2, w3⟩, ⟨l1, l2⟩, -⟩ := hI
  have es : inI k (gTr s).length → gI M 605 60 + (64 : Int32) - k - (gI M 605 60 + (64 : Int32) - k) / (64 : Int32) * (64 : Int32) = nI (slN l (iv k)) := fun hk => by
    have := inI_lt hk
    rw [w2, show (64 : Int32) = nI 64 from rfl, nI_add]
    conv => lhs; rw [inI_nI hk]
    rw [pk_sub (by omega), pk_rem (by omega) (by decide) (by decide)]
    rfl
  refine c_X13_trace hW ?_ ?_
  · unfold q_X13_trace
    rw [l1, in_M (by omega)]
    intro hk _
    rw [es hk]
    exact ⟨fun _ => vpN rSlN_lt (by decide), fun _ => vpN rSlN_lt (by decide)⟩
  · unfold f_X13_trace m_X13_trace
    rw [l1, propext (in_M (by omega)), propext in1_]
    by_cases hk : inI k (gTr s).length
    · have hlt := inI_lt hk
      obtain ⟨t, ht⟩ : ∃ t, (gTr s)[iv k]? = some t := ⟨_, List.getElem?_eq_getElem hlt⟩
      obtain ⟨g1, g2⟩ := rtr_get _ 0 w3 _ _ ht
      rw [Nat.zero_add] at g1 g2
      have l64 := rSlN_lt (w := l) (k := iv k)
      rw [iT_t hk] at hh ⊢
      rw [ht] at hh
      rw [es hk, nI_clamp (by omega), g1, g2]
      have hh : K (some (.int (if w = 0 then nI t.1 else if w = 1 then nI t.2.1 else -1))) (uI M 605 2 0) := hh
      by_cases z : inI w 2
      · rw [iT_t z]
        by_cases e : w = 0
        · rw [if_pos e] at hh ⊢; exact hh
        · rw [if_neg e, if_pos (w01.mp ⟨z, e⟩)] at hh
          rw [if_neg e]; exact hh
      · rw [iT_f z]
        rw [if_neg (fun e => z (by subst e; exact inI_of (v := 0) (by decide) (by decide))), if_neg (fun e => z (by subst e; exact inI_of (v := 1) (by decide) (by decide)))] at hh
        exact hh
    · rw [iT_f hk] at hh ⊢
      exact hh
end
end RFACE2
