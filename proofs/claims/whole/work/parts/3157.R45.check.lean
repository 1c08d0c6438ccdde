section RCHECK
section
variable {M M' : Mem} {K : RT} {n i : Nat} {c : Nat → Nat → Int64} {s : SG}
theorem Fa.form (hV : ∀ i, i < n → VI n (c i)) {i f : Nat} (h : Fa n c i f) : f = 2048 ∨ ∃ v q, v < 8 ∧ q ≤ 224 ∧ f = v * 256 + q := by
  obtain ⟨d, h⟩ := h
  induction d generalizing i f with
  | zero => exact h.2.2.imp id (fun ⟨v, v1, v2⟩ => ⟨v, 224, v1, Nat.le_refl _, v2⟩)
  | succ d ih =>
    rcases h with h | ⟨j, g, h1, h2, h3⟩
    · exact ih h
    · rcases h3 with ⟨-, y⟩ | ⟨-, y2, y3⟩ | ⟨y1, y2, y3⟩
      · exact Or.inl y
      · obtain ⟨⟨s1, -⟩, ⟨s3, -⟩, s5, s6, -⟩ := (hV j h2.1).set y2
        refine Or.inr ⟨cn (c j) 1, cn (c j) 2 * 32 + (cn (c j) 3 - 1), s1, by omega, ?_⟩
        rw [y3]; unfold setF; omega
      · rw [y2]; exact ih h1
/-- the count of the ways -/
theorem way_ct (hV : ∀ i, i < n → VI n (c i)) {v : Nat} (hv : v < 8) : fb_ct (fun w => pB' (fun w => mayW n c i v w) w) 225 = wayN n c i v := by
  unfold wayN
  have e1 : fb_ct (fun w => pB' (fun w => mayW n c i v w) w) (1 + 224) = fb_ct (fun w => pB' (fun w => mayW n c i v w) w) 1 + fb_ct (fun k => pB' (fun w => mayW n c i v w) (1 + k)) 224 := fb_ct_split _ 1 224
  have e2 : fb_ct (fun q => pB' (fun q => Fa n c i (v * 256 + q)) q) (224 + 32) = fb_ct (fun q => pB' (fun q => Fa n c i (v * 256 + q)) q) 224 + fb_ct (fun k => pB' (fun q => Fa n c i (v * 256 + q)) (224 + k)) (1 + 31) := fb_ct_split _ 224 32
  have e3 : fb_ct (fun k => pB' (fun q => Fa n c i (v * 256 + q)) (224 + k)) (1 + 31) = fb_ct (fun k => pB' (fun q => Fa n c i (v * 256 + q)) (224 + k)) 1 + fb_ct (fun k => pB' (fun q => Fa n c i (v * 256 + q)) (224 + (1 + k))) 31 := fb_ct_split (fun k => pB' (fun q => Fa n c i (v * 256 + q)) (224 + k)) 1 31
  have e4 : fb_ct (fun k => pB' (fun q => Fa n c i (v * 256 + q)) (224 + (1 + k))) 31 = 0 := by
    refine fb_ct_zero.mpr (fun k hk => ?_)
    cases z : pB' (fun q => Fa n c i (v * 256 + q)) (224 + (1 + k)) with
    | false => rfl
    | true =>
      have := pB_i.mp z
      rcases this.form hV with y | ⟨v', q, v8, q1, y⟩
      · omega
      · omega
  have e5 : fb_ct (fun k => pB' (fun w => mayW n c i v w) (1 + k)) 224 = fb_ct (fun q => pB' (fun q => Fa n c i (v * 256 + q)) q) 224 := fb_ct_cong (fun k hk => by
    have e : mayW n c i v (1 + k) = Fa n c i (v * 256 + k) := by
      unfold mayW wq
      rw [if_neg (by omega), show 1 + k - 1 = k by omega]
    show @decide (mayW n c i v (1 + k)) (Classical.propDecidable _) = @decide (Fa n c i (v * 256 + k)) (Classical.propDecidable _)
    rw [e])
  have e6 : fb_ct (fun w => pB' (fun w => mayW n c i v w) w) 1 = fb_ct (fun k => pB' (fun q => Fa n c i (v * 256 + q)) (224 + k)) 1 := fb_ct_cong (fun k hk => by
    have : k = 0 := by omega
    subst this
    rfl)
  have e1' : fb_ct (fun w => pB' (fun w => mayW n c i v w) w) 225 = _ := e1
  have e2' : fb_ct (fun q => pB' (fun q => Fa n c i (v * 256 + q)) q) 256 = _ := e2
  have e3' : fb_ct (fun k => pB' (fun q => Fa n c i (v * 256 + q)) (224 + k)) 32 = _ := e3
  have e2'' : fb_ct (fun q => pB' (fun q => Fa n c i (v * 256 + q)) q) 256 = fb_ct (fun q => pB' (fun q => Fa n c i (v * 256 + q)) q) 224 + fb_ct (fun k => pB' (fun q => Fa n c i (v * 256 + q)) (224 + k)) 32 := e2
  rw [e1', e2'', e3', e4, e5, e6]
  omega
theorem RI.pq {Fr : Mem → Nat → (Nat → Nat → Int64) → Prop} (h : RI Fr M s) : PQ M (gPr s).1 (gPr s).2 := by
  obtain ⟨p1, p2, p3, p4, p5⟩ := h.prog
  exact ⟨p2, p3, p4, p5⟩
theorem RI.rc {Fr : Mem → Nat → (Nat → Nat → Int64) → Prop} (h : RI Fr M s) (hi : i < (gPr s).1) : RC M (gPr s).1 (gPr s).2 i := by
  obtain ⟨p1, p2, p3, p4, p5⟩ := h.prog
  exact ⟨p1, p2, p3, hi, p5 i hi⟩
theorem RI.flow (hI : RI FlR M s) (hf : FrC ffS M M') (h3 : gI M' 605 33 = 1) (hF : FlR M' (gPr s).1 (gPr s).2) : RI FlR M' s := by
  obtain ⟨⟨o1, o2, o3, o4, o5, o6⟩, hX⟩ := hI
  exact ⟨⟨o1.fr hf (by unfold ffS; omega) (fun j => by unfold ffS; omega), o2.fr hf (fun a j z => by unfold ffS at z; unfold rPgc prS; omega), o3.fr hf (fun j => by unfold ffS; omega), o4.fr hf (fun j => by unfold ffS; omega), o5.fr hf (fun a j z => by unfold ffS at z; unfold rKpc; omega), ⟨Or.inr h3, fun _ => hF⟩⟩, hX.fr hf (fun a j z => by unfold ffS at z; unfold rXc; omega)⟩
theorem c_fnd13 {x : Int32} (hW : Wf M) (hI : RI FlR M s) (hx : gI M 605 2 = x) (h : ∀ M', Wf M' → FrC rfS M M' → RI FlR M' s → FlR M' (gPr s).1 (gPr s).2 → gI M' 605 2 = x → K none M') : sp_X13_findFlow [.ref 605] M K :=
  c_find13 hW hI.pq hI.1.2.2.2.2.2 (fun M' hW' hf h3 hF => h M' hW' (hf.mono (fun a j z => by unfold ffS at z; unfold rfS; omega)) (hI.flow hf h3 hF) hF (by rw [hf.i (by unfold ffS; omega)]; exact hx))
theorem b_check (hW : Wf M) (hI : RI FlR M s) (h : ∀ M', Wf M' → FrC rfS M M' → RI FlR M' s → gI M' 605 2 = 0 → K (some (.int (sCheck s))) M') : sp_X13_check [.ref 605] M K := by
  obtain ⟨k1, k2, k3, k4⟩ := hI.end0 FlR_ok hW (x := 0)
  refine wX13_check hW (fun {G} hc => c_fnd13 k1 k3 k4 (fun M1 hW1 f1 hI1 hF z1 => rX13_check_0_4 hc hW1 ?_))
  have hh := h M1 hW1 (k2.tr f1) hI1 z1
  unfold sCheck at hh
  obtain ⟨p1, p2, p3, p4, p5⟩ := hI1.prog
  generalize hn : (gPr s).1 = n at *
  have loop : ∀ j i : Nat, i + j = n → chkF n (gPr s).2 j i = chkF n (gPr s).2 n 0 → G 11 [some (.ref 605), some (.int (nI i))] [] M1 := by
    intro j
    induction j with
    | zero =>
      intro i hi e
      rw [← e] at hh
      refine eX13_check_11 hc hW1 ⟨fun _ => hh, fun z => absurd (by rw [p4]; exact nI_le (by omega) (by omega)) z⟩
    | succ j ih =>
      intro i hi e
      have e1 : chkF n (gPr s).2 (j + 1) i = iT (Fa n (gPr s).2 i 2048 ∧ ¬ goodS n (gPr s).2 i) (i + 1) (chkF n (gPr s).2 j (i + 1)) := rfl
      rw [e1] at e
      have c649 := hF.1 649 i (Or.inr ⟨rfl, by omega⟩)
      have f649 := hF.2.1 i (by omega)
      refine eX13_check_11 hc hW1 ?_
      rw [p4, nI_leI (by omega) (by omega), nI_clamp (by omega), nI_1]
      refine ⟨fun z => absurd z (by omega), fun _ => ⟨vpN (by omega) (by decide), fun z => ?_, fun z => ?_⟩⟩
      · have nf : ¬ Fa n (gPr s).2 i 2048 := fun y => by have := f649.mpr y; rw [z] at this; exact absurd this (by decide)
        rw [iT_f (fun y => nf y.1)] at e
        exact ih (i + 1) (by omega) e
      · have yf := f649.mp (c649.resolve_left z)
        refine c_isGood13 hW1 ⟨p1, p2, p3, by omega, p5 i (by omega)⟩ hF (rX13_check_28_2 hc hW1 ?_)
        rw [pI_0, nI_1, show (1 : Int32) + nI i = nI (1 + i) from nI_add 1 i]
        refine ⟨fun y => ?_, fun y => ?_⟩
        · rw [iT_f (fun w => y w.2)] at e
          exact ih (i + 1) (by omega) e
        · rw [iT_t ⟨yf, y⟩] at e
          rw [← e, Nat.add_comm i 1] at hh
          exact hh
  exact loop n 0 (Nat.zero_add _) rfl
theorem b_flow {x w : Int32} (hW : Wf M) (hI : RI FlR M s) (h : ∀ M', Wf M' → FrC rfS M M' → RI FlR M' s → gI M' 605 2 = 0 → K (some (.int (sFlow x w s))) M') : sp_X13_flow [.ref 605, .int x, .int w] M K := by
  obtain ⟨k1, k2, k3, k4⟩ := hI.end0 FlR_ok hW (x := 0)
  have hn100 := hI.pq.2.1
  have hn23 := hI.pq.2.2.1
  unfold sFlow at h
  have no : ¬ (inI x (gPr s).1 ∧ inI w 10) → K (some (.int (-1 : Int32))) (uI M 605 2 0) := fun z => by
    rw [iT_f z] at h
    exact h _ k1 k2 k3 k4
  refine wX13_flow hW (fun {G} hc => ?_)
  rw [hn23, in_M (by omega), in_N (N := 10) (by decide) (show (9 : Int64).toInt = _ from rfl)]
  refine ⟨fun z => no (fun y => z y.1), fun hx => ⟨fun hw => ?_, fun z => no (fun y => z y.2)⟩⟩
  rw [iT_t ⟨hx, hw⟩] at h
  refine c_fnd13 k1 k3 k4 (fun M1 hW1 f1 hI1 hF z1 => rX13_flow_35_1 hc hW1 ?_)
  have hh := h M1 hW1 (k2.tr f1) hI1 z1
  have hx1 := inI_lt hx
  have hw1 := inI_lt hw
  have ex := inI_nI hx
  have ew := inI_nI hw
  obtain ⟨p1, p2, p3, p4, p5⟩ := hI1.prog
  generalize hn : (gPr s).1 = n at *
  generalize hxi : iv x = i at *
  generalize hwi : iv w = v at *
  subst ex
  subst ew
  have c649 := hF.1 649 i (Or.inr ⟨rfl, by omega⟩)
  have f649 := hF.2.1 i (by omega)
  have w0 : nI v = 0 ↔ v = 0 := nI_eq (b := 0) (by omega) (by decide)
  have w1 : nI v = 1 ↔ v = 1 := nI_eq (b := 1) (by omega) (by decide)
  rw [show (2 : Int32) = nI 2 from rfl, nI_leI (by decide) (by omega), nI_clamp (by omega), w0]
  have vp : vp_in (nI i) 100 := vpN (by omega) (by decide)
  refine ⟨fun z => ?_, fun z => ⟨vp, fun r0 => ?_, fun r1 => ?_⟩⟩
  · have v2 : nI v - (2 : Int32) = nI (v - 2) := pk_sub (b := 2) (by omega)
    rw [if_neg (fun y => by have := w0.mp y; omega), if_neg (fun y => by have := w1.mp y; omega)] at hh
    by_cases r : Fa n (gPr s).2 i 2048
    · rw [iT_t r] at hh
      have loop : ∀ f p : Nat, p + f = 225 → G 76 [some (.ref 605), some (.int (nI i)), some (.int (nI v)), some (.int (nI (fb_ct (fun w => pB' (fun w => mayW n (gPr s).2 i (v - 2) w) w) p))), some (.int (nI p))] [] M1 := by
        intro f
        induction f with
        | zero =>
          intro p hp
          have hp : p = 225 := by omega
          subst hp
          rw [way_ct (i := i) p5 (show v - 2 < 8 by omega)]
          exact eX13_flow_76 hc hW1 ⟨fun _ => hh, fun z => absurd (by decide) z⟩
        | succ f ih =>
          intro p hp
          obtain ⟨y1, y2⟩ := mb_is (w := p) hF (show i < 100 by omega) (show v - 2 < 8 by omega) (by omega)
          have r1 : ¬ gI M1 649 i = 0 := fun y => by have := f649.mpr r; rw [y] at this; exact absurd this (by decide)
          have nx := ih (p + 1) (by omega)
          rw [fb_ct_succ] at nx
          refine eX13_flow_76 hc hW1 ⟨fun z => absurd ((nI_leI (a := 225) (by decide) (by omega)).mp z) (by omega), fun _ => ?_⟩
          rw [nI_clamp (by omega), v2, y2, nI_1, nI_1]
          refine ⟨vp, fun y => absurd y r1, fun _ => ⟨y1, fun y => ?_, fun y => ?_⟩⟩
          · have : pB' (fun w => mayW n (gPr s).2 i (v - 2) w) p = false := by
              cases z : pB' (fun w => mayW n (gPr s).2 i (v - 2) w) p with
              | false => rfl
              | true => exact absurd (pB_i.mp z) y
            rw [this] at nx
            have e0 : ∀ k : Nat, nI k + (0 : Int32) = nI k := fun k => nI_add k 0
            rw [e0]
            exact nx
          · rw [pB_i.mpr (Classical.not_not.mp y)] at nx
            exact nx
      exact loop 225 0 rfl
    · rw [iT_f r] at hh
      have r0 : gI M1 649 i = 0 := c649.resolve_right (fun y => r (f649.mp y))
      refine eX13_flow_76 hc hW1 ⟨fun z => absurd z (by decide), fun _ => ⟨vp, fun _ => hh, fun y => ?_⟩⟩
      rw [nI_clamp (by omega)] at y
      exact absurd r0 y
  · rw [iT_f (fun y => by have := f649.mpr y; rw [r0] at this; exact absurd this (by decide))] at hh
    exact hh
  · rw [iT_t (f649.mp (c649.resolve_left r1))] at hh
    refine ⟨fun y => by rw [if_pos (w0.mpr y)] at hh; exact hh, fun y => ?_⟩
    rw [if_neg (fun u => y (w0.mp u)), if_pos (w1.mpr (by omega))] at hh
    refine c_isGood13 hW1 ⟨p1, p2, p3, hx1, p5 i hx1⟩ hF (rX13_flow_57_2 hc hW1 ?_)
    rw [pI_0]
    exact ⟨fun g => by rw [pI_f g] at hh; exact hh, fun g => by rw [pI_t (Classical.not_not.mp g)] at hh; exact hh⟩
end
end RCHECK
