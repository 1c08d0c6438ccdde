section RBEGIN
section
variable {M M' : Mem} {K : RT} {s : SG} {Fr : Mem → Nat → (Nat → Nat → Int64) → Prop}
theorem in_m1 {x : Int32} : P_X13_in x.toInt64 (-1) 3 ↔ x = -1 ∨ inI x 4 := by
  unfold P_X13_in inI
  rw [Int64.lt_iff_toInt_lt, Int64.lt_iff_toInt_lt, Int32.toInt_toInt64, ← Int32.toInt_inj]
  have e1 : (-1 : Int64).toInt = -1 := rfl
  have e2 : (3 : Int64).toInt = 3 := rfl
  have e3 : (-1 : Int32).toInt = -1 := rfl
  rw [e1, e2, e3]
  omega
theorem m1_lt {x : Int32} (h : x = -1 ∨ inI x 4) : (x < 0 ↔ x = -1) ∧ (0 ≤ x ↔ inI x 4) := by
  have e0 : (0 : Int32).toInt = 0 := rfl
  have h2 : x.toInt = -1 ∨ (0 ≤ x.toInt ∧ x.toInt < (4 : Nat)) := h.imp (fun z => by rw [z]; rfl) id
  have e : x = -1 ↔ x.toInt = -1 := ⟨fun z => by rw [z]; rfl, fun z => Int32.toInt_inj.mp (by rw [z]; rfl)⟩
  rw [Int32.lt_iff_toInt_lt, Int32.le_iff_toInt_le, e, e0]
  unfold inI
  omega
def clS (x : Int32) : Nat := if x = -1 then 68 else 64 + iv x
theorem b_differs {a b : Int32} (hFr : FrOK Fr) (hW : Wf M) (hI : RI Fr M s) (h : ∀ M', Wf M' → FrC rfS M M' → RI Fr M' s → gI M' 605 2 = 0 → K (some (.int (sDiffers a b s))) M') : sp_X13_differs [.ref 605, .int a, .int b] M K := by
  obtain ⟨k1, k2, k3, k4⟩ := hI.end0 hFr hW (x := 0)
  have hkp : RKp (uI M 605 2 0) (gKp s) := k3.1.2.2.2.2.1
  unfold sDiffers at h
  have no : ¬ (thr s a ∧ thr s b) → K (some (.int (-1 : Int32))) (uI M 605 2 0) := fun z => by
    rw [iT_f z] at h
    exact h _ k1 k2 k3 k4
  refine wX13_differs hW (fun {G} hc => ?_)
  rw [in_m1, in_m1]
  refine ⟨fun z => no (fun y => z (y.1.imp id (fun w => w.1))), fun ha => ⟨fun z => no (fun y => z (y.2.imp id (fun w => w.1))), fun hb => ?_⟩⟩
  have kept : ∀ x : Int32, inI x 4 → gI M 640 x.toNatClampNeg = blI (gKp s (iv x)).isSome := fun x hx => by rw [cl_of hx (by decide)]; exact (hI.1.2.2.2.2.1 _ (inI_lt hx)).1
  have some_ne : ∀ o : Option DS, blI o.isSome = 0 ↔ o = none := fun o => by cases o <;> simp [blI]
  have hthr : ∀ x : Int32, (x = -1 ∨ inI x 4) → (thr s x ↔ (inI x 4 → ¬ gI M 640 x.toNatClampNeg = 0)) := fun x hx => by
    unfold thr
    constructor
    · rintro (z | z) y
      · subst z; exact absurd y (by unfold inI; decide)
      · rw [kept x y, some_ne]; exact z.2
    · intro z
      rcases hx with y | y
      · exact Or.inl y
      · have := z y
        rw [kept x y, some_ne] at this
        exact Or.inr ⟨y, this⟩
  obtain ⟨a1, a2⟩ := m1_lt ha
  obtain ⟨b1, b2⟩ := m1_lt hb
  -- both are there
  have go : thr s a → thr s b → sp_X13_save [.ref 605, .int 68] (uI M 605 2 0) (fun v M' => RX13_differs_61_2 G K [some (.ref 605), some (.int a), some (.int b), none] (v.toList ++ []) M') := by
    intro ta tb
    rw [iT_t ⟨ta, tb⟩] at h
    refine c_save13 (c := 68) k1 (by decide) (fun M1 hW1 f1 sv => rX13_differs_61_2 hc hW1 ?_)
    obtain ⟨hO, hX⟩ := k3
    have hd : WD (gD_ s) := hX.2.1.2.2.2.2
    have hs : RDs M1 68 (gD_ s) := (hX.1.save hd hX.2.1.2.1 sv).1
    have hI1 : RI Fr M1 s := RI.fr hFr f1 (fun a j z => by unfold saS at z; unfold rOc rPgc rKpc prS rXc; omega) ⟨hO, hX⟩
    have hfin := h M1 hW1 (k2.tr (f1.mono (fun a j z => by unfold saS at z; unfold rfS; omega))) hI1 (thr2 f1 (fun a j z => by unfold saS at z; omega))
    have slot : ∀ x : Int32, thr s x → clS x < 69 ∧ RDs M1 (clS x) (stO s x) ∧ WD (stO s x) := fun x tx => by
      unfold clS stO
      by_cases z : x = -1
      · rw [if_pos z, if_pos z]; exact ⟨by decide, hs, hd⟩
      · rw [if_neg z, if_neg z]
        rcases tx with y | ⟨y1, y2⟩
        · exact absurd y z
        · have l4 := inI_lt y1
          cases e : gKp s (iv x) with
          | none => exact absurd e y2
          | some d =>
            obtain ⟨u1, u2⟩ := (hI1.1.2.2.2.2.1 _ l4).2 d e
            exact ⟨by omega, u1, u2⟩
    obtain ⟨ca, ra, da⟩ := slot a ta
    obtain ⟨cb, rb, db⟩ := slot b tb
    rw [dfJ_is] at hfin
    have step : ∀ w : Nat, 1 ≤ w → w ≤ 4 → ((∀ k, k < 8 → dfP (stO s a) (stO s b) w k) → G 69 [some (.ref 605), some (.int a), some (.int b), some (.int (nI (w + 1)))] [] M1) → ((¬ ∀ k, k < 8 → dfP (stO s a) (stO s b) w k) → K (some (.int (nI w))) M1) → G 69 [some (.ref 605), some (.int a), some (.int b), some (.int (nI w))] [] M1 := by
      intro w w1 w4 hT hF
      have fin : sp_X13_differ [.ref 605, .int (nI (clS a)), .int (nI (clS b)), .int (nI w)] M1 (fun v M' => RX13_differs_101_1 G K [some (.ref 605), some (.int a), some (.int b), some (.int (nI w))] (v.toList ++ []) M') := by
        refine c_differ13 hW1 ca cb ⟨w1, w4⟩ da db ra rb (rX13_differs_101_1 hc hW1 ?_)
        rw [pI_0, Classical.not_not, nI_1]
        exact ⟨hT, fun z => hF z⟩
      have eA : ∀ x : Int32, (x = -1 ∨ inI x 4) → (0 ≤ x → (64 : Int32) + x = nI (clS x)) ∧ (¬ 0 ≤ x → (68 : Int32) = nI (clS x)) := fun x hx => by
        obtain ⟨x1, x2⟩ := m1_lt hx
        rw [x2]
        unfold clS
        refine ⟨fun y => ?_, fun y => ?_⟩
        · rw [if_neg (fun z => by subst z; exact absurd y (by unfold inI; decide))]
          conv => lhs; rw [inI_nI y]
          exact nI_add 64 _
        · rw [if_pos (hx.resolve_right y)]; rfl
      have g88 : G 88 [some (.ref 605), some (.int a), some (.int b), some (.int (nI w))] [.int (nI (clS a)), .ref 605] M1 := by
        refine eX13_differs_88 hc hW1 ⟨fun y => ?_, fun y => ?_⟩
        · rw [(eA b hb).1 y]; exact fin
        · rw [(eA b hb).2 y]; exact fin
      refine eX13_differs_69 hc hW1 ⟨fun z => absurd ((nI_leI (a := 5) (by decide) (by omega)).mp z) (by omega), fun _ => ⟨fun y => ?_, fun y => ?_⟩⟩
      · rw [(eA a ha).1 y]; exact g88
      · rw [(eA a ha).2 y]; exact g88
    refine step 1 (by decide) (by decide) (fun d1 => step 2 (by decide) (by decide) (fun d2 => step 3 (by decide) (by decide) (fun d3 => step 4 (by decide) (by decide) (fun d4 => ?_) (fun n4 => ?_)) (fun n3 => ?_)) (fun n2 => ?_)) (fun n1 => ?_)
    · rw [iT_t d1, iT_t d2, iT_t d3, iT_t d4] at hfin
      exact eX13_differs_69 hc hW1 ⟨fun _ => hfin, fun z => absurd (by decide) z⟩
    · rw [iT_t d1, iT_t d2, iT_t d3, iT_f n4] at hfin; exact hfin
    · rw [iT_t d1, iT_t d2, iT_f n3] at hfin; exact hfin
    · rw [iT_t d1, iT_f n2] at hfin; exact hfin
    · rw [iT_f n1] at hfin; exact hfin
  have g46 : thr s a → G 46 [some (.ref 605), some (.int a), some (.int b), none] [] (uI M 605 2 0) := by
    intro ta
    refine eX13_differs_46 hc k1 ⟨fun z => go ta (Or.inl (b1.mp z)), fun z => ?_⟩
    have hb4 : inI b 4 := hb.resolve_left (fun y => z (b1.mpr y))
    have e : gI (uI M 605 2 0) 640 b.toNatClampNeg = gI M 640 b.toNatClampNeg := thr0.i (by omega)
    rw [e]
    refine ⟨vp_of hb4 (by decide), fun y => go ta ((hthr b hb).mpr (fun _ => y)), fun y => no (fun w => (hthr b hb).mp w.2 hb4 y)⟩
  refine ⟨fun z => g46 (Or.inl (a1.mp z)), fun z => ?_⟩
  have ha4 : inI a 4 := ha.resolve_left (fun y => z (a1.mpr y))
  exact ⟨vp_of ha4 (by decide), fun y => no (fun w => (hthr a ha).mp w.1 ha4 y), fun y => g46 ((hthr a ha).mpr (fun _ => y))⟩
theorem b_count {w : Int32} (hFr : FrOK Fr) (hW : Wf M) (hI : RI Fr M s) (h : ∀ M', Wf M' → FrC rfS M M' → RI Fr M' s → gI M' 605 2 = 0 → K (some (.int (sCount w s))) M') : sp_X13_count [.ref 605, .int w] M K := by
  obtain ⟨k1, k2, k3, k4⟩ := hI.end0 hFr hW (x := 0)
  have h := h _ k1 k2 k3 k4
  obtain ⟨⟨c1, c2, c3, c4, -⟩, ⟨e1, e2, e3, e4, -, e6, e7⟩, hOk, -, ⟨l1, l2⟩, -⟩ := hI
  have hD1 := k3.dat.1
  have hs1 := k3.1.2.2.1
  have hw1 := k3.1.2.2.2.1
  unfold sCount at h
  refine wX13_count hW (fun {G} hc => ?_)
  rw [c2.2.2.2.2.1.1, e6, e7, l1, e2, e3, c2.2.2.2.2.1.2.2.2, c1.2.1]
  refine ⟨fun z => by rw [if_pos z] at h; exact h, fun n0 => ?_⟩
  rw [if_neg n0] at h
  refine ⟨fun z => by rw [if_pos z] at h; exact h, fun n1 => ?_⟩
  rw [if_neg n1] at h
  refine ⟨fun z => by rw [if_pos z] at h; exact h, fun n2 => ?_⟩
  rw [if_neg n2] at h
  refine ⟨fun z => by rw [if_pos z] at h; exact c_el13 k1 hOk.2.2.2.2 hD1 (rX13_count_89_1 hc k1 h), fun n3 => ?_⟩
  rw [if_neg n3] at h
  refine ⟨fun z => by rw [if_pos z] at h; exact h, fun n4 => ?_⟩
  rw [if_neg n4] at h
  refine ⟨fun z => by rw [if_pos z] at h; exact h, fun n5 => ?_⟩
  rw [if_neg n5] at h
  refine ⟨fun z => by rw [if_pos z] at h; exact h, fun n6 => ?_⟩
  rw [if_neg n6] at h
  refine ⟨fun z => ?_, fun n7 => ?_⟩
  · rw [if_pos z] at h
    rw [e4, blI_0]
    cases e : eEn (gX s)
    · rw [e] at h; exact ⟨fun _ => h, fun y => absurd rfl y⟩
    · rw [e] at h; exact ⟨fun y => absurd y (by decide), fun _ => h⟩
  rw [if_neg n7] at h
  refine ⟨fun z => ?_, fun n8 => ?_⟩
  · rw [if_pos z] at h
    have loop : ∀ j i : Nat, i + j = 100 → ∀ o1 : Option Value, G 124 [some (.ref 605), o1, some (.int (nI (fb_ct (gSt s) i))), some (.int (nI i))] [] (uI M 605 2 0) := by
      intro j
      induction j with
      | zero =>
        intro i hi o1
        have : i = 100 := by omega
        subst this
        exact eX13_count_124 hc k1 ⟨fun _ => h, fun q => absurd (by decide) q⟩
      | succ j ih =>
        intro i hi o1
        refine eX13_count_124 hc k1 ⟨fun q => absurd ((nI_leI (a := 100) (by decide) (by omega)).mp q) (by omega), fun _ => ⟨vpN (by omega) (by decide), ?_⟩⟩
        rw [nI_clamp (by omega), hs1 i (by omega), blI_0, nI_1]
        have ih := fun o1 => ih (i + 1) (by omega) o1
        rw [fb_ct_succ] at ih
        refine ⟨fun z => ?_, fun z => ?_⟩
        · rw [if_neg (by rw [z]; decide)] at ih
          rw [Int32.add_zero]
          exact ih _
        · have z : gSt s i = true := by simpa using z
          rw [if_pos z, ← nI_1] at ih
          exact ih _
    exact loop 100 0 rfl _
  rw [if_neg n8] at h
  refine ⟨fun z => ?_, fun n9 => ?_⟩
  · rw [if_pos z] at h
    have loop : ∀ j i : Nat, i + j = 512 → ∀ o1 : Option Value, G 157 [some (.ref 605), o1, some (.int (nI (fb_ct (wbB (gWw s)) i))), some (.int (nI i))] [] (uI M 605 2 0) := by
      intro j
      induction j with
      | zero =>
        intro i hi o1
        have : i = 512 := by omega
        subst this
        exact eX13_count_157 hc k1 ⟨fun _ => h, fun q => absurd (by decide) q⟩
      | succ j ih =>
        intro i hi o1
        refine eX13_count_157 hc k1 ⟨fun q => absurd ((nI_leI (a := 512) (by decide) (by omega)).mp q) (by omega), fun _ => ⟨vpN (by omega) (by decide), ?_⟩⟩
        rw [nI_clamp (by omega), hw1 i (by omega), blI_0, nI_1]
        have ih := fun o1 => ih (i + 1) (by omega) o1
        rw [fb_ct_succ] at ih
        refine ⟨fun z => ?_, fun z => ?_⟩
        · rw [if_neg (by rw [z]; decide)] at ih
          rw [Int32.add_zero]
          exact ih _
        · have z : wbB (gWw s) i = true := by
            cases e : wbB (gWw s) i
            · exact absurd e z
            · rfl
          rw [if_pos z, ← nI_1] at ih
          exact ih _
    exact loop 512 0 rfl _
  rw [if_neg n9] at h
  refine ⟨fun z => by rw [if_pos z] at h; exact h, fun n10 => ?_⟩
  rw [if_neg n10] at h
  refine ⟨fun z => by rw [if_pos z] at h; exact h, fun n11 => ?_⟩
  rw [if_neg n11] at h
  exact h
theorem b_code {i w : Int32} (hFr : FrOK Fr) (hW : Wf M) (hI : RI Fr M s) (h : ∀ v, sCode i w s = some v → ∀ M', Wf M' → FrC rfS M M' → RI Fr M' s → gI M' 605 2 = 0 → K (some (.long v)) M') (h1 : sCode i w s = none → ∀ M', Wf M' → FrC rfS M M' → RI Fr M' s → gI M' 605 2 = 1 → K (some (.long 0)) M') : sp_X13_code [.ref 605, .int i, .int w] M K := by
  obtain ⟨p1, p2, p3, p4, p5⟩ := hI.prog
  unfold sCode at h h1
  refine wX13_code hW (fun {G} hc => ?_)
  have no : ¬ (inI i (gPr s).1 ∧ inI w 6) → G 34 [some (.ref 605), some (.int i), some (.int w)] [.int 1, .ref 605] M := fun z => by
    rw [iT_f z] at h1
    obtain ⟨k1, k2, k3, k4⟩ := hI.end0 hFr hW (x := 1)
    exact eX13_code_34 hc hW ⟨fun y => absurd y (by decide), fun _ => h1 rfl _ k1 k2 k3 k4⟩
  rw [p4, in_M (by omega), in_N (N := 6) (by decide) (show (5 : Int64).toInt = _ from rfl)]
  refine ⟨fun z => no (fun y => z y.1), fun hi => ⟨fun z => no (fun y => z y.2), fun hw => eX13_code_34 hc hW ⟨fun _ => ?_, fun y => absurd (by decide) y⟩⟩⟩
  have hil := inI_lt hi
  have hw6 := inI_lt hw
  have ew := inI_nI hw
  have hv := p5 _ hil
  obtain ⟨r1, r2, r3⟩ := p2 _ hil
  rw [iT_t ⟨hi, hw⟩] at h
  obtain ⟨k1, k2, k3, k4⟩ := hI.end0 hFr hW (x := 0)
  have hh := h _ rfl _ k1 k2 k3 k4
  have v100 : vp_in i 100 := vp_of (N := 100) ⟨hi.1, by have := hi.2; omega⟩ (by decide)
  have w0 : (w = 0) ↔ iv w = 0 := by
    conv => lhs; rw [ew]
    exact nI_eq (b := 0) (by omega) (by decide)
  have w5 : (w = 5) ↔ iv w = 5 := by
    conv => lhs; rw [ew]
    exact nI_eq (b := 5) (by omega) (by decide)
  rw [w0, w5, cl_of hi (by omega)]
  refine ⟨fun n0 => ⟨fun n5 => ?_, fun y5 => ⟨v100, ?_⟩⟩, fun y0 => ⟨v100, ?_⟩⟩
  · have e : (4 : Int32) * i + w - (1 : Int32) = nI (4 * iv i + (iv w - 1)) := by
      conv => lhs; rw [inI_nI hi, ew]
      rw [show (4 : Int32) = nI 4 from rfl, show (1 : Int32) = nI 1 from rfl, pk_mul, nI_add, pk_sub (by omega), show 4 * iv i + iv w - 1 = 4 * iv i + (iv w - 1) by omega]
    rw [e, nI_clamp (by omega), r2 _ (by omega), show iv w - 1 + 1 = iv w by omega]
    exact ⟨vpN (by omega) (by decide), hh⟩
  · rw [r3]
    rw [y5] at hh
    have e5 : ((gPr s).2 (iv i) 5).toInt32.toInt64 = (gPr s).2 (iv i) 5 := by
      rcases (hv.at rfl).2.2 with z | ⟨-, v, v4, z⟩
      · rw [z]; rfl
      · rw [z, lN_toI, nI_toL (by omega)]
    rw [e5]; exact hh
  · rw [r1, nI_toL (by have := hv.o.1; omega), ← hv.o.2]
    rw [y0] at hh
    exact hh
def begS (a j : Nat) : Prop := (a = 605 ∧ (j = 2 ∨ j = 42 ∨ (44 ≤ j ∧ j ≤ 50) ∨ j = 59)) ∨ (a = 624 ∨ a = 625 ∨ a = 630)
/-- BEGIN, once the program stands -/
theorem c_beg13 {n n' : Nat} {x : ES} {tr : List TE} {ft : FT} (hW : Wf M) (hX : RX M n' x tr ft) (hn : gI M 605 23 = nI n ∧ n ≤ 100) (h : ∀ M', Wf M' → FrC begS M M' → RX M' n (clrD (eD x), 0, 0, eCf x, 0, 0, decide (n = 0)) [] noF → gI M' 605 2 = 0 → K none M') : sp_X13_begin [.ref 605] M K := by
  obtain ⟨⟨E1, E2, E3, E4, E5, E6, E7⟩, ⟨x1, x2, x3, x4, x5⟩, ⟨w, w1, w2, w3⟩, ⟨l1, l2⟩, hT, f1, f2, f3⟩ := hX
  have hwd : WD (clrD (eD x)) := by
    refine ⟨fun j hj => ?_, ?_⟩
    · unfold clrD dk dn di
      simp only
      by_cases w : j % 2 = 0
      · rw [if_pos w, if_pos w]
        exact ⟨Or.inl ⟨rfl, rfl⟩, fun i hi => absurd hi (by omega)⟩
      · rw [if_neg w, if_neg w]
        exact x5.1 j hj
    · have := x5.2
      exact this
  refine wX13_begin hW (fun {G} hc => ?_)
  have L2 : ∀ f p : Nat, p + f = 4 → ∀ M1, Wf M1 → FrC (fun a j => (a = 605 ∧ j = 2) ∨ a = 624 ∨ a = 625 ∨ a = 630) M M1 → gI M1 605 2 = 0 → (∀ k, k < 8 → gI M1 624 k = -1 ∧ gI M1 625 k = 0) → (∀ k, k < p → gI M1 630 k = 0) → G 35 [some (.ref 605), some (.int (nI p))] [] M1 := by
    intro f
    induction f with
    | zero =>
      intro p hp M1 hW1 fx z2 h8 h4
      have hp : p = 4 := by omega
      subst hp
      refine eX13_begin_35 hc hW1 ⟨fun _ => ?_, fun z => absurd (by decide) z⟩
      rw [fx.i (show ¬ ((605 = 605 ∧ 23 = 2) ∨ (605 : Nat) = 624 ∨ (605 : Nat) = 625 ∨ (605 : Nat) = 630) by omega), hn.1]
      have fin : ∀ b : Bool, b = decide (n = 0) → K none (uI (m_X13_noFault (uI (uL (uL (uI (uI M1 605 42 0) 605 44 0) 605 45 0) 605 46 0) 605 47 (blI b))) 605 59 0) := by
        intro b hb
        obtain ⟨M2, hM2⟩ : ∃ M2, M2 = uI (m_X13_noFault (uI (uL (uL (uI (uI M1 605 42 0) 605 44 0) 605 45 0) 605 46 0) 605 47 (blI b))) 605 59 0 := ⟨_, rfl⟩
        have g : (gI M2 605 42 = 0 ∧ gI M2 605 44 = 0 ∧ gI M2 605 47 = blI b ∧ gI M2 605 48 = 0 ∧ gI M2 605 49 = -1 ∧ gI M2 605 50 = -1 ∧ gI M2 605 59 = 0) ∧ gL M2 605 45 = 0 ∧ gL M2 605 46 = 0 := by
          rw [hM2]
          unfold m_X13_noFault
          refine ⟨⟨?_, ?_, ?_, ?_, ?_, ?_, ?_⟩, ?_, ?_⟩
          · rw [gI_uI, if_neg (by omega), gI_uI, if_neg (by omega), gI_uI, if_neg (by omega), gI_uI, if_neg (by omega), gI_uI, if_neg (by omega)]
            show gI (uI (uI M1 605 42 0) 605 44 0) 605 42 = 0
            rw [gI_uI, if_neg (by omega), gI_uI, if_pos ⟨rfl, rfl⟩]
          · rw [gI_uI, if_neg (by omega), gI_uI, if_neg (by omega), gI_uI, if_neg (by omega), gI_uI, if_neg (by omega), gI_uI, if_neg (by omega)]
            show gI (uI (uI M1 605 42 0) 605 44 0) 605 44 = 0
            rw [gI_uI, if_pos ⟨rfl, rfl⟩]
          · rw [gI_uI, if_neg (by omega), gI_uI, if_neg (by omega), gI_uI, if_neg (by omega), gI_uI, if_neg (by omega), gI_uI, if_pos ⟨rfl, rfl⟩]
          · rw [gI_uI, if_neg (by omega), gI_uI, if_neg (by omega), gI_uI, if_neg (by omega), gI_uI, if_pos ⟨rfl, rfl⟩]
          · rw [gI_uI, if_neg (by omega), gI_uI, if_neg (by omega), gI_uI, if_pos ⟨rfl, rfl⟩]
          · rw [gI_uI, if_neg (by omega), gI_uI, if_pos ⟨rfl, rfl⟩]
          · rw [gI_uI, if_pos ⟨rfl, rfl⟩]
          · show gL (uL (uL (uI (uI M1 605 42 0) 605 44 0) 605 45 0) 605 46 0) 605 45 = 0
            rw [gL_uL, if_neg (by omega), gL_uL, if_pos ⟨rfl, rfl⟩]
          · show gL (uL (uL (uI (uI M1 605 42 0) 605 44 0) 605 45 0) 605 46 0) 605 46 = 0
            rw [gL_uL, if_pos ⟨rfl, rfl⟩]
        have fy : FrC (fun a j => a = 605 ∧ (j = 42 ∨ (44 ≤ j ∧ j ≤ 50) ∨ j = 59)) M1 M2 := by
          rw [hM2]
          unfold m_X13_noFault
          exact ((((((((FrC_uI (by omega)).tr (FrC_uI (by omega))).tr (FrC_uL (by omega))).tr (FrC_uL (by omega))).tr (FrC_uI (by omega))).tr (FrC_uI (by omega))).tr (FrC_uI (by omega))).tr (FrC_uI (by omega))).tr (FrC_uI (by omega))
        rw [← hM2]
        have fz : FrC begS M M2 := (fx.mono (fun a j z => by unfold begS; omega)).tr (fy.mono (fun a j z => by unfold begS; omega))
        obtain ⟨⟨g1, g2, g3, g4, g5, g6, g7⟩, g8, g9⟩ := g
        obtain ⟨d1, d2, d3, d4⟩ := E1
        refine h M2 (fz.wf hW) fz ⟨⟨⟨fun v hv => ?_, fun v hv => ?_, fun m hm => ?_, fun k hk => ?_⟩, g1, g2, ?_, fun j hj => absurd hj (Nat.not_lt_zero _), g8, g9⟩, ⟨Nat.zero_le _, Nat.zero_le _, fun j hj => absurd hj (Nat.not_lt_zero _), fun z => ?_, hwd⟩, ⟨w, w1, ?_, trivial⟩, ⟨g7, by decide⟩, fun t ht => absurd ht (by simp), g4, g5, g6⟩ ?_
        · show gI M2 624 v = (if (2 * v) % 2 = 0 then -1 else dk (eD x) (2 * v)) ∧ gI M2 625 v = nI (if (2 * v) % 2 = 0 then 0 else dn (eD x) (2 * v)) ∧ ∀ i, i < (if (2 * v) % 2 = 0 then 0 else dn (eD x) (2 * v)) → VR _ _ _ _
          rw [if_pos (by omega), if_pos (by omega), fy.i (by omega), fy.i (by omega)]
          exact ⟨(h8 v hv).1, (h8 v hv).2, fun i hi => absurd hi (Nat.not_lt_zero i)⟩
        · show gI M2 628 v = (if (2 * v + 1) % 2 = 0 then -1 else dk (eD x) (2 * v + 1)) ∧ gI M2 629 v = nI (if (2 * v + 1) % 2 = 0 then 0 else dn (eD x) (2 * v + 1)) ∧ ∀ i, i < (if (2 * v + 1) % 2 = 0 then 0 else dn (eD x) (2 * v + 1)) → VR (if (2 * v + 1) % 2 = 0 then -1 else dk (eD x) (2 * v + 1)) (gL M2 626 (256 + 64 * v + i)) (gD M2 627 (256 + 64 * v + i)) (di (eD x) (2 * v + 1) i)
          rw [if_neg (by omega), if_neg (by omega), fz.i (by unfold begS; omega), fz.i (by unfold begS; omega)]
          obtain ⟨b1, b2, b3⟩ := d2 v hv
          refine ⟨b1, b2, fun i hi => ?_⟩
          rw [fz.l (by unfold begS; omega), fz.d (by unfold begS; omega)]
          exact b3 i hi
        · show gI M2 630 m = 0
          rw [fy.i (by omega)]; exact h4 m hm
        · show gL M2 631 k = dsc (eD x) k
          rw [fz.l (by unfold begS; omega)]; exact d4 k hk
        · show gI M2 605 47 = blI (decide (n = 0))
          rw [← hb]; exact g3
        · have z : decide (n = 0) = false := z
          have := of_decide_eq_false z
          show 0 < n
          omega
        · rw [fz.i (by unfold begS; omega)]; exact w2
        · rw [fy.i (by omega)]; exact z2
      refine ⟨fun z => fin false ?_, fun z => fin true ?_⟩
      · exact (decide_eq_false (fun y => z (by rw [y]; rfl))).symm
      · exact (decide_eq_true ((nI_eq (b := 0) (by omega) (by decide)).mp z)).symm
    | succ f ih =>
      intro p hp M1 hW1 fx z2 h8 h4
      refine eX13_begin_35 hc hW1 ⟨fun z => absurd ((nI_leI (a := 4) (by decide) (by omega)).mp z) (by omega), fun _ => ?_⟩
      rw [nI_clamp (by omega), nI_1]
      have f2 : FrC (fun a j => a = 630 ∧ j = p) M1 (uI M1 630 p 0) := FrC_uI ⟨rfl, rfl⟩
      refine ⟨vpN (by omega) (by decide), ih (p + 1) (by omega) _ (f2.wf hW1) (fx.tr (f2.mono (fun a j z => by omega))) (by rw [f2.i (by omega)]; exact z2) (fun k hk => ?_) (fun k hk => ?_)⟩
      · rw [f2.i (by omega), f2.i (by omega)]; exact h8 k hk
      · by_cases e : k = p
        · subst e; rw [gI_uI, if_pos ⟨rfl, rfl⟩]
        · rw [f2.i (by omega)]; exact h4 k (by omega)
  have L1 : ∀ f p : Nat, p + f = 8 → ∀ M1, Wf M1 → FrC (fun a j => (a = 605 ∧ j = 2) ∨ a = 624 ∨ a = 625 ∨ a = 630) M M1 → gI M1 605 2 = 0 → (∀ k, k < p → gI M1 624 k = -1 ∧ gI M1 625 k = 0) → G 7 [some (.ref 605), some (.int (nI p))] [] M1 := by
    intro f
    induction f with
    | zero =>
      intro p hp M1 hW1 fx z2 h8
      have hp : p = 8 := by omega
      subst hp
      exact eX13_begin_7 hc hW1 ⟨fun _ => L2 4 0 rfl M1 hW1 fx z2 h8 (fun k hk => absurd hk (Nat.not_lt_zero k)), fun z => absurd (by decide) z⟩
    | succ f ih =>
      intro p hp M1 hW1 fx z2 h8
      refine eX13_begin_7 hc hW1 ⟨fun z => absurd ((nI_leI (a := 8) (by decide) (by omega)).mp z) (by omega), fun _ => ?_⟩
      rw [nI_clamp (by omega), nI_1]
      have f2 : FrC (fun a j => (a = 624 ∨ a = 625) ∧ j = p) M1 (uI (uI M1 624 p (-1)) 625 p 0) := (FrC_uI ⟨Or.inl rfl, rfl⟩).tr (FrC_uI ⟨Or.inr rfl, rfl⟩)
      refine ⟨vpN (by omega) (by decide), vpN (by omega) (by decide), ih (p + 1) (by omega) _ (f2.wf hW1) (fx.tr (f2.mono (fun a j z => by omega))) (by rw [f2.i (by omega)]; exact z2) (fun k hk => ?_)⟩
      by_cases e : k = p
      · subst e
        exact ⟨by rw [gI_uI, if_neg (by omega), gI_uI, if_pos ⟨rfl, rfl⟩], by rw [gI_uI, if_pos ⟨rfl, rfl⟩]⟩
      · rw [f2.i (by omega), f2.i (by omega)]; exact h8 k (by omega)
  exact L1 8 0 rfl _ (thr0.wf hW) (thr0.mono (fun a j z => Or.inl z)) (by rw [gI_uI, if_pos ⟨rfl, rfl⟩]) (fun k hk => absurd hk (Nat.not_lt_zero k))
theorem beg_rO {a j : Nat} (h : begS a j) : ¬ rOc a j ∧ rfS a j := by
  unfold begS at h
  unfold rOc rPgc rKpc prS rfS
  omega
theorem b_begin (hFr : FrOK Fr) (hW : Wf M) (hI : RI Fr M s) (h : ∀ M', Wf M' → FrC rfS M M' → RI Fr M' (bgn s) → gI M' 605 2 = 0 → K none M') : sp_X13_begin [.ref 605] M K := by
  refine c_beg13 hW hI.2 ⟨hI.prog.2.2.2.1, hI.prog.2.2.1⟩ (fun M' hW' f hX z => h M' hW' (f.mono (fun a j z => (beg_rO z).2)) ⟨RO.run (hI.1.fr hFr f (fun a j z => (beg_rO z).1)), hX⟩ z)
end
end RBEGIN
