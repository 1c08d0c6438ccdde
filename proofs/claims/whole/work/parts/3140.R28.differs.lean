section RDIFF
section
variable {M M' : Mem} {K : RT} {s : SG} {Fr : Mem → Nat → (Nat → Nat → Int64) → Prop}
theorem b_keep {k : Int32} (hFr : FrOK Fr) (hW : Wf M) (hI : RI Fr M s) (h : ∀ M', Wf M' → FrC rfS M M' → RI Fr M' (sKeep k s).2 → gI M' 605 2 = 0 → K (some (.int (sKeep k s).1)) M') : sp_X13_keep [.ref 605, .int k] M K := by
  obtain ⟨k1, k2, k3, k4⟩ := hI.end0 hFr hW (x := 0)
  unfold sKeep at h
  refine wX13_keep hW (fun {G} hc => ?_)
  rw [in3]
  refine ⟨fun z => ?_, fun z => ?_⟩
  · rw [iT_t z] at h
    have l4 := inI_lt z
    have e : (64 : Int32) + k = nI (64 + iv k) := by
      conv => lhs; rw [inI_nI z]
      exact nI_add 64 _
    rw [e]
    refine c_save13 k1 (by omega) (fun M1 hW1 f1 sv => rX13_keep_19_4 hc hW1 ⟨vp_of z (by decide), ?_⟩)
    rw [cl_of z (by decide)]
    obtain ⟨⟨o1, o2, o3, o4, o5, o6⟩, hX⟩ := k3
    have hd : WD (gD_ s) := hX.2.1.2.2.2.2
    have hs : RDs M1 (64 + iv k) (gD_ s) := (hX.1.save hd hX.2.1.2.1 sv).1
    have f2 : FrC (fun a j => a = 640 ∧ j = iv k) M1 (uI M1 640 (iv k) 1) := FrC_uI ⟨rfl, rfl⟩
    have fx : FrC (fun a j => saS (64 + iv k) a j ∨ (a = 640 ∧ j = iv k)) (uI M 605 2 0) (uI M1 640 (iv k) 1) := (f1.mono (fun a j z => Or.inl z)).tr (f2.mono (fun a j z => Or.inr z))
    refine h _ (fx.wf k1) (k2.tr (fx.mono (fun a j z => by unfold saS at z; unfold rfS; omega))) ⟨⟨o1.fr fx (by unfold saS; omega) (fun j => by unfold saS; omega), RPg.fr (s := s) fx (fun a j z => by unfold saS at z; unfold rPgc prS; omega) o2, o3.fr fx (fun j => by unfold saS; omega), o4.fr fx (fun j => by unfold saS; omega), fun q hq => ?_, o6.fr hFr fx (by unfold saS; omega) (fun a j z => by unfold saS at z; omega)⟩, hX.fr fx (fun a j z => by unfold saS at z; unfold rXc; omega)⟩ (thr2 fx (fun a j z => by unfold saS at z; omega))
    show gI _ 640 q = blI (up1 (gKp s) (iv k) (some (gD_ s)) q).isSome ∧ ∀ d, up1 (gKp s) (iv k) (some (gD_ s)) q = some d → RDs _ (64 + q) d ∧ WD d
    by_cases y : q = iv k
    · subst y
      rw [up1_eq, gI_uI, if_pos ⟨rfl, rfl⟩]
      refine ⟨rfl, fun d hd' => ?_⟩
      injection hd' with hd'
      subst hd'
      exact ⟨RDs.fr hd f2 (fun a j z => by omega) hs, hd⟩
    · rw [up1_ne y, fx.i (by unfold saS; omega)]
      refine ⟨(o5 q hq).1, fun d hd' => ?_⟩
      obtain ⟨u1, u2⟩ := (o5 q hq).2 d hd'
      exact ⟨RDs.fr u2 fx (fun a j z => by unfold saS at z; omega) u1, u2⟩
  · rw [iT_f z] at h
    exact h _ k1 k2 k3 k4
/-- two rows of snapshots are the same -/
theorem c_areSame13 {c e p n : Nat} {k : Int32} {f g : Nat → Int64} (hW : Wf M) (hc : c < 69) (he : e < 69) (hp : p + n ≤ 768) (hk : 0 < n → isK k) (hf : ∀ i, i < n → VR k (gL M 635 (780 * c + (p + i))) (gD M 636 (768 * c + (p + i))) (f i) ∧ okJ k (f i)) (hg : ∀ i, i < n → VR k (gL M 635 (780 * e + (p + i))) (gD M 636 (768 * e + (p + i))) (g i) ∧ okJ k (g i))
    (h : K (some (.int (pI (∀ i, i < n → f i = g i)))) M) : sp_X13_areSame [.ref 605, .int (nI c), .int (nI e), .int (nI p), .int k, .int (nI n)] M K := by
  refine wX13_areSame hW (fun {G} hcl => ?_)
  have loop : ∀ j i : Nat, i + j = n → ∀ x : Int32, x = pI (∀ q, q < i → f q = g q) → G 6 [some (.ref 605), some (.int (nI c)), some (.int (nI e)), some (.int (nI p)), some (.int k), some (.int (nI n)), some (.int x), some (.int (nI (p + i)))] [] M := by
    intro j
    induction j with
    | zero =>
      intro i hi x hx
      have hi : i = n := by omega
      subst hi
      refine eX13_areSame_6 hcl hW ⟨fun _ => ⟨by rw [hx]; exact pI_01 _, by rw [hx]; exact h⟩, fun z => absurd ?_ z⟩
      rw [nI_add]; exact nI_le (Nat.le_refl _) (by omega)
    | succ j ih =>
      intro i hi x hx
      have hk' := hk (by omega)
      obtain ⟨u1, u2⟩ := hf i (by omega)
      obtain ⟨v1, v2⟩ := hg i (by omega)
      obtain ⟨b1, b2⟩ := bits_is hk' u2 u1
      obtain ⟨b3, b4⟩ := bits_is hk' v2 v1
      have e1 : ∀ a b q : Nat, nI a * nI b + nI q = nI (a * b + q) := fun a b q => by rw [pk_mul, nI_add]
      refine eX13_areSame_6 hcl hW ?_
      rw [show (780 : Int32) = nI 780 from rfl, show (768 : Int32) = nI 768 from rfl, e1, e1, e1, e1, nI_add, nI_leI (by omega) (by omega), nI_clamp (show 780 * c + (p + i) < 2 ^ 31 by omega), nI_clamp (show 780 * e + (p + i) < 2 ^ 31 by omega), nI_clamp (show 768 * c + (p + i) < 2 ^ 31 by omega), nI_clamp (show 768 * e + (p + i) < 2 ^ 31 by omega), b1, b3, nI_1, show p + i + 1 = p + (i + 1) by omega]
      refine ⟨fun z => absurd z (by omega), fun _ => ⟨fun z => ih (i + 1) (by omega) 0 (pI_f (fun y => ?_)).symm, fun z => ⟨vpN (by omega) (by decide), vpN (by omega) (by decide), b2, vpN (by omega) (by decide), vpN (by omega) (by decide), b4, fun y => ih (i + 1) (by omega) 0 (pI_f (fun w => y (w i (by omega)))).symm, fun y => ih (i + 1) (by omega) 1 (pI_t (fun q hq => ?_)).symm⟩⟩⟩
      · rw [hx, pI_0] at z
        exact z (fun q hq => y q (by omega))
      · rw [hx, pI_0, Classical.not_not] at z
        by_cases w : q = i
        · subst w; exact y
        · exact z q (by omega)
  exact loop n 0 (by omega) 1 (pI_t (fun q hq => absurd hq (Nat.not_lt_zero q))).symm
/-- what differ looks at -/
def dfP (d d' : DS) (w : Nat) (k : Nat) : Prop := if w = 1 then sameRow d d' (2 * k) else if w = 4 then sameRow d d' (2 * k + 1) else if w = 3 then dsc d k = dsc d' k else dm d (k % 4) = dm d' (k % 4)
theorem c_differ13 {c e w : Nat} {d d' : DS} (hW : Wf M) (hc : c < 69) (he : e < 69) (hw : 1 ≤ w ∧ w ≤ 4) (hd : WD d) (hd' : WD d') (hD : RDs M c d) (hD' : RDs M e d') (h : K (some (.int (pI (¬ ∀ k, k < 8 → dfP d d' w k)))) M) : sp_X13_differ [.ref 605, .int (nI c), .int (nI e), .int (nI w)] M K := by
  refine wX13_differ hW (fun {G} hcl => ?_)
  have e56 : ∀ c : Nat, (56 : Int32) * nI c = nI (56 * c) := fun c => im _ rfl
  have e780 : ∀ c : Nat, (780 : Int32) * nI c = nI (780 * c) := fun c => im _ rfl
  rw [e56, e56]
  have w1 : ((nI w : Int32) = 1) ↔ w = 1 := nI_eq (b := 1) (by omega) (by decide)
  have w4 : ((nI w : Int32) = 4) ↔ w = 4 := nI_eq (b := 4) (by omega) (by decide)
  have w3 : ((nI w : Int32) = 3) ↔ w = 3 := nI_eq (b := 3) (by omega) (by decide)
  have loop : ∀ j i : Nat, i + j = 8 → ∀ (x : Int32) (o8 o9 : Option Value), x = pI (∀ q, q < i → dfP d d' w q) → G 18 [some (.ref 605), some (.int (nI c)), some (.int (nI e)), some (.int (nI w)), some (.int x), some (.int (nI (56 * c))), some (.int (nI (56 * e))), some (.int (nI i)), o8, o9] [] M := by
    intro j
    induction j with
    | zero =>
      intro i hi x o8 o9 hx
      have hi : i = 8 := by omega
      subst hi
      refine eX13_differ_18 hcl hW ⟨fun _ => ?_, fun z => absurd (by decide) z⟩
      rw [hx, pI_0]
      refine ⟨fun z => ?_, fun z => ?_⟩
      · rw [pI_f z] at h; exact h
      · rw [pI_t z] at h; exact h
    | succ j ih =>
      intro i hi x o8 o9 hx
      have i8 : i < 8 := by omega
      have go0 : (∀ o8 o9 : Option Value, x = 0 → G 18 [some (.ref 605), some (.int (nI c)), some (.int (nI e)), some (.int (nI w)), some (.int 0), some (.int (nI (56 * c))), some (.int (nI (56 * e))), some (.int (nI (i + 1))), o8, o9] [] M) := fun o8 o9 z => ih (i + 1) (by omega) 0 o8 o9 (pI_f (fun y => by rw [hx, pI_0] at z; exact z (fun q hq => y q (by omega)))).symm
      have goF : (∀ o8 o9 : Option Value, ¬ dfP d d' w i → G 18 [some (.ref 605), some (.int (nI c)), some (.int (nI e)), some (.int (nI w)), some (.int 0), some (.int (nI (56 * c))), some (.int (nI (56 * e))), some (.int (nI (i + 1))), o8, o9] [] M) := fun o8 o9 z => ih (i + 1) (by omega) 0 o8 o9 (pI_f (fun y => z (y i (by omega)))).symm
      have goT : (∀ o8 o9 : Option Value, ¬ x = 0 → dfP d d' w i → G 18 [some (.ref 605), some (.int (nI c)), some (.int (nI e)), some (.int (nI w)), some (.int 1), some (.int (nI (56 * c))), some (.int (nI (56 * e))), some (.int (nI (i + 1))), o8, o9] [] M) := fun o8 o9 z y => ih (i + 1) (by omega) 1 o8 o9 (pI_t (fun q hq => by
        rw [hx, pI_0, Classical.not_not] at z
        by_cases u : q = i
        · subst u; exact y
        · exact z q (by omega))).symm
      refine eX13_differ_18 hcl hW ⟨fun z => absurd ((nI_leI (a := 8) (by decide) (by omega)).mp z) (by omega), fun _ => ?_⟩
      rw [w1]
      -- rows of lanes and elements
      have row : ∀ (pl st r : Nat), (w = 1 ∧ pl = 32 * i ∧ i = st ∧ r = 2 * i) ∨ (w = 4 ∧ pl = 256 + 64 * i ∧ st = 16 + i ∧ r = 2 * i + 1) → ∀ o9 : Option Value, G 52 [some (.ref 605), some (.int (nI c)), some (.int (nI e)), some (.int (nI w)), some (.int x), some (.int (nI (56 * c))), some (.int (nI (56 * e))), some (.int (nI i)), some (.int (nI st)), o9] [] M := by
        intro pl st r hr o9
        have r16 : r < 16 := by omega
        have row : ∀ (c : Nat) (d : DS), WD d → RDs M c d → gI M 637 (56 * c + st) = dk d r ∧ gI M 637 (56 * c + st + 8) = nI (dn d r) ∧ (∀ q, q < dn d r → VR (dk d r) (gL M 635 (780 * c + (pl + q))) (gD M 636 (768 * c + (pl + q))) (di d r q) ∧ okJ (dk d r) (di d r q)) ∧ (0 < dn d r → isK (dk d r)) ∧ pl + dn d r ≤ 768 := by
          intro c d hd hD
          have hw := hd.1 r r16
          have hk : 0 < dn d r → isK (dk d r) := fun y => hw.1.elim (fun u => absurd y (by omega)) (fun u => u.1)
          rcases hr with ⟨-, rfl, rfl, rfl⟩ | ⟨-, rfl, rfl, rfl⟩
          · obtain ⟨a1, a2, a3⟩ := hD.1 i i8
            have hl : dn d (2 * i) ≤ 32 := by
              rcases hw.1 with u | u
              · omega
              · exact (u.2.2 (by omega)).2
            refine ⟨a1, ?_, fun q hq => ⟨a3 q hq, hw.2 q hq⟩, hk, by omega⟩
            rw [show 56 * c + i + 8 = 56 * c + 8 + i by omega]; exact a2
          · obtain ⟨a1, a2, a3⟩ := hD.2.1 i i8
            have hl := dn_le hd r16
            refine ⟨?_, ?_, fun q hq => ⟨a3 q hq, hw.2 q hq⟩, hk, by omega⟩
            · rw [show 56 * c + (16 + i) = 56 * c + 16 + i by omega]; exact a1
            · rw [show 56 * c + (16 + i) + 8 = 56 * c + 24 + i by omega]; exact a2
        obtain ⟨a1, a2, a3, a4, a5⟩ := row c d hd hD
        obtain ⟨b1, b2, b3, b4, b5⟩ := row e d' hd' hD'
        have nl := dn_le hd r16
        have nl' := dn_le hd' r16
        have st24 : st < 24 := by omega
        have eP : dfP d d' w i ↔ sameRow d d' r := by
          unfold dfP
          rcases hr with ⟨rfl, -, -, rfl⟩ | ⟨rfl, -, -, rfl⟩
          · rw [if_pos rfl]
          · rw [if_neg (by decide), if_pos rfl]
        have ea : ∀ c : Nat, nI (56 * c) + nI st = nI (56 * c + st) := fun c => nI_add _ _
        have eb : ∀ q : Nat, nI q + (8 : Int32) = nI (q + 8) := fun q => nI_add q 8
        refine eX13_differ_52 hcl hW ?_
        rw [ea, ea, eb, eb, nI_clamp (show 56 * c + st + 8 < 2 ^ 31 by omega), nI_clamp (show 56 * c + st < 2 ^ 31 by omega), nI_clamp (show 56 * e + st < 2 ^ 31 by omega), nI_clamp (show 56 * e + st + 8 < 2 ^ 31 by omega), a1, a2, b1, b2, nI_1]
        refine ⟨vpN (by omega) (by decide), fun y1 hy1 => ⟨fun z => go0 _ _ z, fun z => ⟨vpN (by omega) (by decide), vpN (by omega) (by decide), fun y => goF _ _ (fun u => y (eP.mp u).1), fun y => ⟨vpN (by omega) (by decide), ?_⟩⟩⟩⟩
        subst hy1
        rw [nI_eq (by omega) (by omega)]
        refine ⟨fun u => goF _ _ (fun v => u (eP.mp v).2.1), fun u => ?_⟩
        have fin : G 138 [some (.ref 605), some (.int (nI c)), some (.int (nI e)), some (.int (nI w)), some (.int x), some (.int (nI (56 * c))), some (.int (nI (56 * e))), some (.int (nI i)), some (.int (nI st)), some (.int (nI (dn d r)))] [.int (nI pl), .int (nI e), .int (nI c), .ref 605] M := by
          refine eX13_differ_138 hcl hW ?_
          rw [ea, nI_clamp (show 56 * c + st < 2 ^ 31 by omega), a1]
          refine ⟨vpN (by omega) (by decide), c_areSame13 (f := di d r) (g := di d' r) hW hc he a5 a4 a3 (fun q hq => by rw [y]; exact b3 q (by omega)) (rX13_differ_138_7 hcl hW ?_)⟩
          rw [pI_0, nI_1]
          refine ⟨fun v => goF _ _ (fun t => v (eP.mp t).2.2), fun v => goT _ _ z (eP.mpr ⟨y, u, Classical.not_not.mp v⟩)⟩
        rw [w1]
        rcases hr with ⟨rfl, rfl, rfl, rfl⟩ | ⟨rfl, rfl, rfl, rfl⟩
        · refine ⟨fun v => absurd rfl v, fun _ => ?_⟩
          rw [show (32 : Int32) * nI i = nI (32 * i) from im _ rfl]
          exact fin
        · refine ⟨fun _ => ?_, fun v => absurd v (by decide)⟩
          rw [show (256 : Int32) + (64 : Int32) * nI i = nI (256 + 64 * i) by rw [show (64 : Int32) = nI 64 from rfl, show (256 : Int32) = nI 256 from rfl, pk_mul, nI_add]]
          exact fin
      refine ⟨fun z => eX13_differ_40 hcl hW ?_, fun z => eX13_differ_40 hcl hW ?_⟩
      · rw [w1, w4, w3]
        refine ⟨fun y => absurd y z, fun _ => ⟨fun y => ⟨fun u => ?_, fun u => ?_⟩, fun y => ?_⟩⟩
        · have w2 : w = 2 := by omega
          have eP : dfP d d' w i ↔ dm d (i % 4) = dm d' (i % 4) := by unfold dfP; rw [if_neg z, if_neg y, if_neg u]
          have ei : nI i - nI i / (4 : Int32) * (4 : Int32) = nI (i % 4) := pk_rem (by omega) (by decide) (by decide)
          have e32 : ∀ c : Nat, nI (56 * c) + (32 : Int32) + nI (i % 4) = nI (56 * c + 32 + i % 4) := fun c => by rw [show (32 : Int32) = nI 32 from rfl, nI_add, nI_add]
          rw [ei, e32, e32, nI_clamp (show 56 * c + 32 + i % 4 < 2 ^ 31 by omega), nI_clamp (show 56 * e + 32 + i % 4 < 2 ^ 31 by omega), nI_1]
          have g1 : gI M 637 (56 * c + 32 + i % 4) = dm d (i % 4) := hD.2.2.1 _ (by omega)
          have g2 : gI M 637 (56 * e + 32 + i % 4) = dm d' (i % 4) := hD'.2.2.1 _ (by omega)
          rw [g1, g2]
          exact ⟨fun v => go0 _ _ v, fun v => ⟨vpN (by omega) (by decide), vpN (by omega) (by decide), fun t => goF _ _ (fun r => t (eP.mp r)), fun t => goT _ _ v (eP.mpr t)⟩⟩
        · have eP : dfP d d' w i ↔ dsc d i = dsc d' i := by unfold dfP; rw [if_neg z, if_neg y, if_pos u]
          have e32 : ∀ c : Nat, (780 : Int32) * nI c + (768 : Int32) + nI i = nI (780 * c + 768 + i) := fun c => by rw [e780, show (768 : Int32) = nI 768 from rfl, nI_add, nI_add]
          rw [e32, e32, nI_clamp (show 780 * c + 768 + i < 2 ^ 31 by omega), nI_clamp (show 780 * e + 768 + i < 2 ^ 31 by omega), nI_1]
          have g1 : gL M 635 (780 * c + 768 + i) = dsc d i := hD.2.2.2 _ i8
          have g2 : gL M 635 (780 * e + 768 + i) = dsc d' i := hD'.2.2.2 _ i8
          rw [g1, g2]
          exact ⟨fun v => go0 _ _ v, fun v => ⟨vpN (by omega) (by decide), vpN (by omega) (by decide), fun t => goF _ _ (fun r => t (eP.mp r)), fun t => goT _ _ v (eP.mpr t)⟩⟩
        · rw [show (16 : Int32) + nI i = nI (16 + i) from nI_add 16 i]
          exact row _ _ _ (Or.inr ⟨y, rfl, rfl, rfl⟩) _
      · rw [w1]
        exact ⟨fun _ => row _ _ _ (Or.inl ⟨z, rfl, rfl, rfl⟩) _, fun y => absurd z y⟩
  exact loop 8 0 rfl 1 _ _ (pI_t (fun q hq => absurd hq (Nat.not_lt_zero q))).symm
theorem dfJ_is {d d' : DS} : dfJ d d' = iT (∀ k, k < 8 → dfP d d' 1 k) (iT (∀ k, k < 8 → dfP d d' 2 k) (iT (∀ k, k < 8 → dfP d d' 3 k) (iT (∀ k, k < 8 → dfP d d' 4 k) 0 4) 3) 2) 1 := by
  have e2 : (∀ k, k < 8 → dfP d d' 2 k) ↔ ∀ m, m < 4 → dm d m = dm d' m := by
    constructor
    · intro h m hm
      have := h m (by omega)
      unfold dfP at this
      rw [if_neg (by decide), if_neg (by decide), if_neg (by decide), Nat.mod_eq_of_lt hm] at this
      exact this
    · intro h k hk
      unfold dfP
      rw [if_neg (by decide), if_neg (by decide), if_neg (by decide)]
      exact h _ (by omega)
  rw [propext e2]
  rfl
end
end RDIFF
