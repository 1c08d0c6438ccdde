section RJUMPS
section
variable {M M' : Mem} {K : RT} {n i : Nat} {c : Nat → Nat → Int64}
def rJmpS (a j : Nat) : Prop := (a = 605 ∧ (j = 44 ∨ j = 47 ∨ j = 50 ∨ j = 71)) ∨ a = 631 ∨ a = 632
/-- how a jump goes on -/
def jmpC (M : Mem) (K : RT) (x : ES) (r : Int32 × Nat × Nat × (Nat → Nat) × Bool × DS) : Prop := ∀ M', Wf M' → FrC rJmpS M M' → RDc M' r.2.2.2.2.2
  → (r.1 = 0 → ((gI M' 605 71 = -1 ∧ r.2.1 = ePc x + 1) ∨ gI M' 605 71 = nI r.2.1) ∧ gI M' 605 44 = nI r.2.2.1 ∧ (∀ j, j < r.2.2.1 → gI M' 632 j = nI (r.2.2.2.1 j)) ∧ gI M' 605 47 = (if r.2.2.2.2.1 = true then 1 else gI M 605 47) ∧ gI M' 605 50 = gI M 605 50)
  → (r.1 ≠ 0 → gI M' 605 50 = -1 ∧ gI M' 605 44 = gI M 605 44 ∧ (∀ j, gI M' 632 j = gI M 632 j) ∧ gI M' 605 47 = gI M 605 47) → K (some (.int r.1)) M'
theorem c_jumps13 {x : ES} {o : Nat} (hW : Wf M) (hC : RC M n c i) (eo : cn (c i) 0 = o) (ho : 59 ≤ o ∧ o < 68) (hi : i = ePc x) (hD : RDc M (eD x)) (h44 : gI M 605 44 = nI (eK x)) (hK : eK x ≤ 16) (hcf : ∀ j, j < eK x → gI M 632 j = nI (eCf x j)) (h : jmpC M K x (leX o (c i) x)) : sp_X13_jumps [.ref 605, .int (nI i)] M K := by
  obtain ⟨L1, L2⟩ := op_let2 o (List.mem_range.mpr (by omega))
  obtain ⟨L3, L4⟩ := op_let3 o (List.mem_range.mpr (by omega))
  obtain ⟨o1, o2, o3⟩ := opI hC
  rw [eo] at o2
  have hv := hC.2.2.2.2
  have h100 := hC.2.2.1
  have hin := hC.2.2.2.1
  obtain ⟨D1, D2, D3, D4⟩ := hD
  -- the memory behind led = -1
  have fA : FrC rJmpS M (uI M 605 71 (-1)) := FrC_uI (by unfold rJmpS; omega)
  have hCA : RC (uI M 605 71 (-1)) n c i := hC.fr fA (fun a j z => by unfold rJmpS at z; unfold prS; omega)
  have hDA : RDc (uI M 605 71 (-1)) (eD x) := RDc.same (S := fun a j => a = 605) (FrC_uI rfl) (fun a j z => by omega) ⟨D1, D2, D3, D4⟩
  -- nothing leads elsewhere
  have stay : leX o (c i) x = (0, ePc x + 1, eK x, eCf x, false, eD x) → ∀ M', M' = uI M 605 71 (-1) → K (some (.int 0)) M' := fun e M' em => by
    rw [e] at h
    subst em
    exact h _ (fA.wf hW) fA hDA (fun _ => ⟨Or.inl ⟨by rw [gI_uI, if_pos ⟨rfl, rfl⟩], rfl⟩, by rw [gI_uI, if_neg (by decide)]; exact h44, fun j hj => hcf j hj, by rw [gI_uI, if_neg (by decide)]; rfl, rfl⟩) (fun z => absurd rfl z)
  have stay2 : leX o (c i) x = (0, ePc x + 1, eK x, eCf x, false, eD x) → K (some (.int 0)) (uI (uI M 605 71 (-1)) 605 71 (-1)) := fun e => by
    rw [e] at h
    have f2 : FrC rJmpS M (uI (uI M 605 71 (-1)) 605 71 (-1)) := fA.tr (FrC_uI (by unfold rJmpS; omega))
    exact h _ (f2.wf hW) f2 (RDc.same (S := fun a j => a = 605) (FrC_uI rfl) (fun a j z => by omega) hDA) (fun _ => ⟨Or.inl ⟨by rw [gI_uI, if_pos ⟨rfl, rfl⟩], rfl⟩, by rw [gI_uI, if_neg (by decide), gI_uI, if_neg (by decide)]; exact h44, fun j hj => hcf j hj, by rw [gI_uI, if_neg (by decide), gI_uI, if_neg (by decide)]; rfl, rfl⟩) (fun z => absurd rfl z)
  have go : ∀ p : Nat, leX o (c i) x = (0, p, eK x, eCf x, false, eD x) → ∀ M', M' = uI (uI M 605 71 (-1)) 605 71 (nI p) → K (some (.int 0)) M' := fun p e M' em => by
    rw [e] at h
    subst em
    have f2 : FrC rJmpS M (uI (uI M 605 71 (-1)) 605 71 (nI p)) := fA.tr (FrC_uI (by unfold rJmpS; omega))
    refine h _ (f2.wf hW) f2 (RDc.same (S := fun a j => a = 605) (FrC_uI rfl) (fun a j z => by omega) hDA) (fun _ => ⟨Or.inr (by rw [gI_uI, if_pos ⟨rfl, rfl⟩]), by rw [gI_uI, if_neg (by decide), gI_uI, if_neg (by decide)]; exact h44, fun j hj => hcf j hj, by rw [gI_uI, if_neg (by decide), gI_uI, if_neg (by decide)]; rfl, rfl⟩) (fun z => absurd rfl z)
  have fin : ∀ p : Nat, p = eK x → leX o (c i) x = (0, ePc x + 1, p, eCf x, true, eD x) → ∀ M', M' = uI (uI M 605 71 (-1)) 605 47 1 → K (some (.int 0)) M' := fun p ep e M' em => by
    rw [e] at h
    subst em ep
    have f2 : FrC rJmpS M (uI (uI M 605 71 (-1)) 605 47 1) := fA.tr (FrC_uI (by unfold rJmpS; omega))
    refine h _ (f2.wf hW) f2 (RDc.same (S := fun a j => a = 605) (FrC_uI rfl) (fun a j z => by omega) hDA) (fun _ => ⟨Or.inl ⟨by rw [gI_uI, if_neg (by decide), gI_uI, if_pos ⟨rfl, rfl⟩], rfl⟩, by rw [gI_uI, if_neg (by decide), gI_uI, if_neg (by decide)]; exact h44, fun j hj => hcf j hj, by rw [gI_uI, if_pos ⟨rfl, rfl⟩]; rfl, rfl⟩) (fun z => absurd rfl z)
  refine wX13_jumps hW (fun {G} hc => ?_)
  rw [o2, h44, show (59 : Int32) = nI 59 from rfl, show (64 : Int32) = nI 64 from rfl, show (65 : Int32) = nI 65 from rfl, show (66 : Int32) = nI 66 from rfl, show (60 : Int32) = nI 60 from rfl, show (61 : Int32) = nI 61 from rfl, show (62 : Int32) = nI 62 from rfl, nI_eq (by omega) (by omega), nI_eq (by omega) (by omega), nI_eq (by omega) (by omega), nI_eq (by omega) (by omega), nI_eq (by omega) (by omega), nI_eq (by omega) (by omega), nI_eq (by omega) (by omega), nI_leI (by omega) (by omega)]
  refine ⟨o1, fun n59 => ⟨fun g64 => ⟨fun n64 => ⟨fun n65 => ⟨fun n66 => ?_, fun e66 => ?_⟩, fun e65 => ?_⟩, fun e64 => ?_⟩, fun l64 => ?_⟩, fun e59 => ?_⟩
  · -- end
    have : o = 67 := by omega
    subst this
    exact fin _ rfl rfl _ rfl
  · -- return
    subst e66
    have er : leX 66 (c i) x = (if eK x = 0 then (0, ePc x + 1, 0, eCf x, true, eD x) else (0, eCf x (eK x - 1), eK x - 1, eCf x, false, eD x)) := rfl
    refine ⟨fun z => ?_, fun z => ?_⟩
    · have z : eK x = 0 := by
        have := (nI_leI (a := eK x) (b := 0) (by omega) (by decide)).mp z
        omega
      exact fin 0 z.symm (by rw [er, if_pos z]) _ rfl
    · have z : eK x ≠ 0 := fun y => z (by rw [y]; decide)
      rw [er, if_neg z] at h
      rw [show (1 : Int32) = nI 1 from rfl, pk_sub (by omega), nI_clamp (by omega), hcf _ (by omega)]
      have f2 : FrC rJmpS M (uI (uI (uI M 605 71 (-1)) 605 44 (nI (eK x - 1))) 605 71 (nI (eCf x (eK x - 1)))) := (fA.tr (FrC_uI (by unfold rJmpS; omega))).tr (FrC_uI (by unfold rJmpS; omega))
      refine ⟨vpN (by omega) (by decide), h _ (f2.wf hW) f2 ?_ (fun _ => ⟨Or.inr (by rw [gI_uI, if_pos ⟨rfl, rfl⟩]), by rw [gI_uI, if_neg (by decide), gI_uI, if_pos ⟨rfl, rfl⟩], fun j hj => ?_, ?_, rfl⟩) (fun z => absurd rfl z)⟩
      · exact RDc.same (S := fun a j => a = 605) ((FrC_uI (S := fun a j => a = 605) rfl).tr (FrC_uI rfl)) (fun a j z => by omega) hDA
      · have hj : j < eK x - 1 := hj
        exact hcf j (by omega)
      · rw [gI_uI, if_neg (by decide), gI_uI, if_neg (by decide), gI_uI, if_neg (by decide)]; rfl
  · -- call
    subst e65
    obtain ⟨l0, l1⟩ := L2.1 (Or.inr rfl)
    obtain ⟨a1, a2⟩ := hv.l (k := 0) h100 eo (by omega) l0
    have a1 : cn (c i) 1 ≤ n := a1
    have a2 : c i 1 = lN (cn (c i) 1) := a2
    have er : leX 65 (c i) x = (if eK x < 16 then (0, cn (c i) 1, eK x + 1, up1 (eCf x) (eK x) (ePc x + 1), false, eD x) else (7, ePc x, eK x, eCf x, false, eD x)) := rfl
    rw [show (16 : Int32) = nI 16 from rfl, nI_eq (by omega) (by omega), nI_clamp (by omega), nI_1, nI_1]
    refine ⟨fun n16 => ?_, fun e16 => ?_⟩
    · rw [er, if_pos (by omega)] at h
      have fB : FrC rJmpS M (uI (uI (uI M 605 71 (-1)) 632 (eK x) (nI (i + 1))) 605 44 (nI (eK x + 1))) := (fA.tr (FrC_uI (by unfold rJmpS; omega))).tr (FrC_uI (by unfold rJmpS; omega))
      have hCB := hC.fr fB (fun a j z => by unfold rJmpS at z; unfold prS; omega)
      obtain ⟨qb, eb⟩ := opQ hCB (k := 0) (by decide)
      have qb : q_X13_operandOf (nI i) (0 : Int32) (uI (uI (uI M 605 71 (-1)) 632 (eK x) (nI (i + 1))) 605 44 (nI (eK x + 1))) := qb
      have eb : f_X13_operandOf (nI i) (0 : Int32) (uI (uI (uI M 605 71 (-1)) 632 (eK x) (nI (i + 1))) 605 44 (nI (eK x + 1))) = (c i 1).toInt32 := eb
      rw [eb, a2, lN_toI]
      have f2 := fB.tr (FrC_uI (S := rJmpS) (a := 605) (j := 71) (x := nI (cn (c i) 1)) (by unfold rJmpS; omega))
      refine ⟨vpN (by omega) (by decide), qb, h _ (f2.wf hW) f2 ?_ (fun _ => ⟨Or.inr (by rw [gI_uI, if_pos ⟨rfl, rfl⟩]), by rw [gI_uI, if_neg (by decide), gI_uI, if_pos ⟨rfl, rfl⟩], fun j hj => ?_, ?_, rfl⟩) (fun z => absurd rfl z)⟩
      · exact RDc.same (S := fun a j => a = 605 ∨ a = 632) (((FrC_uI (Or.inr rfl)).tr (FrC_uI (Or.inl rfl))).tr (FrC_uI (Or.inl rfl))) (fun a j z => by omega) hDA
      · have hj : j < eK x + 1 := hj
        show gI _ 632 j = nI (up1 (eCf x) (eK x) (ePc x + 1) j)
        unfold up1
        rw [gI_uI, if_neg (by omega), gI_uI, if_neg (by omega), gI_uI]
        by_cases e : j = eK x
        · rw [if_pos ⟨rfl, e⟩, if_pos e, hi]
        · rw [if_neg (fun z => e z.2), if_neg e, gI_uI, if_neg (by omega)]
          exact hcf j (by omega)
      · rw [gI_uI, if_neg (by decide), gI_uI, if_neg (by decide), gI_uI, if_neg (by omega), gI_uI, if_neg (by decide)]; rfl
    · rw [er, if_neg (by omega)] at h
      unfold m_X13_failed
      have f2 : FrC rJmpS M (uI (uI M 605 71 (-1)) 605 50 (-1)) := fA.tr (FrC_uI (by unfold rJmpS; omega))
      refine h _ (f2.wf hW) f2 (RDc.same (S := fun a j => a = 605) (FrC_uI rfl) (fun a j z => by omega) hDA) (fun z => absurd z (show ¬ (7 : Int32) = 0 by decide)) (fun _ => ⟨by rw [gI_uI, if_pos ⟨rfl, rfl⟩], by rw [gI_uI, if_neg (by decide), gI_uI, if_neg (by decide)], fun j => rfl, by rw [gI_uI, if_neg (by decide), gI_uI, if_neg (by decide)]⟩)
  · -- loop
    subst e64
    obtain ⟨l0, l1, l2⟩ := L3 rfl
    obtain ⟨a1, a2⟩ := hv.s (k := 0) eo (by omega) l0
    obtain ⟨b1, b2⟩ := hv.l (k := 1) h100 eo (by omega) l1
    have a1 : cn (c i) 1 < 8 := a1
    have a2 : c i 1 = lN (cn (c i) 1) := a2
    have b1 : cn (c i) 2 ≤ n := b1
    have b2 : c i 2 = lN (cn (c i) 2) := b2
    have er : leX 64 (c i) x = (0, if dsc (eD x) (cn (c i) 1) - 1 = 0 then ePc x + 1 else cn (c i) 2, eK x, eCf x, false, setS (eD x) (cn (c i) 1) (dsc (eD x) (cn (c i) 1) - 1)) := rfl
    rw [er] at h
    obtain ⟨q0, e0⟩ := opQ hCA (k := 0) (by decide)
    have q0 : q_X13_operandOf (nI i) (0 : Int32) (uI M 605 71 (-1)) := q0
    have e0 : f_X13_operandOf (nI i) (0 : Int32) (uI M 605 71 (-1)) = (c i 1).toInt32 := e0
    rw [e0, a2, lN_toI]
    refine ⟨q0, fun y1 hy1 => ?_⟩
    rw [hy1, nI_clamp (by omega), D4 _ a1]
    have fB : FrC rJmpS M (uL (uI M 605 71 (-1)) 631 (cn (c i) 1) (dsc (eD x) (cn (c i) 1) - 1)) := fA.tr (FrC_uL (by unfold rJmpS; omega))
    have hCB := hC.fr fB (fun a j z => by unfold rJmpS at z; unfold prS; omega)
    obtain ⟨qb, eb⟩ := opQ hCB (k := 1) (by decide)
    have qb : q_X13_operandOf (nI i) (1 : Int32) (uL (uI M 605 71 (-1)) 631 (cn (c i) 1) (dsc (eD x) (cn (c i) 1) - 1)) := qb
    have eb : f_X13_operandOf (nI i) (1 : Int32) (uL (uI M 605 71 (-1)) 631 (cn (c i) 1) (dsc (eD x) (cn (c i) 1) - 1)) = (c i 2).toInt32 := eb
    have hDB : RDc (uL (uI M 605 71 (-1)) 631 (cn (c i) 1) (dsc (eD x) (cn (c i) 1) - 1)) (setS (eD x) (cn (c i) 1) (dsc (eD x) (cn (c i) 1) - 1)) := RDc.scal (S := fun b j => b = 631 ∧ j = cn (c i) 1) (FrC_uL ⟨rfl, rfl⟩) (fun b j z _ => z) hDA (by rw [gL_uL, if_pos ⟨rfl, rfl⟩])
    have v8 : vp_in (nI (cn (c i) 1)) 8 := vpN a1 (by decide)
    have last : ∀ y : Int32, ((y = -1 ∧ dsc (eD x) (cn (c i) 1) - 1 = 0) ∨ (y = nI (cn (c i) 2) ∧ ¬ dsc (eD x) (cn (c i) 1) - 1 = 0)) → K (some (.int 0)) (uI (uL (uI M 605 71 (-1)) 631 (cn (c i) 1) (dsc (eD x) (cn (c i) 1) - 1)) 605 71 y) := fun y hy => by
      have f2 := fB.tr (FrC_uI (S := rJmpS) (a := 605) (j := 71) (x := y) (by unfold rJmpS; omega))
      refine h _ (f2.wf hW) f2 (RDc.same (S := fun a j => a = 605) (FrC_uI rfl) (fun a j z => by omega) hDB) (fun _ => ⟨?_, by rw [gI_uI, if_neg (by decide), gI_uL, gI_uI, if_neg (by decide)]; exact h44, fun j hj => hcf j hj, by rw [gI_uI, if_neg (by decide), gI_uL, gI_uI, if_neg (by decide)]; rfl, rfl⟩) (fun z => absurd rfl z)
      rw [gI_uI, if_pos ⟨rfl, rfl⟩]
      rcases hy with ⟨y1, y2⟩ | ⟨y1, y2⟩
      · exact Or.inl ⟨y1, if_pos y2⟩
      · refine Or.inr ?_
        show y = nI (if dsc (eD x) (cn (c i) 1) - 1 = 0 then ePc x + 1 else cn (c i) 2)
        rw [if_neg y2]
        exact y1
    refine ⟨v8, v8, v8, fun z => last _ (Or.inl ⟨rfl, z⟩), fun z => ⟨qb, ?_⟩⟩
    rw [eb, b2, lN_toI]
    exact last _ (Or.inr ⟨rfl, z⟩)
  · -- conditional
    obtain ⟨l0, l1, l2, l3⟩ := L2.2 (by omega) (by omega)
    obtain ⟨a1, a2⟩ := hv.s (k := 0) eo (by omega) l0
    obtain ⟨b1, b2⟩ := hv.s (k := 1) eo (by omega) l1
    obtain ⟨g1, g2⟩ := hv.l (k := 2) h100 eo (by omega) l2
    have a1 : cn (c i) 1 < 8 := a1
    have a2 : c i 1 = lN (cn (c i) 1) := a2
    have b1 : cn (c i) 2 < 8 := b1
    have b2 : c i 2 = lN (cn (c i) 2) := b2
    have g1 : cn (c i) 3 ≤ n := g1
    have g2 : c i 3 = lN (cn (c i) 3) := g2
    obtain ⟨q0, e0⟩ := opQ hCA (k := 0) (by decide)
    obtain ⟨q1, e1⟩ := opQ hCA (k := 1) (by decide)
    obtain ⟨q2, e2⟩ := opQ hCA (k := 2) (by decide)
    have q0 : q_X13_operandOf (nI i) (0 : Int32) (uI M 605 71 (-1)) := q0
    have e0 : f_X13_operandOf (nI i) (0 : Int32) (uI M 605 71 (-1)) = (c i 1).toInt32 := e0
    have q1 : q_X13_operandOf (nI i) (1 : Int32) (uI M 605 71 (-1)) := q1
    have e1 : f_X13_operandOf (nI i) (1 : Int32) (uI M 605 71 (-1)) = (c i 2).toInt32 := e1
    have q2 : q_X13_operandOf (nI i) (2 : Int32) (uI M 605 71 (-1)) := q2
    have e2 : f_X13_operandOf (nI i) (2 : Int32) (uI M 605 71 (-1)) = (c i 3).toInt32 := e2
    have er := leX_cj (c := c i) (x := x) (o := o) (by omega)
    rw [e0, e1, a2, b2, lN_toI, lN_toI, nI_clamp (show cn (c i) 1 < 2 ^ 31 by omega), nI_clamp (show cn (c i) 2 < 2 ^ 31 by omega), D4 _ a1, D4 _ b1]
    refine ⟨q0, vpN a1 (by decide), fun y2 hy2 => ⟨q1, vpN b1 (by decide), fun y3 hy3 => ?_⟩⟩
    subst hy2 hy3
    have no : ¬ jS o (dsc (eD x) (cn (c i) 1)) (dsc (eD x) (cn (c i) 2)) → G 137 [some (.ref 605), some (.int (nI i)), some (.int (nI o)), some (.long (dsc (eD x) (cn (c i) 1))), none, some (.long (dsc (eD x) (cn (c i) 2))), none, none] [.int 0] (uI M 605 71 (-1)) := fun z => by
      refine eX13_jumps_137 hc (fA.wf hW) ⟨fun _ => stay2 ?_, fun y => absurd rfl y⟩
      rw [er, iT_f z]
    have yes : jS o (dsc (eD x) (cn (c i) 1)) (dsc (eD x) (cn (c i) 2)) → G 137 [some (.ref 605), some (.int (nI i)), some (.int (nI o)), some (.long (dsc (eD x) (cn (c i) 1))), none, some (.long (dsc (eD x) (cn (c i) 2))), none, none] [.int 1] (uI M 605 71 (-1)) := fun z => by
      refine eX13_jumps_137 hc (fA.wf hW) ⟨fun y => absurd y (by decide), fun _ => ⟨q2, ?_⟩⟩
      rw [e2, g2, lN_toI]
      exact go _ (by rw [er, iT_t z]) _ rfl
    unfold jS at no yes
    refine ⟨fun n60 => ⟨fun n61 => ⟨fun n62 => ⟨fun z => no (fun y => ?_), fun z => yes ?_⟩, fun e62 => ⟨fun z => no (fun y => ?_), fun z => yes ?_⟩⟩, fun e61 => ⟨fun z => no (fun y => ?_), fun z => yes ?_⟩⟩, fun e60 => ⟨fun z => no (fun y => ?_), fun z => yes ?_⟩⟩
    · rcases y with y | y | y | y
      · omega
      · omega
      · omega
      · rw [i64_lt] at z; exact z y.2
    · refine Or.inr (Or.inr (Or.inr ⟨by omega, ?_⟩))
      rw [i64_lt] at z
      exact Classical.not_not.mp z
    · rcases y with y | y | y | y
      · omega
      · omega
      · have := y.2; rw [i64_lt] at this; exact this z
      · omega
    · exact Or.inr (Or.inr (Or.inl ⟨e62, (i64_lt _ _).mpr z⟩))
    · rcases y with y | y | y | y
      · omega
      · exact y.2 z
      · omega
      · omega
    · exact Or.inr (Or.inl ⟨e61, z⟩)
    · rcases y with y | y | y | y
      · exact z y.2
      · omega
      · omega
      · omega
    · exact Or.inl ⟨e60, z⟩
  · -- jump
    subst e59
    obtain ⟨l0, l1⟩ := L2.1 (Or.inl rfl)
    obtain ⟨a1, a2⟩ := hv.l (k := 0) h100 eo (by omega) l0
    have a1 : cn (c i) 1 ≤ n := a1
    have a2 : c i 1 = lN (cn (c i) 1) := a2
    obtain ⟨q0, e0⟩ := opQ hCA (k := 0) (by decide)
    have q0 : q_X13_operandOf (nI i) (0 : Int32) (uI M 605 71 (-1)) := q0
    have e0 : f_X13_operandOf (nI i) (0 : Int32) (uI M 605 71 (-1)) = (c i 1).toInt32 := e0
    rw [e0, a2, lN_toI]
    exact ⟨q0, go _ rfl _ rfl⟩
end
end RJUMPS
