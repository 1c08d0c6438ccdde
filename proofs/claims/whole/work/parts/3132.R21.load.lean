section RLOAD
section
variable {M M' : Mem} {K : RT}
def loS (a j : Nat) : Prop := (624 ≤ a ∧ a ≤ 632) ∨ (a = 605 ∧ (j = 42 ∨ j = 44 ∨ j = 45 ∨ j = 46 ∨ j = 47))
/-- M' holds what snapshot c of M is -/
def ldEq (M' M : Mem) (c : Nat) : Prop := (∀ k, k < 768 → gL M' 626 k = gL M 635 (780 * c + k) ∧ gD M' 627 k = gD M 636 (768 * c + k)) ∧ (∀ k, k < 8 → gI M' 624 k = gI M 637 (56 * c + k) ∧ gI M' 625 k = gI M 637 (56 * c + 8 + k) ∧ gI M' 628 k = gI M 637 (56 * c + 16 + k) ∧ gI M' 629 k = gI M 637 (56 * c + 24 + k) ∧ gL M' 631 k = gL M 635 (780 * c + 768 + k)) ∧ (∀ k, k < 4 → gI M' 630 k = gI M 637 (56 * c + 32 + k)) ∧ (gI M' 605 42 = gI M 637 (56 * c + 36) ∧ gI M' 605 44 = gI M 637 (56 * c + 37) ∧ gI M' 605 47 = (if gI M 637 (56 * c + 38) = 1 then 1 else 0)) ∧ (∀ k, k < 16 → gI M' 632 k = gI M 637 (56 * c + 40 + k)) ∧ gL M' 605 45 = gL M 638 c ∧ gL M' 605 46 = gL M 639 c
theorem c_load13 {c : Nat} (hW : Wf M) (hc : c < 69) (h : ∀ M', Wf M' → FrC loS M M' → ldEq M' M c → K none M') : sp_X13_load [.ref 605, .int (nI c)] M K := by
  refine wX13_load hW (fun {G} hcl => ?_)
  have e56 : (56 : Int32) * nI c = nI (56 * c) := im _ rfl
  have e780 : (780 : Int32) * nI c = nI (780 * c) := im _ rfl
  have e768 : (768 : Int32) * nI c = nI (768 * c) := im _ rfl
  have L4 : ∀ f p : Nat, p + f = 16 → ∀ M1, Wf M1 → FrC loS M M1 → (∀ k, k < 768 → gL M1 626 k = gL M 635 (780 * c + k) ∧ gD M1 627 k = gD M 636 (768 * c + k)) → (∀ k, k < 8 → gI M1 624 k = gI M 637 (56 * c + k) ∧ gI M1 625 k = gI M 637 (56 * c + 8 + k) ∧ gI M1 628 k = gI M 637 (56 * c + 16 + k) ∧ gI M1 629 k = gI M 637 (56 * c + 24 + k) ∧ gL M1 631 k = gL M 635 (780 * c + 768 + k)) → (∀ k, k < 4 → gI M1 630 k = gI M 637 (56 * c + 32 + k)) → (gI M1 605 42 = gI M 637 (56 * c + 36) ∧ gI M1 605 44 = gI M 637 (56 * c + 37) ∧ gI M1 605 47 = (if gI M 637 (56 * c + 38) = 1 then 1 else 0)) → (∀ k, k < p → gI M1 632 k = gI M 637 (56 * c + 40 + k)) → G 237 [some (.ref 605), some (.int (nI c)), some (.int (nI (56 * c))), some (.int (nI p))] [] M1 := by
    intro f
    induction f with
    | zero =>
      intro p hp M1 hW1 f1 h1 h2 h3 h4 h5
      have hp : p = 16 := by omega
      subst hp
      refine eX13_load_237 hcl hW1 ⟨fun _ => ?_, fun z => absurd (by decide) z⟩
      rw [nI_clamp (show c < 2 ^ 31 by omega)]
      have f2 : FrC (fun a j => a = 605 ∧ (j = 45 ∨ j = 46)) M1 (uL (uL M1 605 45 (gL M1 638 c)) 605 46 (gL M1 639 c)) := (FrC_uL ⟨rfl, Or.inl rfl⟩).tr (FrC_uL ⟨rfl, Or.inr rfl⟩)
      refine ⟨vpN hc (by decide), vpN hc (by decide), h _ (f2.wf hW1) (f1.tr (f2.mono (fun a j z => by unfold loS; omega))) ⟨fun k hk => ?_, fun k hk => ?_, fun k hk => ?_, ?_, fun k hk => ?_, ?_, ?_⟩⟩
      · rw [f2.l (by omega), f2.d (by omega)]; exact h1 k hk
      · rw [f2.i (by omega), f2.i (by omega), f2.i (by omega), f2.i (by omega), f2.l (by omega)]; exact h2 k hk
      · rw [f2.i (by omega)]; exact h3 k hk
      · rw [f2.i (by omega), f2.i (by omega), f2.i (by omega)]; exact h4
      · rw [f2.i (by omega)]; exact h5 k hk
      · rw [gL_uL, if_neg (by omega), gL_uL, if_pos ⟨rfl, rfl⟩, f1.l (by unfold loS; omega)]
      · rw [gL_uL, if_pos ⟨rfl, rfl⟩, f1.l (by unfold loS; omega)]
    | succ f ih =>
      intro p hp M1 hW1 f1 h1 h2 h3 h4 h5
      refine eX13_load_237 hcl hW1 ⟨fun z => absurd ((nI_leI (a := 16) (by decide) (by omega)).mp z) (by omega), fun _ => ?_⟩
      have ei : nI (56 * c) + (40 : Int32) + nI p = nI (56 * c + 40 + p) := by rw [show (40 : Int32) = nI 40 from rfl, nI_add, nI_add]
      rw [ei, nI_clamp (show p < 2 ^ 31 by omega), nI_clamp (show 56 * c + 40 + p < 2 ^ 31 by omega), nI_1]
      have f2 : FrC (fun a j => a = 632 ∧ j = p) M1 (uI M1 632 p (gI M1 637 (56 * c + 40 + p))) := FrC_uI ⟨rfl, rfl⟩
      refine ⟨vpN (by omega) (by decide), vpN (by omega) (by decide), ih (p + 1) (by omega) _ (f2.wf hW1) (f1.tr (f2.mono (fun a j z => by unfold loS; omega))) (fun k hk => ?_) (fun k hk => ?_) (fun k hk => ?_) ?_ (fun k hk => ?_)⟩
      · rw [f2.l (by omega), f2.d (by omega)]; exact h1 k hk
      · rw [f2.i (by omega), f2.i (by omega), f2.i (by omega), f2.i (by omega), f2.l (by omega)]; exact h2 k hk
      · rw [f2.i (by omega)]; exact h3 k hk
      · rw [f2.i (by omega), f2.i (by omega), f2.i (by omega)]; exact h4
      · by_cases e : k = p
        · subst e; rw [gI_uI, if_pos ⟨rfl, rfl⟩, f1.i (by unfold loS; omega)]
        · rw [f2.i (by omega)]; exact h5 k (by omega)
  have L3 : ∀ f p : Nat, p + f = 4 → ∀ M1, Wf M1 → FrC loS M M1 → (∀ k, k < 768 → gL M1 626 k = gL M 635 (780 * c + k) ∧ gD M1 627 k = gD M 636 (768 * c + k)) → (∀ k, k < 8 → gI M1 624 k = gI M 637 (56 * c + k) ∧ gI M1 625 k = gI M 637 (56 * c + 8 + k) ∧ gI M1 628 k = gI M 637 (56 * c + 16 + k) ∧ gI M1 629 k = gI M 637 (56 * c + 24 + k) ∧ gL M1 631 k = gL M 635 (780 * c + 768 + k)) → (∀ k, k < p → gI M1 630 k = gI M 637 (56 * c + 32 + k)) → G 159 [some (.ref 605), some (.int (nI c)), some (.int (nI (56 * c))), some (.int (nI p))] [] M1 := by
    intro f
    induction f with
    | zero =>
      intro p hp M1 hW1 f1 h1 h2 h3
      have hp : p = 4 := by omega
      subst hp
      have e36 : nI (56 * c) + (36 : Int32) = nI (56 * c + 36) := ia _ (a := 36) rfl _ rfl
      have e37 : nI (56 * c) + (37 : Int32) = nI (56 * c + 37) := ia _ (a := 37) rfl _ rfl
      have e38 : nI (56 * c) + (38 : Int32) = nI (56 * c + 38) := ia _ (a := 38) rfl _ rfl
      refine eX13_load_159 hcl hW1 ⟨fun _ => ?_, fun z => absurd (by decide) z⟩
      rw [e36, e37, e38, nI_clamp (show 56 * c + 36 < 2 ^ 31 by omega), nI_clamp (show 56 * c + 37 < 2 ^ 31 by omega), nI_clamp (show 56 * c + 38 < 2 ^ 31 by omega), f1.i (show ¬ loS 637 (56 * c + 36) by unfold loS; omega), f1.i (show ¬ loS 637 (56 * c + 37) by unfold loS; omega), f1.i (show ¬ loS 637 (56 * c + 38) by unfold loS; omega)]
      have go : ∀ y : Int32, y = (if gI M 637 (56 * c + 38) = 1 then 1 else 0) → G 237 [some (.ref 605), some (.int (nI c)), some (.int (nI (56 * c))), some (.int 0)] [] (uI (uI (uI M1 605 42 (gI M 637 (56 * c + 36))) 605 44 (gI M 637 (56 * c + 37))) 605 47 y) := by
        intro y hy
        have f2 : FrC (fun a j => a = 605 ∧ (j = 42 ∨ j = 44 ∨ j = 47)) M1 (uI (uI (uI M1 605 42 (gI M 637 (56 * c + 36))) 605 44 (gI M 637 (56 * c + 37))) 605 47 y) := ((FrC_uI ⟨rfl, Or.inl rfl⟩).tr (FrC_uI ⟨rfl, Or.inr (Or.inl rfl)⟩)).tr (FrC_uI ⟨rfl, Or.inr (Or.inr rfl)⟩)
        refine L4 16 0 rfl _ (f2.wf hW1) (f1.tr (f2.mono (fun a j z => by unfold loS; omega))) (fun k hk => ?_) (fun k hk => ?_) (fun k hk => ?_) ⟨?_, ?_, ?_⟩ (fun k hk => absurd hk (Nat.not_lt_zero k))
        · rw [f2.l (by omega), f2.d (by omega)]; exact h1 k hk
        · rw [f2.i (by omega), f2.i (by omega), f2.i (by omega), f2.i (by omega), f2.l (by omega)]; exact h2 k hk
        · rw [f2.i (by omega)]; exact h3 k hk
        · rw [gI_uI, if_neg (by omega), gI_uI, if_neg (by omega), gI_uI, if_pos ⟨rfl, rfl⟩]
        · rw [gI_uI, if_neg (by omega), gI_uI, if_pos ⟨rfl, rfl⟩]
        · rw [gI_uI, if_pos ⟨rfl, rfl⟩, hy]
      exact ⟨vpN (by omega) (by decide), vpN (by omega) (by decide), vpN (by omega) (by decide), fun z => go 0 (if_neg z).symm, fun z => go 1 (if_pos z).symm⟩
    | succ f ih =>
      intro p hp M1 hW1 f1 h1 h2 h3
      refine eX13_load_159 hcl hW1 ⟨fun z => absurd ((nI_leI (a := 4) (by decide) (by omega)).mp z) (by omega), fun _ => ?_⟩
      have ei : nI (56 * c) + (32 : Int32) + nI p = nI (56 * c + 32 + p) := by rw [show (32 : Int32) = nI 32 from rfl, nI_add, nI_add]
      rw [ei, nI_clamp (show p < 2 ^ 31 by omega), nI_clamp (show 56 * c + 32 + p < 2 ^ 31 by omega), nI_1]
      have f2 : FrC (fun a j => a = 630 ∧ j = p) M1 (uI M1 630 p (gI M1 637 (56 * c + 32 + p))) := FrC_uI ⟨rfl, rfl⟩
      refine ⟨vpN (by omega) (by decide), vpN (by omega) (by decide), ih (p + 1) (by omega) _ (f2.wf hW1) (f1.tr (f2.mono (fun a j z => by unfold loS; omega))) (fun k hk => ?_) (fun k hk => ?_) (fun k hk => ?_)⟩
      · rw [f2.l (by omega), f2.d (by omega)]; exact h1 k hk
      · rw [f2.i (by omega), f2.i (by omega), f2.i (by omega), f2.i (by omega), f2.l (by omega)]; exact h2 k hk
      · by_cases e : k = p
        · subst e; rw [gI_uI, if_pos ⟨rfl, rfl⟩, f1.i (by unfold loS; omega)]
        · rw [f2.i (by omega)]; exact h3 k (by omega)
  have L2 : ∀ f p : Nat, p + f = 8 → ∀ M1, Wf M1 → FrC loS M M1 → (∀ k, k < 768 → gL M1 626 k = gL M 635 (780 * c + k) ∧ gD M1 627 k = gD M 636 (768 * c + k)) → (∀ k, k < p → gI M1 624 k = gI M 637 (56 * c + k) ∧ gI M1 625 k = gI M 637 (56 * c + 8 + k) ∧ gI M1 628 k = gI M 637 (56 * c + 16 + k) ∧ gI M1 629 k = gI M 637 (56 * c + 24 + k) ∧ gL M1 631 k = gL M 635 (780 * c + 768 + k)) → G 58 [some (.ref 605), some (.int (nI c)), some (.int (nI (56 * c))), some (.int (nI p))] [] M1 := by
    intro f
    induction f with
    | zero =>
      intro p hp M1 hW1 f1 h1 h2
      have hp : p = 8 := by omega
      subst hp
      exact eX13_load_58 hcl hW1 ⟨fun _ => L3 4 0 rfl M1 hW1 f1 h1 h2 (fun k hk => absurd hk (Nat.not_lt_zero k)), fun z => absurd (by decide) z⟩
    | succ f ih =>
      intro p hp M1 hW1 f1 h1 h2
      refine eX13_load_58 hcl hW1 ⟨fun z => absurd ((nI_leI (a := 8) (by decide) (by omega)).mp z) (by omega), fun _ => ?_⟩
      have a1 : (780 : Int32) * nI c + (768 : Int32) + nI p = nI (780 * c + 768 + p) := by rw [e780, show (768 : Int32) = nI 768 from rfl, nI_add, nI_add]
      have a2 : nI (56 * c) + nI p = nI (56 * c + p) := nI_add _ _
      have a3 : nI (56 * c) + (8 : Int32) + nI p = nI (56 * c + 8 + p) := by rw [show (8 : Int32) = nI 8 from rfl, nI_add, nI_add]
      have a4 : nI (56 * c) + (16 : Int32) + nI p = nI (56 * c + 16 + p) := by rw [show (16 : Int32) = nI 16 from rfl, nI_add, nI_add]
      have a5 : nI (56 * c) + (24 : Int32) + nI p = nI (56 * c + 24 + p) := by rw [show (24 : Int32) = nI 24 from rfl, nI_add, nI_add]
      rw [a1, a2, a3, a4, a5, nI_clamp (show p < 2 ^ 31 by omega), nI_clamp (show 780 * c + 768 + p < 2 ^ 31 by omega), nI_clamp (show 56 * c + p < 2 ^ 31 by omega), nI_clamp (show 56 * c + 8 + p < 2 ^ 31 by omega), nI_clamp (show 56 * c + 16 + p < 2 ^ 31 by omega), nI_clamp (show 56 * c + 24 + p < 2 ^ 31 by omega), nI_1]
      have f2 : FrC (fun a j => (a = 631 ∨ a = 624 ∨ a = 625 ∨ a = 628 ∨ a = 629) ∧ j = p) M1 (uI (uI (uI (uI (uL M1 631 p (gL M1 635 (780 * c + 768 + p))) 624 p (gI M1 637 (56 * c + p))) 625 p (gI M1 637 (56 * c + 8 + p))) 628 p (gI M1 637 (56 * c + 16 + p))) 629 p (gI M1 637 (56 * c + 24 + p))) := ((((FrC_uL (by omega)).tr (FrC_uI (by omega))).tr (FrC_uI (by omega))).tr (FrC_uI (by omega))).tr (FrC_uI (by omega))
      refine ⟨vpN (by omega) (by decide), vpN (by omega) (by decide), vpN (by omega) (by decide), vpN (by omega) (by decide), vpN (by omega) (by decide), vpN (by omega) (by decide), vpN (by omega) (by decide), vpN (by omega) (by decide), vpN (by omega) (by decide), vpN (by omega) (by decide), ih (p + 1) (by omega) _ (f2.wf hW1) (f1.tr (f2.mono (fun a j z => by unfold loS; omega))) (fun k hk => ?_) (fun k hk => ?_)⟩
      · rw [f2.l (by omega), f2.d (by omega)]; exact h1 k hk
      · by_cases e : k = p
        · subst e
          refine ⟨?_, ?_, ?_, ?_, ?_⟩
          · rw [gI_uI, if_neg (by omega), gI_uI, if_neg (by omega), gI_uI, if_neg (by omega), gI_uI, if_pos ⟨rfl, rfl⟩, f1.i (by unfold loS; omega)]
          · rw [gI_uI, if_neg (by omega), gI_uI, if_neg (by omega), gI_uI, if_pos ⟨rfl, rfl⟩, f1.i (by unfold loS; omega)]
          · rw [gI_uI, if_neg (by omega), gI_uI, if_pos ⟨rfl, rfl⟩, f1.i (by unfold loS; omega)]
          · rw [gI_uI, if_pos ⟨rfl, rfl⟩, f1.i (by unfold loS; omega)]
          · rw [gL_uI, gL_uI, gL_uI, gL_uI, gL_uL, if_pos ⟨rfl, rfl⟩, f1.l (by unfold loS; omega)]
        · rw [f2.i (by omega), f2.i (by omega), f2.i (by omega), f2.i (by omega), f2.l (by omega)]; exact h2 k (by omega)
  have L1 : ∀ f p : Nat, p + f = 768 → ∀ M1, ∀ o3 : Option Value, Wf M1 → FrC loS M M1 → (∀ k, k < p → gL M1 626 k = gL M 635 (780 * c + k) ∧ gD M1 627 k = gD M 636 (768 * c + k)) → G 2 [some (.ref 605), some (.int (nI c)), some (.int (nI p)), o3] [] M1 := by
    intro f
    induction f with
    | zero =>
      intro p hp M1 o3 hW1 f1 h1
      have hp : p = 768 := by omega
      subst hp
      refine eX13_load_2 hcl hW1 ⟨fun _ => ?_, fun z => absurd (by decide) z⟩
      rw [e56]
      exact L2 8 0 rfl M1 hW1 f1 h1 (fun k hk => absurd hk (Nat.not_lt_zero k))
    | succ f ih =>
      intro p hp M1 o3 hW1 f1 h1
      refine eX13_load_2 hcl hW1 ⟨fun z => absurd ((nI_leI (a := 768) (by decide) (by omega)).mp z) (by omega), fun _ => ?_⟩
      have a1 : (780 : Int32) * nI c + nI p = nI (780 * c + p) := by rw [e780, nI_add]
      have a2 : (768 : Int32) * nI c + nI p = nI (768 * c + p) := by rw [e768, nI_add]
      rw [a1, a2, nI_clamp (show p < 2 ^ 31 by omega), nI_clamp (show 780 * c + p < 2 ^ 31 by omega), nI_clamp (show 768 * c + p < 2 ^ 31 by omega), nI_1]
      have f2 : FrC (fun a j => (a = 626 ∨ a = 627) ∧ j = p) M1 (uD (uL M1 626 p (gL M1 635 (780 * c + p))) 627 p (gD M1 636 (768 * c + p))) := (FrC_uL ⟨Or.inl rfl, rfl⟩).tr (FrC_uD ⟨Or.inr rfl, rfl⟩)
      refine ⟨vpN (by omega) (by decide), vpN (by omega) (by decide), vpN (by omega) (by decide), vpN (by omega) (by decide), ih (p + 1) (by omega) _ _ (f2.wf hW1) (f1.tr (f2.mono (fun a j z => by unfold loS; omega))) (fun k hk => ?_)⟩
      by_cases e : k = p
      · subst e
        rw [gL_uD, gL_uL, gD_uD, if_pos ⟨rfl, rfl⟩, if_pos ⟨rfl, rfl⟩, f1.l (by unfold loS; omega), f1.d (by unfold loS; omega)]
        exact ⟨rfl, rfl⟩
      · rw [f2.l (by omega), f2.d (by omega)]; exact h1 k (by omega)
  exact L1 768 0 rfl M _ hW FrC.rf (fun k hk => absurd hk (Nat.not_lt_zero k))
theorem REs.load {c : Nat} {x : ES} (hd : WD (eD x)) (hK : eK x ≤ 16) (h : REs M c x) (hs : ldEq M' M c) : REc M' x := by
  obtain ⟨s1, s2, s3, ⟨s4, s5, s6⟩, s7, s8, s9⟩ := hs
  obtain ⟨h1, h2, h3, h4, h5, h6, h7⟩ := h
  refine ⟨RDv.cong hd h1 s2 s1 s3, s4.trans h2, s5.trans h3, ?_, fun j hj => (s7 j (by omega)).trans (h5 j hj), s8.trans h6, s9.trans h7⟩
  rw [s6, h4]
  cases eEn x <;> rfl
/-- a snapshot moved -/
def mvEq (M' M : Mem) (c t : Nat) : Prop := (∀ k, k < 776 → gL M' 635 (780 * t + k) = gL M 635 (780 * c + k)) ∧ (∀ k, k < 768 → gD M' 636 (768 * t + k) = gD M 636 (768 * c + k)) ∧ (∀ k, k < 56 → gI M' 637 (56 * t + k) = gI M 637 (56 * c + k)) ∧ gL M' 638 t = gL M 638 c ∧ gL M' 639 t = gL M 639 c
theorem c_move13 {c t : Nat} (hW : Wf M) (hc : c < 69) (ht : t < 69) (hct : c ≠ t) (h : ∀ M', Wf M' → FrC (saS t) M M' → mvEq M' M c t → K none M') : sp_X13_move [.ref 605, .int (nI c), .int (nI t)] M K := by
  refine wX13_move hW (fun {G} hcl => ?_)
  have e56 : ∀ c, (56 : Int32) * nI c = nI (56 * c) := fun c => im _ rfl
  have e780 : ∀ c, (780 : Int32) * nI c = nI (780 * c) := fun c => im _ rfl
  have e768 : ∀ c, (768 : Int32) * nI c = nI (768 * c) := fun c => im _ rfl
  have L3 : ∀ f p : Nat, p + f = 56 → ∀ M1, Wf M1 → FrC (saS t) M M1 → (∀ k, k < 776 → gL M1 635 (780 * t + k) = gL M 635 (780 * c + k)) → (∀ k, k < 768 → gD M1 636 (768 * t + k) = gD M 636 (768 * c + k)) → (∀ k, k < p → gI M1 637 (56 * t + k) = gI M 637 (56 * c + k)) → G 80 [some (.ref 605), some (.int (nI c)), some (.int (nI t)), some (.int (nI p))] [] M1 := by
    intro f
    induction f with
    | zero =>
      intro p hp M1 hW1 f1 h1 h2 h3
      have hp : p = 56 := by omega
      subst hp
      refine eX13_move_80 hcl hW1 ⟨fun _ => ?_, fun z => absurd (by decide) z⟩
      rw [nI_clamp (show c < 2 ^ 31 by omega), nI_clamp (show t < 2 ^ 31 by omega)]
      have f2 : FrC (fun a j => (a = 638 ∨ a = 639) ∧ j = t) M1 (uL (uL M1 638 t (gL M1 638 c)) 639 t (gL M1 639 c)) := (FrC_uL ⟨Or.inl rfl, rfl⟩).tr (FrC_uL ⟨Or.inr rfl, rfl⟩)
      refine ⟨vpN hc (by decide), vpN ht (by decide), vpN hc (by decide), vpN ht (by decide), h _ (f2.wf hW1) (f1.tr (f2.mono (fun a j z => by unfold saS; omega))) ⟨fun k hk => ?_, fun k hk => ?_, fun k hk => ?_, ?_, ?_⟩⟩
      · rw [f2.l (by omega)]; exact h1 k hk
      · rw [f2.d (by omega)]; exact h2 k hk
      · rw [f2.i (by omega)]; exact h3 k hk
      · rw [gL_uL, if_neg (by omega), gL_uL, if_pos ⟨rfl, rfl⟩, f1.l (by unfold saS; omega)]
      · rw [gL_uL, if_pos ⟨rfl, rfl⟩, f1.l (by unfold saS; omega)]
    | succ f ih =>
      intro p hp M1 hW1 f1 h1 h2 h3
      refine eX13_move_80 hcl hW1 ⟨fun z => absurd ((nI_leI (a := 56) (by decide) (by omega)).mp z) (by omega), fun _ => ?_⟩
      rw [e56, e56, nI_add, nI_add, nI_clamp (show 56 * c + p < 2 ^ 31 by omega), nI_clamp (show 56 * t + p < 2 ^ 31 by omega), nI_1]
      have f2 : FrC (fun a j => a = 637 ∧ j = 56 * t + p) M1 (uI M1 637 (56 * t + p) (gI M1 637 (56 * c + p))) := FrC_uI ⟨rfl, rfl⟩
      refine ⟨vpN (by omega) (by decide), vpN (by omega) (by decide), ih (p + 1) (by omega) _ (f2.wf hW1) (f1.tr (f2.mono (fun a j z => by unfold saS; omega))) (fun k hk => ?_) (fun k hk => ?_) (fun k hk => ?_)⟩
      · rw [f2.l (by omega)]; exact h1 k hk
      · rw [f2.d (by omega)]; exact h2 k hk
      · by_cases e : k = p
        · subst e; rw [gI_uI, if_pos ⟨rfl, rfl⟩, f1.i (by unfold saS; omega)]
        · rw [f2.i (by omega)]; exact h3 k (by omega)
  have L2 : ∀ f p : Nat, p + f = 768 → ∀ M1, Wf M1 → FrC (saS t) M M1 → (∀ k, k < 776 → gL M1 635 (780 * t + k) = gL M 635 (780 * c + k)) → (∀ k, k < p → gD M1 636 (768 * t + k) = gD M 636 (768 * c + k)) → G 41 [some (.ref 605), some (.int (nI c)), some (.int (nI t)), some (.int (nI p))] [] M1 := by
    intro f
    induction f with
    | zero =>
      intro p hp M1 hW1 f1 h1 h2
      have hp : p = 768 := by omega
      subst hp
      exact eX13_move_41 hcl hW1 ⟨fun _ => L3 56 0 rfl M1 hW1 f1 h1 h2 (fun k hk => absurd hk (Nat.not_lt_zero k)), fun z => absurd (by decide) z⟩
    | succ f ih =>
      intro p hp M1 hW1 f1 h1 h2
      refine eX13_move_41 hcl hW1 ⟨fun z => absurd ((nI_leI (a := 768) (by decide) (by omega)).mp z) (by omega), fun _ => ?_⟩
      rw [e768, e768, nI_add, nI_add, nI_clamp (show 768 * c + p < 2 ^ 31 by omega), nI_clamp (show 768 * t + p < 2 ^ 31 by omega), nI_1]
      have f2 : FrC (fun a j => a = 636 ∧ j = 768 * t + p) M1 (uD M1 636 (768 * t + p) (gD M1 636 (768 * c + p))) := FrC_uD ⟨rfl, rfl⟩
      refine ⟨vpN (by omega) (by decide), vpN (by omega) (by decide), ih (p + 1) (by omega) _ (f2.wf hW1) (f1.tr (f2.mono (fun a j z => by unfold saS; omega))) (fun k hk => ?_) (fun k hk => ?_)⟩
      · rw [f2.l (by omega)]; exact h1 k hk
      · by_cases e : k = p
        · subst e; rw [gD_uD, if_pos ⟨rfl, rfl⟩, f1.d (by unfold saS; omega)]
        · rw [f2.d (by omega)]; exact h2 k (by omega)
  have L1 : ∀ f p : Nat, p + f = 776 → ∀ M1, Wf M1 → FrC (saS t) M M1 → (∀ k, k < p → gL M1 635 (780 * t + k) = gL M 635 (780 * c + k)) → G 2 [some (.ref 605), some (.int (nI c)), some (.int (nI t)), some (.int (nI p))] [] M1 := by
    intro f
    induction f with
    | zero =>
      intro p hp M1 hW1 f1 h1
      have hp : p = 776 := by omega
      subst hp
      exact eX13_move_2 hcl hW1 ⟨fun _ => L2 768 0 rfl M1 hW1 f1 h1 (fun k hk => absurd hk (Nat.not_lt_zero k)), fun z => absurd (by decide) z⟩
    | succ f ih =>
      intro p hp M1 hW1 f1 h1
      refine eX13_move_2 hcl hW1 ⟨fun z => absurd ((nI_leI (a := 776) (by decide) (by omega)).mp z) (by omega), fun _ => ?_⟩
      rw [e780, e780, nI_add, nI_add, nI_clamp (show 780 * c + p < 2 ^ 31 by omega), nI_clamp (show 780 * t + p < 2 ^ 31 by omega), nI_1]
      have f2 : FrC (fun a j => a = 635 ∧ j = 780 * t + p) M1 (uL M1 635 (780 * t + p) (gL M1 635 (780 * c + p))) := FrC_uL ⟨rfl, rfl⟩
      refine ⟨vpN (by omega) (by decide), vpN (by omega) (by decide), ih (p + 1) (by omega) _ (f2.wf hW1) (f1.tr (f2.mono (fun a j z => by unfold saS; omega))) (fun k hk => ?_)⟩
      by_cases e : k = p
      · subst e; rw [gL_uL, if_pos ⟨rfl, rfl⟩, f1.l (by unfold saS; omega)]
      · rw [f2.l (by omega)]; exact h1 k (by omega)
  exact L1 776 0 rfl M hW FrC.rf (fun k hk => absurd hk (Nat.not_lt_zero k))
theorem REs.move {c t : Nat} {x : ES} (hd : WD (eD x)) (hK : eK x ≤ 16) (h : REs M c x) (hs : mvEq M' M c t) : REs M' t x := by
  obtain ⟨s1, s2, s3, s4, s5⟩ := hs
  obtain ⟨h1, h2, h3, h4, h5, h6, h7⟩ := h
  refine ⟨RDv.cong hd h1 (fun k hk => ⟨s3 _ (by omega), ?_, ?_, ?_, ?_⟩) (fun k hk => ⟨s1 _ (by omega), s2 _ hk⟩) (fun k hk => ?_), (s3 36 (by omega)).trans h2, (s3 37 (by omega)).trans h3, (s3 38 (by omega)).trans h4, fun j hj => ?_, s4.trans h6, s5.trans h7⟩
  · rw [Nat.add_assoc, Nat.add_assoc]; exact s3 _ (by omega)
  · rw [Nat.add_assoc, Nat.add_assoc]; exact s3 _ (by omega)
  · rw [Nat.add_assoc, Nat.add_assoc]; exact s3 _ (by omega)
  · rw [Nat.add_assoc, Nat.add_assoc]; exact s1 _ (by omega)
  · rw [Nat.add_assoc, Nat.add_assoc]; exact s3 _ (by omega)
  · refine Eq.trans ?_ (h5 j hj)
    show gI M' 637 (56 * t + 40 + j) = gI M 637 (56 * c + 40 + j)
    rw [Nat.add_assoc, Nat.add_assoc]; exact s3 _ (by omega)
/-- a snapshot that is not touched -/
theorem REs.fr {S : Nat → Nat → Prop} {c : Nat} {x : ES} (hd : WD (eD x)) (hK : eK x ≤ 16) (hf : FrC S M M') (hS : ∀ a j, S a j → ¬ saS c a j) (h : REs M c x) : REs M' c x := by
  obtain ⟨h1, h2, h3, h4, h5, h6, h7⟩ := h
  have n : ∀ a j, saS c a j → ¬ S a j := fun a j p q => hS a j q p
  refine ⟨RDv.cong hd h1 (fun k hk => ⟨hf.i (n _ _ (by unfold saS; omega)), hf.i (n _ _ (by unfold saS; omega)), hf.i (n _ _ (by unfold saS; omega)), hf.i (n _ _ (by unfold saS; omega)), hf.l (n _ _ (by unfold saS; omega))⟩) (fun k hk => ⟨hf.l (n _ _ (by unfold saS; omega)), hf.d (n _ _ (by unfold saS; omega))⟩) (fun k hk => hf.i (n _ _ (by unfold saS; omega))), ?_, ?_, ?_, fun j hj => ?_, ?_, ?_⟩
  · rw [hf.i (n _ _ (by unfold saS; omega))]; exact h2
  · rw [hf.i (n _ _ (by unfold saS; omega))]; exact h3
  · rw [hf.i (n _ _ (by unfold saS; omega))]; exact h4
  · have := hf.i (n 637 (56 * c + 40 + j) (by unfold saS; omega))
    exact this.trans (h5 j hj)
  · rw [hf.l (n _ _ (by unfold saS; omega))]; exact h6
  · rw [hf.l (n _ _ (by unfold saS; omega))]; exact h7
end
end RLOAD
