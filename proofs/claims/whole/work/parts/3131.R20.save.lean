section RSAVE
section
variable {M M' : Mem} {K : RT}
/-- a state by functions of cells -/
def REv (kF lF aK aL : Nat → Int32) (wF : Nat → Int64) (rF : Nat → UInt64) (mF : Nat → Int32) (sF : Nat → Int64) (pc op en : Int32) (cf : Nat → Int32) (st ln : Int64) (x : ES) : Prop := RDv kF lF aK aL wF rF mF sF (eD x) ∧ pc = nI (ePc x) ∧ op = nI (eK x) ∧ en = blI (eEn x) ∧ (∀ j, j < eK x → cf j = nI (eCf x j)) ∧ st = eSt x ∧ ln = eLn x
def REc (M : Mem) (x : ES) : Prop := REv (gI M 624) (gI M 625) (gI M 628) (gI M 629) (gL M 626) (gD M 627) (gI M 630) (gL M 631) (gI M 605 42) (gI M 605 44) (gI M 605 47) (gI M 632) (gL M 605 45) (gL M 605 46) x
/-- snapshot c -/
def REs (M : Mem) (c : Nat) (x : ES) : Prop := REv (fun k => gI M 637 (56 * c + k)) (fun k => gI M 637 (56 * c + 8 + k)) (fun k => gI M 637 (56 * c + 16 + k)) (fun k => gI M 637 (56 * c + 24 + k)) (fun k => gL M 635 (780 * c + k)) (fun k => gD M 636 (768 * c + k)) (fun k => gI M 637 (56 * c + 32 + k)) (fun k => gL M 635 (780 * c + 768 + k)) (gI M 637 (56 * c + 36)) (gI M 637 (56 * c + 37)) (gI M 637 (56 * c + 38)) (fun k => gI M 637 (56 * c + 40 + k)) (gL M 638 c) (gL M 639 c) x
def RDs (M : Mem) (c : Nat) (d : DS) : Prop := RDv (fun k => gI M 637 (56 * c + k)) (fun k => gI M 637 (56 * c + 8 + k)) (fun k => gI M 637 (56 * c + 16 + k)) (fun k => gI M 637 (56 * c + 24 + k)) (fun k => gL M 635 (780 * c + k)) (fun k => gD M 636 (768 * c + k)) (fun k => gI M 637 (56 * c + 32 + k)) (fun k => gL M 635 (780 * c + 768 + k)) d
theorem RDv.cong {kF lF aK aL kF' lF' aK' aL' : Nat → Int32} {wF wF' : Nat → Int64} {rF rF' : Nat → UInt64} {mF mF' : Nat → Int32} {sF sF' : Nat → Int64} {d : DS} (hd : WD d) (h : RDv kF lF aK aL wF rF mF sF d) (h8 : ∀ k, k < 8 → kF' k = kF k ∧ lF' k = lF k ∧ aK' k = aK k ∧ aL' k = aL k ∧ sF' k = sF k) (hw : ∀ k, k < 768 → wF' k = wF k ∧ rF' k = rF k) (hm : ∀ k, k < 4 → mF' k = mF k) : RDv kF' lF' aK' aL' wF' rF' mF' sF' d := by
  obtain ⟨h1, h2, h3, h4⟩ := h
  refine ⟨fun v hv => ?_, fun v hv => ?_, fun m hm' => by rw [hm m hm']; exact h3 m hm', fun k hk => by rw [(h8 k hk).2.2.2.2]; exact h4 k hk⟩
  · obtain ⟨a1, a2, a3⟩ := h1 v hv
    have hl : dn d (2 * v) ≤ 32 := by
      rcases (hd.1 (2 * v) (by omega)).1 with z | z
      · omega
      · exact (z.2.2 (by omega)).2
    exact ⟨by rw [(h8 v hv).1]; exact a1, by rw [(h8 v hv).2.1]; exact a2, fun i hi => by rw [(hw _ (by omega)).1, (hw _ (by omega)).2]; exact a3 i hi⟩
  · obtain ⟨a1, a2, a3⟩ := h2 v hv
    have hl := dn_le hd (j := 2 * v + 1) (by omega)
    exact ⟨by rw [(h8 v hv).2.2.1]; exact a1, by rw [(h8 v hv).2.2.2.1]; exact a2, fun i hi => by rw [(hw _ (by omega)).1, (hw _ (by omega)).2]; exact a3 i hi⟩
theorem fI_add (a b c : Nat) : nI (a * b) + nI c = nI (a * b + c) := nI_add _ _
theorem im {a p : Nat} (k : Int32) (hk : k = nI a) : k * nI p = nI (a * p) := by rw [hk, pk_mul]
theorem ia {a p : Nat} (k : Int32) (hk : k = nI a) (q : Nat) (h : p = q + a) : nI q + k = nI p := by rw [hk, nI_add, h]

def saS (c a j : Nat) : Prop := (a = 635 ∧ 780 * c ≤ j ∧ j < 780 * c + 776) ∨ (a = 636 ∧ 768 * c ≤ j ∧ j < 768 * c + 768) ∨ (a = 637 ∧ 56 * c ≤ j ∧ j < 56 * c + 56) ∨ ((a = 638 ∨ a = 639) ∧ j = c)
/-- snapshot c of M' is what M holds -/
def svEq (M' M : Mem) (c : Nat) : Prop := (∀ k, k < 768 → gL M' 635 (780 * c + k) = gL M 626 k ∧ gD M' 636 (768 * c + k) = gD M 627 k) ∧ (∀ k, k < 8 → gI M' 637 (56 * c + k) = gI M 624 k ∧ gI M' 637 (56 * c + 8 + k) = gI M 625 k ∧ gI M' 637 (56 * c + 16 + k) = gI M 628 k ∧ gI M' 637 (56 * c + 24 + k) = gI M 629 k ∧ gL M' 635 (780 * c + 768 + k) = gL M 631 k) ∧ (∀ k, k < 4 → gI M' 637 (56 * c + 32 + k) = gI M 630 k) ∧ (gI M' 637 (56 * c + 36) = gI M 605 42 ∧ gI M' 637 (56 * c + 37) = gI M 605 44 ∧ gI M' 637 (56 * c + 38) = (if gI M 605 47 = 0 then 0 else 1)) ∧ (∀ k, k < 16 → gI M' 637 (56 * c + 40 + k) = gI M 632 k) ∧ gL M' 638 c = gL M 605 45 ∧ gL M' 639 c = gL M 605 46
theorem c_save13 {c : Nat} (hW : Wf M) (hc : c < 69) (h : ∀ M', Wf M' → FrC (saS c) M M' → svEq M' M c → K none M') : sp_X13_save [.ref 605, .int (nI c)] M K := by
  refine wX13_save hW (fun {G} hcl => ?_)
  have e56 : (56 : Int32) * nI c = nI (56 * c) := im _ rfl
  have e780 : (780 : Int32) * nI c = nI (780 * c) := im _ rfl
  have e768 : (768 : Int32) * nI c = nI (768 * c) := im _ rfl
  -- the calls, steps and lanes
  have L4 : ∀ f p : Nat, p + f = 16 → ∀ M1, Wf M1 → FrC (saS c) M M1 → (∀ k, k < 768 → gL M1 635 (780 * c + k) = gL M 626 k ∧ gD M1 636 (768 * c + k) = gD M 627 k) → (∀ k, k < 8 → gI M1 637 (56 * c + k) = gI M 624 k ∧ gI M1 637 (56 * c + 8 + k) = gI M 625 k ∧ gI M1 637 (56 * c + 16 + k) = gI M 628 k ∧ gI M1 637 (56 * c + 24 + k) = gI M 629 k ∧ gL M1 635 (780 * c + 768 + k) = gL M 631 k) → (∀ k, k < 4 → gI M1 637 (56 * c + 32 + k) = gI M 630 k) → (gI M1 637 (56 * c + 36) = gI M 605 42 ∧ gI M1 637 (56 * c + 37) = gI M 605 44 ∧ gI M1 637 (56 * c + 38) = (if gI M 605 47 = 0 then 0 else 1)) → (∀ k, k < p → gI M1 637 (56 * c + 40 + k) = gI M 632 k) → G 236 [some (.ref 605), some (.int (nI c)), some (.int (nI (56 * c))), some (.int (nI p))] [] M1 := by
    intro f
    induction f with
    | zero =>
      intro p hp M1 hW1 f1 h1 h2 h3 h4 h5
      have hp : p = 16 := by omega
      subst hp
      refine eX13_save_236 hcl hW1 ⟨fun _ => ?_, fun z => absurd (by decide) z⟩
      rw [nI_clamp (show c < 2 ^ 31 by omega)]
      have f2 : FrC (fun a j => (a = 638 ∨ a = 639) ∧ j = c) M1 (uL (uL M1 638 c (gL M1 605 45)) 639 c (gL M1 605 46)) := (FrC_uL ⟨Or.inl rfl, rfl⟩).tr (FrC_uL ⟨Or.inr rfl, rfl⟩)
      refine ⟨vpN hc (by decide), vpN hc (by decide), h _ (f2.wf hW1) (f1.tr (f2.mono (fun a j z => by unfold saS; omega))) ⟨fun k hk => ?_, fun k hk => ?_, fun k hk => ?_, ?_, fun k hk => ?_, ?_, ?_⟩⟩
      · rw [f2.l (by omega), f2.d (by omega)]; exact h1 k hk
      · rw [f2.i (by omega), f2.i (by omega), f2.i (by omega), f2.i (by omega), f2.l (by omega)]; exact h2 k hk
      · rw [f2.i (by omega)]; exact h3 k hk
      · rw [f2.i (by omega), f2.i (by omega), f2.i (by omega)]; exact h4
      · rw [f2.i (by omega)]; exact h5 k hk
      · rw [gL_uL, if_neg (by omega), gL_uL, if_pos ⟨rfl, rfl⟩, f1.l (by unfold saS; omega)]
      · rw [gL_uL, if_pos ⟨rfl, rfl⟩, f1.l (by unfold saS; omega)]
    | succ f ih =>
      intro p hp M1 hW1 f1 h1 h2 h3 h4 h5
      refine eX13_save_236 hcl hW1 ⟨fun z => absurd ((nI_leI (a := 16) (by decide) (by omega)).mp z) (by omega), fun _ => ?_⟩
      have ei : nI (56 * c) + (40 : Int32) + nI p = nI (56 * c + 40 + p) := by rw [show (40 : Int32) = nI 40 from rfl, nI_add, nI_add]
      rw [ei, nI_clamp (show p < 2 ^ 31 by omega), nI_clamp (show 56 * c + 40 + p < 2 ^ 31 by omega), nI_1]
      have f2 : FrC (fun a j => a = 637 ∧ j = 56 * c + 40 + p) M1 (uI M1 637 (56 * c + 40 + p) (gI M1 632 p)) := FrC_uI ⟨rfl, rfl⟩
      refine ⟨vpN (by omega) (by decide), vpN (by omega) (by decide), ih (p + 1) (by omega) _ (f2.wf hW1) (f1.tr (f2.mono (fun a j z => by unfold saS; omega))) (fun k hk => ?_) (fun k hk => ?_) (fun k hk => ?_) ?_ (fun k hk => ?_)⟩
      · rw [f2.l (by omega), f2.d (by omega)]; exact h1 k hk
      · rw [f2.i (by omega), f2.i (by omega), f2.i (by omega), f2.i (by omega), f2.l (by omega)]; exact h2 k hk
      · rw [f2.i (by omega)]; exact h3 k hk
      · rw [f2.i (by omega), f2.i (by omega), f2.i (by omega)]; exact h4
      · by_cases e : k = p
        · subst e; rw [gI_uI, if_pos ⟨rfl, rfl⟩, f1.i (by unfold saS; omega)]
        · rw [f2.i (by omega)]; exact h5 k (by omega)
  have L3 : ∀ f p : Nat, p + f = 4 → ∀ M1, Wf M1 → FrC (saS c) M M1 → (∀ k, k < 768 → gL M1 635 (780 * c + k) = gL M 626 k ∧ gD M1 636 (768 * c + k) = gD M 627 k) → (∀ k, k < 8 → gI M1 637 (56 * c + k) = gI M 624 k ∧ gI M1 637 (56 * c + 8 + k) = gI M 625 k ∧ gI M1 637 (56 * c + 16 + k) = gI M 628 k ∧ gI M1 637 (56 * c + 24 + k) = gI M 629 k ∧ gL M1 635 (780 * c + 768 + k) = gL M 631 k) → (∀ k, k < p → gI M1 637 (56 * c + 32 + k) = gI M 630 k) → G 159 [some (.ref 605), some (.int (nI c)), some (.int (nI (56 * c))), some (.int (nI p))] [] M1 := by
    intro f
    induction f with
    | zero =>
      intro p hp M1 hW1 f1 h1 h2 h3
      have hp : p = 4 := by omega
      subst hp
      have e36 : nI (56 * c) + (36 : Int32) = nI (56 * c + 36) := ia _ (a := 36) rfl _ rfl
      have e37 : nI (56 * c) + (37 : Int32) = nI (56 * c + 37) := ia _ (a := 37) rfl _ rfl
      have e38 : nI (56 * c) + (38 : Int32) = nI (56 * c + 38) := ia _ (a := 38) rfl _ rfl
      refine eX13_save_159 hcl hW1 ⟨fun _ => ?_, fun z => absurd (by decide) z⟩
      rw [e36, e37, e38, nI_clamp (show 56 * c + 36 < 2 ^ 31 by omega), nI_clamp (show 56 * c + 37 < 2 ^ 31 by omega), nI_clamp (show 56 * c + 38 < 2 ^ 31 by omega), f1.i (show ¬ saS c 605 42 by unfold saS; omega), f1.i (show ¬ saS c 605 44 by unfold saS; omega), f1.i (show ¬ saS c 605 47 by unfold saS; omega)]
      have go : ∀ y : Int32, y = (if gI M 605 47 = 0 then 0 else 1) → G 236 [some (.ref 605), some (.int (nI c)), some (.int (nI (56 * c))), some (.int 0)] [] (uI (uI (uI M1 637 (56 * c + 36) (gI M 605 42)) 637 (56 * c + 37) (gI M 605 44)) 637 (56 * c + 38) y) := by
        intro y hy
        have f2 : FrC (fun a j => a = 637 ∧ (j = 56 * c + 36 ∨ j = 56 * c + 37 ∨ j = 56 * c + 38)) M1 (uI (uI (uI M1 637 (56 * c + 36) (gI M 605 42)) 637 (56 * c + 37) (gI M 605 44)) 637 (56 * c + 38) y) := ((FrC_uI ⟨rfl, Or.inl rfl⟩).tr (FrC_uI ⟨rfl, Or.inr (Or.inl rfl)⟩)).tr (FrC_uI ⟨rfl, Or.inr (Or.inr rfl)⟩)
        refine L4 16 0 rfl _ (f2.wf hW1) (f1.tr (f2.mono (fun a j z => by unfold saS; omega))) (fun k hk => ?_) (fun k hk => ?_) (fun k hk => ?_) ⟨?_, ?_, ?_⟩ (fun k hk => absurd hk (Nat.not_lt_zero k))
        · rw [f2.l (by omega), f2.d (by omega)]; exact h1 k hk
        · rw [f2.i (by omega), f2.i (by omega), f2.i (by omega), f2.i (by omega), f2.l (by omega)]; exact h2 k hk
        · rw [f2.i (by omega)]; exact h3 k hk
        · rw [gI_uI, if_neg (by omega), gI_uI, if_neg (by omega), gI_uI, if_pos ⟨rfl, rfl⟩]
        · rw [gI_uI, if_neg (by omega), gI_uI, if_pos ⟨rfl, rfl⟩]
        · rw [gI_uI, if_pos ⟨rfl, rfl⟩, hy]
      exact ⟨vpN (by omega) (by decide), vpN (by omega) (by decide), fun z => ⟨vpN (by omega) (by decide), go 0 (if_pos z).symm⟩, fun z => ⟨vpN (by omega) (by decide), go 1 (if_neg z).symm⟩⟩
    | succ f ih =>
      intro p hp M1 hW1 f1 h1 h2 h3
      refine eX13_save_159 hcl hW1 ⟨fun z => absurd ((nI_leI (a := 4) (by decide) (by omega)).mp z) (by omega), fun _ => ?_⟩
      have ei : nI (56 * c) + (32 : Int32) + nI p = nI (56 * c + 32 + p) := by rw [show (32 : Int32) = nI 32 from rfl, nI_add, nI_add]
      rw [ei, nI_clamp (show p < 2 ^ 31 by omega), nI_clamp (show 56 * c + 32 + p < 2 ^ 31 by omega), nI_1]
      have f2 : FrC (fun a j => a = 637 ∧ j = 56 * c + 32 + p) M1 (uI M1 637 (56 * c + 32 + p) (gI M1 630 p)) := FrC_uI ⟨rfl, rfl⟩
      refine ⟨vpN (by omega) (by decide), vpN (by omega) (by decide), ih (p + 1) (by omega) _ (f2.wf hW1) (f1.tr (f2.mono (fun a j z => by unfold saS; omega))) (fun k hk => ?_) (fun k hk => ?_) (fun k hk => ?_)⟩
      · rw [f2.l (by omega), f2.d (by omega)]; exact h1 k hk
      · rw [f2.i (by omega), f2.i (by omega), f2.i (by omega), f2.i (by omega), f2.l (by omega)]; exact h2 k hk
      · by_cases e : k = p
        · subst e; rw [gI_uI, if_pos ⟨rfl, rfl⟩, f1.i (by unfold saS; omega)]
        · rw [f2.i (by omega)]; exact h3 k (by omega)
  have L2 : ∀ f p : Nat, p + f = 8 → ∀ M1, Wf M1 → FrC (saS c) M M1 → (∀ k, k < 768 → gL M1 635 (780 * c + k) = gL M 626 k ∧ gD M1 636 (768 * c + k) = gD M 627 k) → (∀ k, k < p → gI M1 637 (56 * c + k) = gI M 624 k ∧ gI M1 637 (56 * c + 8 + k) = gI M 625 k ∧ gI M1 637 (56 * c + 16 + k) = gI M 628 k ∧ gI M1 637 (56 * c + 24 + k) = gI M 629 k ∧ gL M1 635 (780 * c + 768 + k) = gL M 631 k) → G 58 [some (.ref 605), some (.int (nI c)), some (.int (nI (56 * c))), some (.int (nI p))] [] M1 := by
    intro f
    induction f with
    | zero =>
      intro p hp M1 hW1 f1 h1 h2
      have hp : p = 8 := by omega
      subst hp
      exact eX13_save_58 hcl hW1 ⟨fun _ => L3 4 0 rfl M1 hW1 f1 h1 h2 (fun k hk => absurd hk (Nat.not_lt_zero k)), fun z => absurd (by decide) z⟩
    | succ f ih =>
      intro p hp M1 hW1 f1 h1 h2
      refine eX13_save_58 hcl hW1 ⟨fun z => absurd ((nI_leI (a := 8) (by decide) (by omega)).mp z) (by omega), fun _ => ?_⟩
      have a1 : (780 : Int32) * nI c + (768 : Int32) + nI p = nI (780 * c + 768 + p) := by rw [e780, show (768 : Int32) = nI 768 from rfl, nI_add, nI_add]
      have a2 : nI (56 * c) + nI p = nI (56 * c + p) := nI_add _ _
      have a3 : nI (56 * c) + (8 : Int32) + nI p = nI (56 * c + 8 + p) := by rw [show (8 : Int32) = nI 8 from rfl, nI_add, nI_add]
      have a4 : nI (56 * c) + (16 : Int32) + nI p = nI (56 * c + 16 + p) := by rw [show (16 : Int32) = nI 16 from rfl, nI_add, nI_add]
      have a5 : nI (56 * c) + (24 : Int32) + nI p = nI (56 * c + 24 + p) := by rw [show (24 : Int32) = nI 24 from rfl, nI_add, nI_add]
      rw [a1, a2, a3, a4, a5, nI_clamp (show p < 2 ^ 31 by omega), nI_clamp (show 780 * c + 768 + p < 2 ^ 31 by omega), nI_clamp (show 56 * c + p < 2 ^ 31 by omega), nI_clamp (show 56 * c + 8 + p < 2 ^ 31 by omega), nI_clamp (show 56 * c + 16 + p < 2 ^ 31 by omega), nI_clamp (show 56 * c + 24 + p < 2 ^ 31 by omega), nI_1]
      have f2 : FrC (fun a j => (a = 635 ∧ j = 780 * c + 768 + p) ∨ (a = 637 ∧ (j = 56 * c + p ∨ j = 56 * c + 8 + p ∨ j = 56 * c + 16 + p ∨ j = 56 * c + 24 + p))) M1 (uI (uI (uI (uI (uL M1 635 (780 * c + 768 + p) (gL M1 631 p)) 637 (56 * c + p) (gI M1 624 p)) 637 (56 * c + 8 + p) (gI M1 625 p)) 637 (56 * c + 16 + p) (gI M1 628 p)) 637 (56 * c + 24 + p) (gI M1 629 p)) := ((((FrC_uL (by omega)).tr (FrC_uI (by omega))).tr (FrC_uI (by omega))).tr (FrC_uI (by omega))).tr (FrC_uI (by omega))
      refine ⟨vpN (by omega) (by decide), vpN (by omega) (by decide), vpN (by omega) (by decide), vpN (by omega) (by decide), vpN (by omega) (by decide), vpN (by omega) (by decide), vpN (by omega) (by decide), vpN (by omega) (by decide), vpN (by omega) (by decide), vpN (by omega) (by decide), ih (p + 1) (by omega) _ (f2.wf hW1) (f1.tr (f2.mono (fun a j z => by unfold saS; omega))) (fun k hk => ?_) (fun k hk => ?_)⟩
      · rw [f2.l (by omega), f2.d (by omega)]; exact h1 k hk
      · by_cases e : k = p
        · subst e
          refine ⟨?_, ?_, ?_, ?_, ?_⟩
          · rw [gI_uI, if_neg (by omega), gI_uI, if_neg (by omega), gI_uI, if_neg (by omega), gI_uI, if_pos ⟨rfl, rfl⟩, f1.i (by unfold saS; omega)]
          · rw [gI_uI, if_neg (by omega), gI_uI, if_neg (by omega), gI_uI, if_pos ⟨rfl, rfl⟩, f1.i (by unfold saS; omega)]
          · rw [gI_uI, if_neg (by omega), gI_uI, if_pos ⟨rfl, rfl⟩, f1.i (by unfold saS; omega)]
          · rw [gI_uI, if_pos ⟨rfl, rfl⟩, f1.i (by unfold saS; omega)]
          · rw [gL_uI, gL_uI, gL_uI, gL_uI, gL_uL, if_pos ⟨rfl, rfl⟩, f1.l (by unfold saS; omega)]
        · rw [f2.i (by omega), f2.i (by omega), f2.i (by omega), f2.i (by omega), f2.l (by omega)]; exact h2 k (by omega)
  have L1 : ∀ f p : Nat, p + f = 768 → ∀ M1, ∀ o3 : Option Value, Wf M1 → FrC (saS c) M M1 → (∀ k, k < p → gL M1 635 (780 * c + k) = gL M 626 k ∧ gD M1 636 (768 * c + k) = gD M 627 k) → G 2 [some (.ref 605), some (.int (nI c)), some (.int (nI p)), o3] [] M1 := by
    intro f
    induction f with
    | zero =>
      intro p hp M1 o3 hW1 f1 h1
      have hp : p = 768 := by omega
      subst hp
      refine eX13_save_2 hcl hW1 ⟨fun _ => ?_, fun z => absurd (by decide) z⟩
      rw [e56]
      exact L2 8 0 rfl M1 hW1 f1 h1 (fun k hk => absurd hk (Nat.not_lt_zero k))
    | succ f ih =>
      intro p hp M1 o3 hW1 f1 h1
      refine eX13_save_2 hcl hW1 ⟨fun z => absurd ((nI_leI (a := 768) (by decide) (by omega)).mp z) (by omega), fun _ => ?_⟩
      have a1 : (780 : Int32) * nI c + nI p = nI (780 * c + p) := by rw [e780, nI_add]
      have a2 : (768 : Int32) * nI c + nI p = nI (768 * c + p) := by rw [e768, nI_add]
      rw [a1, a2, nI_clamp (show p < 2 ^ 31 by omega), nI_clamp (show 780 * c + p < 2 ^ 31 by omega), nI_clamp (show 768 * c + p < 2 ^ 31 by omega), nI_1]
      have f2 : FrC (fun a j => (a = 635 ∧ j = 780 * c + p) ∨ (a = 636 ∧ j = 768 * c + p)) M1 (uD (uL M1 635 (780 * c + p) (gL M1 626 p)) 636 (768 * c + p) (gD M1 627 p)) := (FrC_uL (Or.inl ⟨rfl, rfl⟩)).tr (FrC_uD (Or.inr ⟨rfl, rfl⟩))
      refine ⟨vpN (by omega) (by decide), vpN (by omega) (by decide), vpN (by omega) (by decide), vpN (by omega) (by decide), ih (p + 1) (by omega) _ _ (f2.wf hW1) (f1.tr (f2.mono (fun a j z => by unfold saS; omega))) (fun k hk => ?_)⟩
      by_cases e : k = p
      · subst e
        rw [gL_uD, gL_uL, gD_uD, if_pos ⟨rfl, rfl⟩, if_pos ⟨rfl, rfl⟩, f1.l (by unfold saS; omega), f1.d (by unfold saS; omega)]
        exact ⟨rfl, rfl⟩
      · rw [f2.l (by omega), f2.d (by omega)]; exact h1 k (by omega)
  exact L1 768 0 rfl M _ hW FrC.rf (fun k hk => absurd hk (Nat.not_lt_zero k))
theorem REc.save {c : Nat} {x : ES} (hd : WD (eD x)) (hK : eK x ≤ 16) (h : REc M x) (hs : svEq M' M c) : REs M' c x := by
  obtain ⟨s1, s2, s3, ⟨s4, s5, s6⟩, s7, s8, s9⟩ := hs
  obtain ⟨h1, h2, h3, h4, h5, h6, h7⟩ := h
  refine ⟨RDv.cong hd h1 s2 s1 s3, s4.trans h2, s5.trans h3, ?_, fun j hj => (s7 j (by omega)).trans (h5 j hj), s8.trans h6, s9.trans h7⟩
  rw [s6, h4]
  cases eEn x <;> rfl
end
end RSAVE
