section RFLOW1
section
variable {M M' M'' : Mem} {K : RT} {n : Nat} {c : Nat → Nat → Int64}
def flC (a j : Nat) : Prop := (a = 648 ∧ j < 180000) ∨ (a = 649 ∧ j < 100)
def B01 (M : Mem) : Prop := (∀ a j, flC a j → gI M a j = 0 ∨ gI M a j = 1) ∧ (gI M 605 75 = 0 ∨ gI M 605 75 = 1)
def flS13 (a j : Nat) : Prop := flC a j ∨ (a = 605 ∧ j = 75)
/-- the cells grow, and the flag tells it -/
def GrW (M M' : Mem) : Prop := FrC flS13 M M' ∧ B01 M' ∧ (∀ a j, flC a j → gI M a j = 1 → gI M' a j = 1) ∧ (gI M' 605 75 = 0 → gI M 605 75 = 0 ∧ ∀ a j, flC a j → gI M' a j = gI M a j) ∧ (gI M' 605 75 = 1 → gI M 605 75 = 1 ∨ ∃ a j, flC a j ∧ gI M a j = 0 ∧ gI M' a j = 1)
theorem GrW.rf (hB : B01 M) : GrW M M := ⟨FrC.rf, hB, fun _ _ _ h => h, fun h => ⟨h, fun _ _ _ => rfl⟩, fun h => Or.inl h⟩
theorem GrW.tr (hB : B01 M) (h : GrW M M') (h' : GrW M' M'') : GrW M M'' := by
  obtain ⟨a1, a2, a3, a4, a5⟩ := h
  obtain ⟨b1, b2, b3, b4, b5⟩ := h'
  refine ⟨a1.tr b1, b2, fun a j hc z => b3 a j hc (a3 a j hc z), fun z => ?_, fun z => ?_⟩
  · obtain ⟨z1, z2⟩ := b4 z
    obtain ⟨y1, y2⟩ := a4 z1
    exact ⟨y1, fun a j hc => (z2 a j hc).trans (y2 a j hc)⟩
  · rcases b5 z with z | ⟨a, j, hc, z1, z2⟩
    · rcases a5 z with z | ⟨a, j, hc, z1, z2⟩
      · exact Or.inl z
      · exact Or.inr ⟨a, j, hc, z1, b3 a j hc z2⟩
    · refine Or.inr ⟨a, j, hc, ?_, z2⟩
      rcases hB.1 a j hc with w | w
      · exact w
      · rw [a3 a j hc w] at z1; exact absurd z1 (by decide)
theorem GrW.wr {a j : Nat} {s v : Int32} (hB : B01 M) (hc : flC a j) (hv : v = 0 ∨ v = 1) (h1 : gI M a j = 1 → v = 1) (hs : s = 0 ∨ s = 1) (hs1 : s = 1 ↔ gI M 605 75 = 1 ∨ (v = 1 ∧ gI M a j = 0)) : GrW M (uI (uI M 605 75 s) a j v) := by
  have f : FrC (fun b k => (b = a ∧ k = j) ∨ (b = 605 ∧ k = 75)) M (uI (uI M 605 75 s) a j v) := (FrC_uI (Or.inr ⟨rfl, rfl⟩)).tr (FrC_uI (Or.inl ⟨rfl, rfl⟩))
  have na : ¬ (605 = a ∧ 75 = j) := fun z => by unfold flC at hc; omega
  have g75 : gI (uI (uI M 605 75 s) a j v) 605 75 = s := by rw [gI_uI, if_neg na, gI_uI, if_pos ⟨rfl, rfl⟩]
  have gv : gI (uI (uI M 605 75 s) a j v) a j = v := by rw [gI_uI, if_pos ⟨rfl, rfl⟩]
  have ge : ∀ b k, flC b k → ¬ (b = a ∧ k = j) → gI (uI (uI M 605 75 s) a j v) b k = gI M b k := fun b k hb hn => f.i (fun z => z.elim hn (fun w => by unfold flC at hb; omega))
  generalize uI (uI M 605 75 s) a j v = M1 at f g75 gv ge ⊢
  refine ⟨f.mono (fun b k z => z.elim (fun w => Or.inl (by rw [w.1, w.2]; exact hc)) Or.inr), ⟨fun b k hb => ?_, by rw [g75]; exact hs⟩, fun b k hb z => ?_, fun z => ?_, fun z => ?_⟩
  · by_cases e : b = a ∧ k = j
    · rw [e.1, e.2, gv]; exact hv
    · rw [ge b k hb e]; exact hB.1 b k hb
  · by_cases e : b = a ∧ k = j
    · rw [e.1, e.2] at z ⊢
      rw [gv]; exact h1 z
    · rw [ge b k hb e]; exact z
  · rw [g75] at z
    have n1 : ¬ (gI M 605 75 = 1 ∨ (v = 1 ∧ gI M a j = 0)) := fun y => by have := hs1.mpr y; rw [z] at this; exact absurd this (by decide)
    refine ⟨hB.2.resolve_right (fun y => n1 (Or.inl y)), fun b k hb => ?_⟩
    by_cases e : b = a ∧ k = j
    · rw [e.1, e.2, gv]
      rcases hB.1 a j hc with w | w
      · rcases hv with u | u
        · rw [u, w]
        · exact absurd (Or.inr ⟨u, w⟩) n1
      · rw [h1 w, w]
    · exact ge b k hb e
  · rw [g75] at z
    rcases hs1.mp z with y | y
    · exact Or.inl y
    · exact Or.inr ⟨a, j, hc, y.2, by rw [gv]; exact y.1⟩
/-- cell k of what flows from i -/
def isW (M : Mem) (c : Nat → Nat → Int64) (i k : Nat) : Prop := (cn (c i) 0 = 0 ∧ k / 225 = cn (c i) 1 ∧ k % 225 = 32 * cn (c i) 2 + cn (c i) 3) ∨ (¬ (cn (c i) 0 = 0 ∧ k / 225 = cn (c i) 1) ∧ gI M 648 (1800 * i + k) = 1)
def EXf (M M' : Mem) (c : Nat → Nat → Int64) (i to : Nat) : Prop := (∀ j, j < 100 → (gI M' 649 j = 1 ↔ (gI M 649 j = 1 ∨ j = to))) ∧ ∀ j, j < 180000 → (gI M' 648 j = 1 ↔ (gI M 648 j = 1 ∨ ∃ k, k < 1800 ∧ j = 1800 * to + k ∧ isW M c i k))
theorem PQ.gr (h : PQ M n c) (hf : FrC flS13 M M') : PQ M' n c := ⟨h.1.fr hf (fun j => by unfold flS13 flC; omega) (fun j => by unfold flS13 flC; omega) (fun j => by unfold flS13 flC; omega), h.2.1, by rw [hf.i (by unfold flS13 flC; omega)]; exact h.2.2.1, h.2.2.2⟩
theorem c_flowsTo13 {i to : Nat} (hW : Wf M) (hB : B01 M) (hP : PQ M n c) (hi : i < n) (hto : to < 2 ^ 31) (h : ∀ M', GrW M M' → (to < n → EXf M M' c i to) → (¬ to < n → M' = M) → K none M') : sp_X13_flowsTo [.ref 605, .int (nI i), .int (nI to)] M K := by
  have n100 := hP.2.1
  refine wX13_flowsTo hW (fun {G} hc => ?_)
  rw [hP.2.2.1, nI_ltI hto (by omega)]
  refine ⟨fun hlt => ?_, fun z => h M (GrW.rf hB) (fun y => absurd y z) (fun _ => rfl)⟩
  rw [nI_clamp hto]
  have hct : flC 649 to := Or.inr ⟨rfl, by omega⟩
  have hv := hP.2.2.2 i hi
  -- behind the mark
  have rest : ∀ M1, GrW M M1 → (∀ j, j < 100 → (gI M1 649 j = 1 ↔ (gI M 649 j = 1 ∨ j = to))) → (∀ j, gI M1 648 j = gI M 648 j) → G 43 [some (.ref 605), some (.int (nI i)), some (.int (nI to)), some (.int (nI 0)), none, none] [] M1 := by
    intro M1 g1 r1 w1
    have loop : ∀ f k : Nat, k + f = 1800 → ∀ (M2 : Mem) (o4 o5 : Option Value), GrW M M2 → (∀ j, gI M2 649 j = gI M1 649 j) → (∀ j, ¬ (1800 * to ≤ j ∧ j < 1800 * to + k) → gI M2 648 j = gI M 648 j) → (∀ q, q < k → (gI M2 648 (1800 * to + q) = 1 ↔ (gI M 648 (1800 * to + q) = 1 ∨ isW M c i q))) → G 43 [some (.ref 605), some (.int (nI i)), some (.int (nI to)), some (.int (nI k)), o4, o5] [] M2 := by
      intro f
      induction f with
      | zero =>
        intro k hk M2 o4 o5 g2 r2 w2 x2
        have hk : k = 1800 := by omega
        subst hk
        refine eX13_flowsTo_43 hc (g2.1.wf hW) ⟨fun _ => h M2 g2 (fun _ => ⟨fun j hj => by rw [r2]; exact r1 j hj, fun j hj => ?_⟩) (fun z => absurd hlt z), fun z => absurd (by decide) z⟩
        by_cases e : 1800 * to ≤ j ∧ j < 1800 * to + 1800
        · have ej : j = 1800 * to + (j - 1800 * to) := by omega
          have := x2 (j - 1800 * to) (by omega)
          rw [← ej] at this
          rw [this]
          constructor
          · rintro (z | z)
            · exact Or.inl z
            · exact Or.inr ⟨j - 1800 * to, by omega, ej, z⟩
          · rintro (z | ⟨k, k1, k2, k3⟩)
            · exact Or.inl z
            · have : k = j - 1800 * to := by omega
              subst this
              exact Or.inr k3
        · rw [w2 j e]
          refine ⟨Or.inl, fun z => z.elim id (fun ⟨k, k1, k2, _⟩ => absurd ?_ e)⟩
          omega
      | succ f ih =>
        intro k hk M2 o4 o5 g2 r2 w2 x2
        have hW2 := g2.1.wf hW
        have hP2 := hP.gr g2.1
        have hB2 := g2.2.1
        have hct2 : flC 648 (1800 * to + k) := Or.inl ⟨rfl, by omega⟩
        have e1 : ∀ a : Nat, (1800 : Int32) * nI a + nI k = nI (1800 * a + k) := fun a => by rw [show (1800 : Int32) = nI 1800 from rfl, pk_mul, nI_add]
        -- the cell is written
        have fin : ∀ s0 : Int32, (s0 = 0 ∨ s0 = 1) → (s0 = 1 ↔ isW M c i k) → ∀ o4, G 133 [some (.ref 605), some (.int (nI i)), some (.int (nI to)), some (.int (nI k)), o4, o5] [.int s0] M2 := by
          intro s0 h01 hs0 o4
          have e01 : ¬ s0 = 0 ↔ s0 = 1 := ⟨fun z => h01.resolve_left z, fun z y => by rw [z] at y; exact absurd y (by decide)⟩
          have cell : gI M2 648 (1800 * to + k) = gI M 648 (1800 * to + k) := w2 _ (by omega)
          have wrote : ∀ (s v : Int32) (o4 o5 : Option Value), (v = 1 ↔ (gI M2 648 (1800 * to + k) = 1 ∨ s0 = 1)) → (v = 0 ∨ v = 1) → (s = 0 ∨ s = 1) → (s = 1 ↔ gI M2 605 75 = 1 ∨ (v = 1 ∧ gI M2 648 (1800 * to + k) = 0)) → G 43 [some (.ref 605), some (.int (nI i)), some (.int (nI to)), some (.int (nI (k + 1))), o4, o5] [] (uI (uI M2 605 75 s) 648 (1800 * to + k) v) := by
            intro s v o4 o5 hv1 hv hs hs1
            refine ih (k + 1) (by omega) _ _ _ (g2.tr hB (GrW.wr hB2 hct2 hv (fun z => hv1.mpr (Or.inl z)) hs hs1)) (fun j => ?_) (fun j hj => ?_) (fun q hq => ?_)
            · rw [gI_uI, if_neg (by omega), gI_uI, if_neg (by omega)]; exact r2 j
            · rw [gI_uI, if_neg (by omega), gI_uI, if_neg (by omega)]; exact w2 j (by omega)
            · by_cases e : q = k
              · subst e
                rw [gI_uI, if_pos ⟨rfl, rfl⟩, hv1, cell, hs0]
              · rw [gI_uI, if_neg (by omega), gI_uI, if_neg (by omega)]
                exact x2 q (by omega)
          have g168 : ∀ (s1 : Int32) (o4 : Option Value), (s1 = 0 ∨ s1 = 1) → (s1 = 1 ↔ gI M2 605 75 = 1 ∨ (s0 = 1 ∧ gI M2 648 (1800 * to + k) = 0)) → G 168 [some (.ref 605), some (.int (nI i)), some (.int (nI to)), some (.int (nI k)), o4, some (.int s0)] [.int s1, .ref 605] M2 := by
            intro s1 o4 h1 h2
            refine eX13_flowsTo_168 hc hW2 ?_
            rw [e1, nI_clamp (by omega), nI_1]
            have vp : vp_in (nI (1800 * to + k)) 180000 := vpN (by omega) (by decide)
            have c01 := hB2.1 _ _ hct2
            refine ⟨h1, vp, fun z => ⟨vp, ?_⟩, fun z => ⟨fun y => ⟨vp, ?_⟩, fun y => ⟨vp, ?_⟩⟩⟩
            · have z1 : gI M2 648 (1800 * to + k) = 1 := c01.resolve_left z
              refine wrote s1 1 _ _ ⟨fun _ => Or.inl z1, fun _ => rfl⟩ (Or.inr rfl) h1 ?_
              rw [h2]
              exact ⟨fun u => u.elim Or.inl (fun w => absurd w.2 z), fun u => u.elim Or.inl (fun w => absurd w.2 z)⟩
            · have ny : ¬ s0 = 1 := fun u => e01.mpr u y
              have nz : ¬ gI M2 648 (1800 * to + k) = 1 := fun u => by rw [z] at u; exact absurd u (by decide)
              refine wrote s1 0 _ _ ⟨fun u => absurd u (by decide), fun u => u.elim (fun w => absurd w nz) (fun w => absurd w ny)⟩ (Or.inl rfl) h1 ?_
              rw [h2]
              exact ⟨fun u => u.elim Or.inl (fun w => absurd w.1 ny), fun u => u.elim Or.inl (fun w => absurd w.1 (by decide))⟩
            · have y1 := e01.mp y
              refine wrote s1 1 _ _ ⟨fun _ => Or.inr y1, fun _ => rfl⟩ (Or.inr rfl) h1 ?_
              rw [h2]
              exact ⟨fun u => u.elim Or.inl (fun w => Or.inr ⟨rfl, w.2⟩), fun u => u.elim Or.inl (fun w => Or.inr ⟨y1, w.2⟩)⟩
          refine eX13_flowsTo_133 hc hW2 ?_
          rw [e1, nI_clamp (by omega), e01]
          have f01 : ¬ gI M2 605 75 = 0 ↔ gI M2 605 75 = 1 := ⟨fun z => hB2.2.resolve_left z, fun z y => by rw [z] at y; exact absurd y (by decide)⟩
          refine ⟨fun z => g168 1 _ (Or.inr rfl) ⟨fun _ => Or.inl (f01.mp z), fun _ => rfl⟩, fun z => ⟨fun y => g168 0 _ (Or.inl rfl) ⟨fun u => absurd u (by decide), fun u => u.elim (fun w => absurd z (f01.mpr w)) (fun w => absurd y (e01.mpr w.1))⟩, fun y => ⟨vpN (by omega) (by decide), fun w => g168 0 _ (Or.inl rfl) ⟨fun u => absurd u (by decide), fun u => u.elim (fun w' => absurd z (f01.mpr w')) (fun w' => absurd w'.2 w)⟩, fun w => g168 1 _ (Or.inr rfl) ⟨fun _ => Or.inr ⟨y, w⟩, fun _ => rfl⟩⟩⟩⟩
        -- what flows
        have cI : gI M2 648 (1800 * i + k) = gI M 648 (1800 * i + k) := w2 _ (by omega)
        have g78 : ∀ s0 : Int32, (s0 = 0 ∨ s0 = 1) → (s0 = 1 ↔ (cn (c i) 0 = 0 ∧ k / 225 = cn (c i) 1)) → G 78 [some (.ref 605), some (.int (nI i)), some (.int (nI to)), some (.int (nI k)), o4, o5] [.int s0] M2 := by
          intro s0 h01 hs0
          refine eX13_flowsTo_78 hc hW2 ⟨fun z => ?_, fun z => ?_⟩
          · have nz : ¬ (cn (c i) 0 = 0 ∧ k / 225 = cn (c i) 1) := fun y => by have := hs0.mpr y; rw [z] at this; exact absurd this (by decide)
            rw [e1, nI_clamp (by omega), cI]
            refine ⟨vpN (by omega) (by decide), fin _ (by rw [← cI]; exact hB2.1 _ _ (Or.inl ⟨rfl, by omega⟩)) ?_ _⟩
            unfold isW
            exact ⟨fun y => Or.inr ⟨nz, y⟩, fun y => y.elim (fun w => absurd ⟨w.1, w.2.1⟩ nz) (fun w => w.2)⟩
          · have yz := hs0.mp (h01.resolve_left z)
            obtain ⟨⟨s1, s2⟩, ⟨s3, s4⟩, s5, s6, s7⟩ := hv.set yz.1
            obtain ⟨q1, f1⟩ := opG hP2 hi (show 1 < 4 by decide)
            obtain ⟨q2, f2⟩ := opG hP2 hi (show 2 < 4 by decide)
            have q1 : q_X13_operandOf (nI i) 1 M2 := q1
            have q2 : q_X13_operandOf (nI i) 2 M2 := q2
            have f1 : f_X13_operandOf (nI i) 1 M2 = nI (cn (c i) 2) := by rw [show f_X13_operandOf (nI i) 1 M2 = (c i 2).toInt32 from f1, s4, lN_toI]
            have f2 : f_X13_operandOf (nI i) 2 M2 = nI (cn (c i) 3) := by rw [show f_X13_operandOf (nI i) 2 M2 = (c i 3).toInt32 from f2, s7, lN_toI]
            rw [f1, f2]
            have er : nI k - nI k / 225 * 225 = nI (k % 225) := pk_rem (by omega) (by decide) (by decide)
            have ew : (1 : Int32) + (32 : Int32) * nI (cn (c i) 2) + nI (cn (c i) 3) - 1 = nI (32 * cn (c i) 2 + cn (c i) 3) := by
              rw [show (32 : Int32) = nI 32 from rfl, show (1 : Int32) = nI 1 from rfl, pk_mul, nI_add, nI_add, pk_sub (by omega)]
              congr 1; omega
            rw [er, ew, nI_eq (by omega) (by omega)]
            refine ⟨q1, q2, fun y => fin 0 (Or.inl rfl) ⟨fun u => absurd u (by decide), fun u => ?_⟩ _, fun y => fin 1 (Or.inr rfl) ⟨fun _ => Or.inl ⟨yz.1, yz.2, y⟩, fun _ => rfl⟩ _⟩
            unfold isW at u
            exact u.elim (fun w => absurd w.2.2 y) (fun w => absurd yz w.1)
        refine eX13_flowsTo_43 hc hW2 ⟨fun z => absurd ((nI_leI (a := 1800) (by decide) (by omega)).mp z) (by omega), fun _ => ⟨vpN (by omega) (by decide), ?_⟩⟩
        rw [nI_clamp (by omega), (hP2.1 i hi).1]
        have i0 : nI (cn (c i) 0) = 0 ↔ cn (c i) 0 = 0 := nI_eq (b := 0) (by have := hv.o.1; omega) (by decide)
        rw [i0]
        refine ⟨fun z => g78 0 (Or.inl rfl) ⟨fun u => absurd u (by decide), fun u => absurd u.1 z⟩, fun z => ?_⟩
        obtain ⟨⟨s1, s2⟩, -⟩ := hv.set z
        obtain ⟨q0, f0⟩ := opG hP2 hi (show 0 < 4 by decide)
        have q0 : q_X13_operandOf (nI i) 0 M2 := q0
        have f0 : f_X13_operandOf (nI i) 0 M2 = nI (cn (c i) 1) := by rw [show f_X13_operandOf (nI i) 0 M2 = (c i 1).toInt32 from f0, s2, lN_toI]
        have ed : nI k / 225 = nI (k / 225) := pk_div (by omega) (by decide) (by decide)
        rw [f0, ed, nI_eq (by omega) (by omega)]
        exact ⟨q0, fun y => g78 0 (Or.inl rfl) ⟨fun u => absurd u (by decide), fun u => absurd u.2 y⟩, fun y => g78 1 (Or.inr rfl) ⟨fun _ => ⟨z, y⟩, fun _ => rfl⟩⟩
    exact loop 1800 0 rfl M1 _ _ g1 (fun _ => rfl) (fun j _ => w1 j) (fun q hq => absurd hq (Nat.not_lt_zero q))
  have first : ∀ s : Int32, (s = 0 ∨ s = 1) → (s = 1 ↔ gI M 605 75 = 1 ∨ gI M 649 to = 0) → G 43 [some (.ref 605), some (.int (nI i)), some (.int (nI to)), some (.int (nI 0)), none, none] [] (uI (uI M 605 75 s) 649 to 1) := by
    intro s hs hs1
    refine rest _ (GrW.wr hB hct (Or.inr rfl) (fun _ => rfl) hs (by rw [hs1]; exact ⟨fun u => u.elim Or.inl (fun w => Or.inr ⟨rfl, w⟩), fun u => u.elim Or.inl (fun w => Or.inr w.2)⟩)) (fun j hj => ?_) (fun j => ?_)
    · by_cases e : j = to
      · subst e; rw [gI_uI, if_pos ⟨rfl, rfl⟩]; exact ⟨fun _ => Or.inr rfl, fun _ => rfl⟩
      · rw [gI_uI, if_neg (by omega), gI_uI, if_neg (by omega)]
        exact ⟨Or.inl, fun z => z.resolve_right e⟩
    · rw [gI_uI, if_neg (by omega), gI_uI, if_neg (by omega)]
  have vp : vp_in (nI to) 100 := vpN (by omega) (by decide)
  have n75 : ¬ gI M 605 75 = 0 → gI M 605 75 = 1 := fun z => hB.2.resolve_left z
  refine ⟨fun z => ⟨vp, first 1 (Or.inr rfl) ⟨fun _ => Or.inl (n75 z), fun _ => rfl⟩⟩, fun z => ⟨vp, fun y => ⟨vp, first 0 (Or.inl rfl) ⟨fun u => absurd u (by decide), fun u => u.elim (fun w => by rw [z] at w; exact absurd w (by decide)) (fun w => absurd w y)⟩⟩, fun y => ⟨vp, first 1 (Or.inr rfl) ⟨fun _ => Or.inr y, fun _ => rfl⟩⟩⟩⟩
end
end RFLOW1
