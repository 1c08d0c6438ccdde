section RFLOW3
section
variable {M M' M'' : Mem} {K : RT} {n : Nat} {c : Nat → Nat → Int64}
/-- FLOW's cells of the reference -/
def FlR (M : Mem) (n : Nat) (c : Nat → Nat → Int64) : Prop := (∀ a j, flC a j → gI M a j = 0 ∨ gI M a j = 1) ∧ (∀ i, i < 100 → (gI M 649 i = 1 ↔ Fa n c i 2048)) ∧ ∀ i v w, i < 100 → v < 8 → w < 225 → (gI M 648 (1800 * i + (225 * v + w)) = 1 ↔ Fa n c i (v * 256 + wq w))
theorem FlR_ok : FrOK FlR := by
  intro S M M' n c hf hS hF
  have e : ∀ a j, flC a j → gI M' a j = gI M a j := fun a j h => hf.i (fun z => by have := hS a j z; unfold flC at h; omega)
  refine ⟨fun a j h => by rw [e a j h]; exact hF.1 a j h, fun i hi => by rw [e 649 i (Or.inr ⟨rfl, hi⟩)]; exact hF.2.1 i hi, fun i v w hi hv hw => by rw [e 648 _ (Or.inl ⟨rfl, by omega⟩)]; exact hF.2.2 i v w hi hv hw⟩
/-- the first facts -/
def Bas (M : Mem) (n : Nat) : Prop := 0 < n → gI M 649 0 = 1 ∧ ∀ v, v < 8 → gI M 648 (225 * v) = 1
theorem FlR_of (hP : PQ M n c) (hB : B01 M) (hS : Snd n c M) (hb : Bas M n) (hc : ∀ i, i < n → gI M 649 i = 1 → ∀ j, sucS n c i j → CloR M c i j) : FlR M n c := by
  have n100 := hP.2.1
  have all : ∀ d i f, FaD n c d i f → gI M 649 i = 1 ∧ (f = 2048 ∨ ∃ v w, v < 8 ∧ w < 225 ∧ f = v * 256 + wq w ∧ gI M 648 (1800 * i + (225 * v + w)) = 1) := by
    intro d
    induction d with
    | zero =>
      intro i f h
      obtain ⟨h1, h2, h3⟩ := h
      subst h2
      obtain ⟨b1, b2⟩ := hb h1
      refine ⟨b1, h3.imp id (fun ⟨v, v1, v2⟩ => ⟨v, 0, v1, by omega, v2, ?_⟩)⟩
      have := b2 v v1
      rw [show 1800 * 0 + (225 * v + 0) = 225 * v by omega]
      exact this
    | succ d ih =>
      intro j f h
      rcases h with h | ⟨i, g, h1, h2, h3⟩
      · exact ih j f h
      · obtain ⟨r1, r2⟩ := ih i g h1
        have hi := h2.1
        obtain ⟨c1, c2⟩ := hc i hi r1 j h2
        refine ⟨c1, ?_⟩
        rcases h3 with ⟨-, y⟩ | ⟨-, y2, y3⟩ | ⟨y1, y2, y3⟩
        · exact Or.inl y
        · obtain ⟨⟨s1, -⟩, ⟨s3, -⟩, s5, s6, -⟩ := (hP.2.2.2 i hi).set y2
          refine Or.inr ⟨cn (c i) 1, 32 * cn (c i) 2 + cn (c i) 3, s1, by omega, ?_, c2 _ (by omega) (Or.inl ⟨y2, by omega, by omega⟩)⟩
          unfold wq
          rw [if_neg (by omega), y3]
          unfold setF
          omega
        · subst y2
          rcases r2 with r2 | ⟨v, w, v8, w225, e, r2⟩
          · omega
          · refine Or.inr ⟨v, w, v8, w225, e, c2 _ (by omega) (Or.inr ⟨fun z => y3 ⟨z.1, ?_⟩, r2⟩)⟩
            have wl : wq w ≤ 224 := by unfold wq; split <;> omega
            have z2 := z.2
            have : (225 * v + w) / 225 = v := by omega
            omega
  refine ⟨hB.1, fun i hi => ⟨fun z => hS.1 i hi z, fun ⟨d, z⟩ => (all d i _ z).1⟩, fun i v w hi hv hw => ⟨fun z => hS.2 i v w hi hv hw z, fun ⟨d, z⟩ => ?_⟩⟩
  have wl : wq w ≤ 224 := by unfold wq; split <;> omega
  rcases (all d i _ z).2 with y | ⟨v', w', v8, w225, e, y⟩
  · omega
  · have wl' : wq w' ≤ 224 := by unfold wq; split <;> omega
    have ev : v' = v := by omega
    have ew : wq w' = wq w := by omega
    have ew : w' = w := by
      unfold wq at ew
      split at ew <;> split at ew <;> omega
    rw [← ev, ← ew]; exact y
def mzF (M : Mem) : Nat := fb_ct (fun j => decide (gI M 648 j = 1)) 180000 + fb_ct (fun j => decide (gI M 649 j = 1)) 100
theorem mz_le : mzF M ≤ 180100 := by
  unfold mzF
  have h1 := fb_ct_le (fun j => decide (gI M 648 j = 1)) 180000
  have h2 := fb_ct_le (fun j => decide (gI M 649 j = 1)) 100
  omega
theorem mz_same (same : ∀ a j, flC a j → gI M' a j = gI M a j) : mzF M' = mzF M := by
  unfold mzF
  have e1 : fb_ct (fun j => decide (gI M' 648 j = 1)) 180000 = fb_ct (fun j => decide (gI M 648 j = 1)) 180000 := fb_ct_cong (fun k hk => by rw [same 648 k (Or.inl ⟨rfl, hk⟩)])
  have e2 : fb_ct (fun j => decide (gI M' 649 j = 1)) 100 = fb_ct (fun j => decide (gI M 649 j = 1)) 100 := fb_ct_cong (fun k hk => by rw [same 649 k (Or.inr ⟨rfl, hk⟩)])
  rw [e1, e2]
theorem mz_lt (h : GrW M M') (hn : ∃ a j, flC a j ∧ gI M a j = 0 ∧ gI M' a j = 1) : mzF M + 1 ≤ mzF M' := by
  unfold mzF
  have s1 : fb_ct (fun j => decide (gI M 648 j = 1)) 180000 ≤ fb_ct (fun j => decide (gI M' 648 j = 1)) 180000 := fb_ct_sub (fun k hk z => decide_eq_true (h.2.2.1 648 k (Or.inl ⟨rfl, hk⟩) (of_decide_eq_true z)))
  have s2 : fb_ct (fun j => decide (gI M 649 j = 1)) 100 ≤ fb_ct (fun j => decide (gI M' 649 j = 1)) 100 := fb_ct_sub (fun k hk z => decide_eq_true (h.2.2.1 649 k (Or.inr ⟨rfl, hk⟩) (of_decide_eq_true z)))
  obtain ⟨a, j, hc, z0, z1⟩ := hn
  have n1 : ¬ gI M a j = 1 := fun y => by rw [z0] at y; exact absurd y (by decide)
  rcases hc with ⟨e, hj⟩ | ⟨e, hj⟩
  · subst e
    have := ct_lt (p := fun j => decide (gI M 648 j = 1)) (q := fun j => decide (gI M' 648 j = 1)) 180000 (fun k hk z => decide_eq_true (h.2.2.1 648 k (Or.inl ⟨rfl, hk⟩) (of_decide_eq_true z))) ⟨j, hj, decide_eq_true z1, decide_eq_false n1⟩
    omega
  · subst e
    have := ct_lt (p := fun j => decide (gI M 649 j = 1)) (q := fun j => decide (gI M' 649 j = 1)) 100 (fun k hk z => decide_eq_true (h.2.2.1 649 k (Or.inr ⟨rfl, hk⟩) (of_decide_eq_true z))) ⟨j, hj, decide_eq_true z1, decide_eq_false n1⟩
    omega
theorem Bas.gr (h : GrW M M') (hb : Bas M n) : Bas M' n := fun hn => by
  obtain ⟨b1, b2⟩ := hb hn
  exact ⟨h.2.2.1 649 0 (Or.inr ⟨rfl, by decide⟩) b1, fun v hv => h.2.2.1 648 _ (Or.inl ⟨rfl, by omega⟩) (b2 v hv)⟩
theorem c_pass13 {G : Nat → KT} (hc : cloX13_findFlow G K wT) (hW : Wf M) (hB : B01 M) (hP : PQ M n c) (hS : Snd n c M)
    (h : ∀ M' o, GrW M M' → Snd n c M' → (gI M' 605 75 = 0 → ∀ i, i < n → gI M' 649 i = 1 → ∀ j, sucS n c i j → CloR M' c i j) → G 108 [some (.ref 605), o] [] M') : G 122 [some (.ref 605), some (.int (nI 0))] [] M := by
  have n100 := hP.2.1
  have loop : ∀ f p : Nat, p + f = n → ∀ M1, GrW M M1 → Snd n c M1 → (gI M1 605 75 = 0 → ∀ i, i < p → gI M1 649 i = 1 → ∀ j, sucS n c i j → CloR M1 c i j) → G 122 [some (.ref 605), some (.int (nI p))] [] M1 := by
    intro f
    induction f with
    | zero =>
      intro p hp M1 g1 s1 d1
      have hp : p = n := by omega
      subst hp
      have hP1 := hP.gr g1.1
      exact eX13_findFlow_122 hc (g1.1.wf hW) ⟨fun _ => h M1 _ g1 s1 d1, fun z => absurd (by rw [hP1.2.2.1]; exact nI_le (Nat.le_refl _) (by omega)) z⟩
    | succ f ih =>
      intro p hp M1 g1 s1 d1
      have hP1 := hP.gr g1.1
      have hB1 := g1.2.1
      have cp : flC 649 p := Or.inr ⟨rfl, by omega⟩
      refine eX13_findFlow_122 hc (g1.1.wf hW) ?_
      rw [hP1.2.2.1, nI_leI (by omega) (by omega), nI_clamp (by omega), nI_1]
      refine ⟨fun z => absurd z (by omega), fun _ => ⟨vpN (by omega) (by decide), fun z => ih (p + 1) (by omega) M1 g1 s1 (fun y i hi r j hj => ?_), fun z => ?_⟩⟩
      · by_cases e : i = p
        · subst e; rw [z] at r; exact absurd r (by decide)
        · exact d1 y i (by omega) r j hj
      · have r := (hB1.1 649 p cp).resolve_left z
        refine c_flowsOn13 (g1.1.wf hW) hB1 hP1 (by omega) (s1.1 p (by omega) r) s1 (fun M2 hA => rX13_findFlow_139_2 hc (hA.1.1.wf (g1.1.wf hW)) ?_)
        rw [nI_1]
        refine ih (p + 1) (by omega) M2 (g1.tr hB hA.1) hA.2.1 (fun y i hi r2 j hj => ?_)
        obtain ⟨z1, z2⟩ := hA.1.2.2.2.1 y
        have hjn := hj.2.1
        by_cases e : i = p
        · subst e; exact hA.2.2 y j hj hjn
        · refine (d1 z1 i (by omega) ?_ j hj).same (by omega) (by omega) z2
          rw [← z2 649 i (Or.inr ⟨rfl, by omega⟩)]; exact r2
  exact loop n 0 (by omega) M (GrW.rf hB) hS (fun _ i hi => absurd hi (Nat.not_lt_zero i))
def ffS (a j : Nat) : Prop := a = 648 ∨ a = 649 ∨ (a = 605 ∧ (j = 33 ∨ j = 75))
theorem fl_ff {a j : Nat} (h : flS13 a j) : ffS a j := by unfold flS13 flC at h; unfold ffS; omega
theorem c_find13 (hW : Wf M) (hP : PQ M n c) (hF : RFl M n c FlR) (h : ∀ M', Wf M' → FrC ffS M M' → gI M' 605 33 = 1 → FlR M' n c → K none M') : sp_X13_findFlow [.ref 605] M K := by
  have n100 := hP.2.1
  refine wX13_findFlow hW (fun {G} hc => ⟨fun _ => ?_, fun z => ?_⟩)
  rotate_left
  · have z1 := hF.1.resolve_left z
    exact h M hW FrC.rf z1 (hF.2 z1)
  have f0 : FrC ffS M (uI M 605 33 1) := FrC_uI (by unfold ffS; omega)
  have g33 : gI (uI M 605 33 1) 605 33 = 1 := by rw [gI_uI, if_pos ⟨rfl, rfl⟩]
  generalize uI M 605 33 1 = M0 at f0 g33 ⊢
  have hP' : ∀ M1, FrC ffS M M1 → PQ M1 n c := fun M1 f => ⟨hP.1.fr f (fun j => by unfold ffS; omega) (fun j => by unfold ffS; omega) (fun j => by unfold ffS; omega), hP.2.1, by rw [f.i (by unfold ffS; omega)]; exact hP.2.2.1, hP.2.2.2⟩
  -- the passes
  have main : ∀ (f : Nat) (M1 : Mem) (o : Option Value), 180100 ≤ mzF M1 + f → FrC ffS M M1 → gI M1 605 33 = 1 → (∀ a j, flC a j → gI M1 a j = 0 ∨ gI M1 a j = 1) → Snd n c M1 → Bas M1 n → gI M1 605 75 = 1 → G 108 [some (.ref 605), o] [] M1 := by
    intro f
    induction f with
    | zero =>
      intro M1 o hz f1 g1 hB hS hb h75
      refine eX13_findFlow_108 hc (f1.wf hW) ⟨fun z => by rw [h75] at z; exact absurd z (by decide), fun _ => ?_⟩
      have f2 : FrC (fun a j => a = 605 ∧ j = 75) M1 (uI M1 605 75 0) := FrC_uI ⟨rfl, rfl⟩
      have z75 : gI (uI M1 605 75 0) 605 75 = 0 := by rw [gI_uI, if_pos ⟨rfl, rfl⟩]
      have same : ∀ a j, flC a j → gI (uI M1 605 75 0) a j = gI M1 a j := fun a j hc => f2.i (fun w => by unfold flC at hc; omega)
      have f12 : FrC ffS M (uI M1 605 75 0) := f1.tr (f2.mono (fun a j w => by unfold ffS; omega))
      have hm : mzF (uI M1 605 75 0) = mzF M1 := mz_same same
      generalize uI M1 605 75 0 = M2 at f2 z75 same f12 hm ⊢
      have hB2 : B01 M2 := ⟨fun a j hc => by rw [same a j hc]; exact hB a j hc, Or.inl z75⟩
      have hS2 : Snd n c M2 := ⟨fun j hj y => hS.1 j hj (by rw [← same 649 j (Or.inr ⟨rfl, hj⟩)]; exact y), fun i v w hi hv hw y => hS.2 i v w hi hv hw (by rw [← same 648 _ (Or.inl ⟨rfl, by omega⟩)]; exact y)⟩
      have hb2 : Bas M2 n := fun hn => by
        obtain ⟨b1, b2⟩ := hb hn
        exact ⟨by rw [same 649 0 (Or.inr ⟨rfl, by decide⟩)]; exact b1, fun v hv => by rw [same 648 _ (Or.inl ⟨rfl, by omega⟩)]; exact b2 v hv⟩
      refine c_pass13 hc (f12.wf hW) hB2 (hP' M2 f12) hS2 (fun M3 o3 g3 s3 d3 => ?_)
      have f13 : FrC ffS M M3 := f12.tr (g3.1.mono (fun a j w => fl_ff w))
      refine eX13_findFlow_108 hc (f13.wf hW) ⟨fun z => h M3 (f13.wf hW) f13 ?_ (FlR_of (hP' M3 f13) g3.2.1 s3 (hb2.gr g3) (d3 z)), fun z => ?_⟩
      · rw [g3.1.i (by unfold flS13 flC; omega), f2.i (by omega)]; exact g1
      · exfalso
        have z1 := g3.2.1.2.resolve_left z
        rcases g3.2.2.2.2 z1 with y | y
        · rw [z75] at y; exact absurd y (by decide)
        · have := mz_lt g3 y
          have := mz_le (M := M3)
          omega
    | succ f ih =>
      intro M1 o hz f1 g1 hB hS hb h75
      refine eX13_findFlow_108 hc (f1.wf hW) ⟨fun z => by rw [h75] at z; exact absurd z (by decide), fun _ => ?_⟩
      have f2 : FrC (fun a j => a = 605 ∧ j = 75) M1 (uI M1 605 75 0) := FrC_uI ⟨rfl, rfl⟩
      have z75 : gI (uI M1 605 75 0) 605 75 = 0 := by rw [gI_uI, if_pos ⟨rfl, rfl⟩]
      have same : ∀ a j, flC a j → gI (uI M1 605 75 0) a j = gI M1 a j := fun a j hc => f2.i (fun w => by unfold flC at hc; omega)
      have f12 : FrC ffS M (uI M1 605 75 0) := f1.tr (f2.mono (fun a j w => by unfold ffS; omega))
      have hm : mzF (uI M1 605 75 0) = mzF M1 := mz_same same
      generalize uI M1 605 75 0 = M2 at f2 z75 same f12 hm ⊢
      have hB2 : B01 M2 := ⟨fun a j hc => by rw [same a j hc]; exact hB a j hc, Or.inl z75⟩
      have hS2 : Snd n c M2 := ⟨fun j hj y => hS.1 j hj (by rw [← same 649 j (Or.inr ⟨rfl, hj⟩)]; exact y), fun i v w hi hv hw y => hS.2 i v w hi hv hw (by rw [← same 648 _ (Or.inl ⟨rfl, by omega⟩)]; exact y)⟩
      have hb2 : Bas M2 n := fun hn => by
        obtain ⟨b1, b2⟩ := hb hn
        exact ⟨by rw [same 649 0 (Or.inr ⟨rfl, by decide⟩)]; exact b1, fun v hv => by rw [same 648 _ (Or.inl ⟨rfl, by omega⟩)]; exact b2 v hv⟩
      refine c_pass13 hc (f12.wf hW) hB2 (hP' M2 f12) hS2 (fun M3 o3 g3 s3 d3 => ?_)
      have f13 : FrC ffS M M3 := f12.tr (g3.1.mono (fun a j w => fl_ff w))
      have g33' : gI M3 605 33 = 1 := by rw [g3.1.i (by unfold flS13 flC; omega), f2.i (by omega)]; exact g1
      by_cases z : gI M3 605 75 = 0
      · exact eX13_findFlow_108 hc (f13.wf hW) ⟨fun z => h M3 (f13.wf hW) f13 g33' (FlR_of (hP' M3 f13) g3.2.1 s3 (hb2.gr g3) (d3 z)), fun y => absurd z y⟩
      · have z1 := g3.2.1.2.resolve_left z
        rcases g3.2.2.2.2 z1 with y | y
        · rw [z75] at y; exact absurd y (by decide)
        · have := mz_lt g3 y
          exact ih M3 o3 (by omega) f13 g33' g3.2.1.1 s3 (hb2.gr g3) z1
  -- the first ways
  have base : ∀ f p : Nat, p + f = 8 → ∀ M1, FrC ffS M M1 → gI M1 605 33 = 1 → (∀ j, j < 100 → gI M1 649 j = if j = 0 ∧ 0 < n then 1 else 0) → (∀ j, j < 180000 → gI M1 648 j = 0 ∨ gI M1 648 j = 1) → (∀ j, j < 180000 → gI M1 648 j = 1 → 0 < n ∧ ∃ v, v < 8 ∧ j = 225 * v) → (0 < n → ∀ v, v < p → gI M1 648 (225 * v) = 1) → G 73 [some (.ref 605), some (.int (nI p))] [] M1 := by
    intro f p hp M1 f1 g1 r1 w01 w1 b1
    have go : ∀ (M1 : Mem) (o : Option Value), FrC ffS M M1 → gI M1 605 33 = 1 → (∀ j, j < 100 → gI M1 649 j = if j = 0 ∧ 0 < n then 1 else 0) → (∀ j, j < 180000 → gI M1 648 j = 0 ∨ gI M1 648 j = 1) → (∀ j, j < 180000 → gI M1 648 j = 1 → 0 < n ∧ ∃ v, v < 8 ∧ j = 225 * v) → (0 < n → ∀ v, v < 8 → gI M1 648 (225 * v) = 1) → G 108 [some (.ref 605), o] [] (uI M1 605 75 1) := by
      intro M1 o f1 g1 r1 w01 w1 b1
      have f2 : FrC (fun a j => a = 605 ∧ j = 75) M1 (uI M1 605 75 1) := FrC_uI ⟨rfl, rfl⟩
      have same : ∀ a j, flC a j → gI (uI M1 605 75 1) a j = gI M1 a j := fun a j hc => f2.i (fun w => by unfold flC at hc; omega)
      refine main 180100 _ _ (by omega) (f1.tr (f2.mono (fun a j w => by unfold ffS; omega))) (by rw [f2.i (by omega)]; exact g1) (fun a j hc => ?_) ⟨fun j hj z => ?_, fun i v w hi hv hw z => ?_⟩ (fun hn => ⟨?_, fun v hv => ?_⟩) (by rw [gI_uI, if_pos ⟨rfl, rfl⟩])
      · rw [same a j hc]
        rcases hc with ⟨e, hj⟩ | ⟨e, hj⟩
        · subst e; exact w01 j hj
        · subst e; rw [r1 j hj]; split; exact Or.inr rfl; exact Or.inl rfl
      · rw [same 649 j (Or.inr ⟨rfl, hj⟩), r1 j hj] at z
        by_cases e : j = 0 ∧ 0 < n
        · rw [e.1]; exact Fa.r0 e.2
        · rw [if_neg e] at z; exact absurd z (by decide)
      · rw [same 648 _ (Or.inl ⟨rfl, by omega⟩)] at z
        obtain ⟨hn, v', v8, e⟩ := w1 _ (by omega) z
        have ei : i = 0 := by omega
        have ew : w = 0 := by omega
        subst ei; subst ew
        exact Fa.w0 hn hv
      · rw [same 649 0 (Or.inr ⟨rfl, by decide⟩), r1 0 (by decide), if_pos ⟨rfl, hn⟩]
      · rw [same 648 _ (Or.inl ⟨rfl, by omega⟩)]; exact b1 hn v hv
    induction f generalizing p M1 with
    | zero =>
      have hp : p = 8 := by omega
      subst hp
      exact eX13_findFlow_73 hc (f1.wf hW) ⟨fun _ => go M1 _ f1 g1 r1 w01 w1 b1, fun z => absurd (by decide) z⟩
    | succ f ih =>
      have hP1 := hP' M1 f1
      refine eX13_findFlow_73 hc (f1.wf hW) ⟨fun z => absurd ((nI_leI (a := 8) (by decide) (by omega)).mp z) (by omega), fun _ => ?_⟩
      have en : gI M1 605 23 ≤ 0 ↔ n = 0 := by
        rw [hP1.2.2.1]
        exact (nI_leI (b := 0) (by omega) (by decide)).trans (by omega)
      rw [en]
      refine ⟨fun z => go M1 _ f1 g1 r1 w01 w1 (fun y => by omega), fun z => ?_⟩
      have e1 : (225 : Int32) * nI p = nI (225 * p) := pk_mul 225 p
      rw [e1, nI_clamp (by omega), nI_1]
      have f2 : FrC (fun a j => a = 648 ∧ j = 225 * p) M1 (uI M1 648 (225 * p) 1) := FrC_uI ⟨rfl, rfl⟩
      have gv : gI (uI M1 648 (225 * p) 1) 648 (225 * p) = 1 := by rw [gI_uI, if_pos ⟨rfl, rfl⟩]
      refine ⟨vpN (by omega) (by decide), ih (p + 1) (by omega) _ (f1.tr (f2.mono (fun a j w => by unfold ffS; omega))) (by rw [f2.i (by omega)]; exact g1) (fun j hj => by rw [f2.i (by omega)]; exact r1 j hj) (fun j hj => ?_) (fun j hj y => ?_) (fun hn v hv => ?_)⟩
      · by_cases e : j = 225 * p
        · subst e; exact Or.inr gv
        · rw [f2.i (by omega)]; exact w01 j hj
      · by_cases e : j = 225 * p
        · exact ⟨by omega, p, by omega, e⟩
        · rw [f2.i (by omega)] at y; exact w1 j hj y
      · by_cases e : v = p
        · subst e; exact gv
        · rw [f2.i (by omega)]; exact b1 hn v (by omega)
  have reach : ∀ f p : Nat, p + f = 100 → ∀ M1, FrC ffS M M1 → gI M1 605 33 = 1 → (∀ j, j < p → gI M1 649 j = if j = 0 ∧ 0 < n then 1 else 0) → (∀ j, j < 180000 → gI M1 648 j = 0) → G 37 [some (.ref 605), some (.int (nI p))] [] M1 := by
    intro f
    induction f with
    | zero =>
      intro p hp M1 f1 g1 r1 w1
      have hp : p = 100 := by omega
      subst hp
      refine eX13_findFlow_37 hc (f1.wf hW) ⟨fun _ => base 8 0 rfl M1 f1 g1 r1 (fun j hj => Or.inl (w1 j hj)) (fun j hj y => ?_) (fun _ v hv => absurd hv (Nat.not_lt_zero v)), fun z => absurd (by decide) z⟩
      rw [w1 j hj] at y; exact absurd y (by decide)
    | succ f ih =>
      intro p hp M1 f1 g1 r1 w1
      have hP1 := hP' M1 f1
      have en : gI M1 605 23 ≤ 0 ↔ n = 0 := by
        rw [hP1.2.2.1]
        exact (nI_leI (b := 0) (by omega) (by decide)).trans (by omega)
      have ep : nI p = 0 ↔ p = 0 := nI_eq (b := 0) (by omega) (by decide)
      refine eX13_findFlow_37 hc (f1.wf hW) ⟨fun z => absurd ((nI_leI (a := 100) (by decide) (by omega)).mp z) (by omega), fun _ => ?_⟩
      rw [en, ep, nI_clamp (by omega), nI_1]
      have wr : ∀ x : Int32, (x = if p = 0 ∧ 0 < n then 1 else 0) → G 37 [some (.ref 605), some (.int (nI (p + 1)))] [] (uI M1 649 p x) := by
        intro x hx
        have f2 : FrC (fun a j => a = 649 ∧ j = p) M1 (uI M1 649 p x) := FrC_uI ⟨rfl, rfl⟩
        refine ih (p + 1) (by omega) _ (f1.tr (f2.mono (fun a j w => by unfold ffS; omega))) (by rw [f2.i (by omega)]; exact g1) (fun j hj => ?_) (fun j hj => by rw [f2.i (by omega)]; exact w1 j hj)
        by_cases e : j = p
        · subst e; rw [gI_uI, if_pos ⟨rfl, rfl⟩, hx]
        · rw [f2.i (by omega)]; exact r1 j (by omega)
      have vp : vp_in (nI p) 100 := vpN (by omega) (by decide)
      exact ⟨fun z => ⟨vp, wr 0 (by rw [if_neg (fun y => z y.1)])⟩, fun z => ⟨fun y => ⟨vp, wr 0 (by rw [if_neg (fun w => by omega)])⟩, fun y => ⟨vp, wr 1 (by rw [if_pos ⟨z, by omega⟩])⟩⟩⟩
  have zero : ∀ f p : Nat, p + f = 180000 → ∀ M1, FrC ffS M M1 → gI M1 605 33 = 1 → (∀ j, j < p → gI M1 648 j = 0) → G 15 [some (.ref 605), some (.int (nI p))] [] M1 := by
    intro f
    induction f with
    | zero =>
      intro p hp M1 f1 g1 w1
      have hp : p = 180000 := by omega
      subst hp
      exact eX13_findFlow_15 hc (f1.wf hW) ⟨fun _ => reach 100 0 rfl M1 f1 g1 (fun j hj => absurd hj (Nat.not_lt_zero j)) w1, fun z => absurd (by decide) z⟩
    | succ f ih =>
      intro p hp M1 f1 g1 w1
      refine eX13_findFlow_15 hc (f1.wf hW) ⟨fun z => absurd ((nI_leI (a := 180000) (by decide) (by omega)).mp z) (by omega), fun _ => ?_⟩
      rw [nI_clamp (by omega), nI_1]
      have f2 : FrC (fun a j => a = 648 ∧ j = p) M1 (uI M1 648 p 0) := FrC_uI ⟨rfl, rfl⟩
      refine ⟨vpN (by omega) (by decide), ih (p + 1) (by omega) _ (f1.tr (f2.mono (fun a j w => by unfold ffS; omega))) (by rw [f2.i (by omega)]; exact g1) (fun j hj => ?_)⟩
      by_cases e : j = p
      · subst e; rw [gI_uI, if_pos ⟨rfl, rfl⟩]
      · rw [f2.i (by omega)]; exact w1 j (by omega)
  exact zero 180000 0 rfl M0 f0 g33 (fun j hj => absurd hj (Nat.not_lt_zero j))
end
end RFLOW3
