section RJUDGED
section
variable {M M' : Mem} {K : RT} {n i : Nat} {c : Nat → Nat → Int64}
/-- the reference's judgement of one register -/
def gdP (x0 x1 j x9 : Int32) : Prop := x9 ≠ -1 ∧ (x9 ≠ -2 → P_X13_wantsWhole x0 j → ¬ P_X13_isReal x9) ∧ (x9 ≠ -2 → x0 = 16 → P_X13_isReal x9) ∧ (f_X13_placesOf x0 = j → x9 = 3) ∧ (x9 = -2 ∨ ¬ (P_X13_isAlike x0 ∨ (x0 = 34 ∧ j = 1)) ∨ j = 0 ∨ x9 = x1)
noncomputable def jdI (x0 x1 x2 x3 x4 x5 x6 : Int32) : Int32 := iT (gdP x0 x1 0 x1 ∧ gdP x0 x1 1 x3 ∧ gdP x0 x1 2 x5) (if (x3 = -2 ∨ x4 = x2) ∧ (x5 = -2 ∨ x6 = x2) then 0 else 2) 1
theorem c_judged13 {x0 x1 x2 x3 x4 x5 x6 : Int32} (hW : Wf M) (h : K (some (.int (jdI x0 x1 x2 x3 x4 x5 x6))) M) : sp_X13_judged [.int x0, .int x1, .int x2, .int x3, .int x4, .int x5, .int x6] M K := by
  refine wX13_judged hW (fun {G} hc => ?_)
  -- one register
  have step : ∀ (g j x9 : Int32) (o10 o11 : Option Value), j = 0 ∨ j = 1 ∨ j = 2 → (∀ (g' : Int32) o9 o10 o11, (g' = 0 ∨ g' = 1) → (g' ≠ 0 ↔ (g ≠ 0 ∧ gdP x0 x1 j x9)) → G 6 [some (.int x0), some (.int x1), some (.int x2), some (.int x3), some (.int x4), some (.int x5), some (.int x6), some (.int g'), some (.int (j + 1)), o9, o10, o11] [] M) → ∀ s0 : Int32, (s0 = 0 ↔ x9 = -2) → G 47 [some (.int x0), some (.int x1), some (.int x2), some (.int x3), some (.int x4), some (.int x5), some (.int x6), some (.int g), some (.int j), some (.int x9), o10, o11] [.int s0] M := by
    intro g j x9 o10 o11 hj hn s0 hs
    unfold gdP at hn
    -- the last condition
    have g147 : ∀ (g1 s : Int32) (o11 : Option Value), (s ≠ 0 ↔ (P_X13_isAlike x0 ∨ (x0 = 34 ∧ j = 1))) → (g1 ≠ 0 ↔ (g ≠ 0 ∧ x9 ≠ -1 ∧ (x9 ≠ -2 → P_X13_wantsWhole x0 j → ¬ P_X13_isReal x9) ∧ (x9 ≠ -2 → x0 = 16 → P_X13_isReal x9) ∧ (f_X13_placesOf x0 = j → x9 = 3))) → G 147 [some (.int x0), some (.int x1), some (.int x2), some (.int x3), some (.int x4), some (.int x5), some (.int x6), some (.int g1), some (.int j), some (.int x9), some (.int s0), o11] [.int s] M := by
      intro g1 s o11 e1 e2
      refine eX13_judged_147 hc hW ⟨fun z => hn 0 _ _ _ (Or.inl rfl) ?_, fun nz => ?_⟩
      · exact ⟨fun y => absurd rfl y, fun y => absurd z (e2.mpr ⟨y.1, y.2.1, y.2.2.1, y.2.2.2.1, y.2.2.2.2.1⟩)⟩
      · obtain ⟨u1, u2, u3, u4, u5⟩ := e2.mp nz
        refine ⟨fun z => hn 1 _ _ _ (Or.inr rfl) ⟨fun _ => ⟨u1, u2, u3, u4, u5, Or.inl (hs.mp z)⟩, fun _ => by decide⟩, fun nz0 => ⟨fun z => hn 1 _ _ _ (Or.inr rfl) ⟨fun _ => ⟨u1, u2, u3, u4, u5, Or.inr (Or.inl (fun y => e1.mpr y z))⟩, fun _ => by decide⟩, fun nzs => ⟨fun z => hn 1 _ _ _ (Or.inr rfl) ⟨fun _ => ⟨u1, u2, u3, u4, u5, Or.inr (Or.inr (Or.inl z))⟩, fun _ => by decide⟩, fun nj => ⟨fun z => hn 0 _ _ _ (Or.inl rfl) ⟨fun y => absurd rfl y, fun y => ?_⟩, fun z => hn 1 _ _ _ (Or.inr rfl) ⟨fun _ => ⟨u1, u2, u3, u4, u5, Or.inr (Or.inr (Or.inr z))⟩, fun _ => by decide⟩⟩⟩⟩⟩
        rcases y.2.2.2.2.2 with w | w | w | w
        · exact absurd (hs.mpr w) nz0
        · exact absurd (e1.mp nzs) w
        · exact absurd w nj
        · exact absurd w z
    have g121 : ∀ (g1 : Int32) (o7 o11 : Option Value), (g1 ≠ 0 ↔ (g ≠ 0 ∧ x9 ≠ -1 ∧ (x9 ≠ -2 → P_X13_wantsWhole x0 j → ¬ P_X13_isReal x9) ∧ (x9 ≠ -2 → x0 = 16 → P_X13_isReal x9) ∧ (f_X13_placesOf x0 = j → x9 = 3))) → G 121 [some (.int x0), some (.int x1), some (.int x2), some (.int x3), some (.int x4), some (.int x5), some (.int x6), o7, some (.int j), some (.int x9), some (.int s0), o11] [.int g1] M := by
      intro g1 o7 o11 e2
      refine eX13_judged_121 hc hW ⟨fun a => g147 g1 1 _ ⟨fun _ => Or.inl a, fun _ => by decide⟩ e2, fun na => ⟨fun n34 => g147 g1 0 _ ⟨fun y => absurd rfl y, fun y => y.elim (fun w => absurd w na) (fun w => absurd w.1 n34)⟩ e2, fun e34 => ⟨fun nj => g147 g1 0 _ ⟨fun y => absurd rfl y, fun y => y.elim (fun w => absurd w na) (fun w => absurd w.2 nj)⟩ e2, fun ej => g147 g1 1 _ ⟨fun _ => Or.inr ⟨e34, ej⟩, fun _ => by decide⟩ e2⟩⟩⟩
    have g82 : ∀ o11, g ≠ 0 → x9 ≠ -1 → (x9 ≠ -2 → P_X13_wantsWhole x0 j → ¬ P_X13_isReal x9) → G 82 [some (.int x0), some (.int x1), some (.int x2), some (.int x3), some (.int x4), some (.int x5), some (.int x6), some (.int g), some (.int j), some (.int x9), some (.int s0), o11] [] M := by
      intro o11 u1 u2 u3
      have pl : (x9 ≠ -2 → x0 = 16 → P_X13_isReal x9) → ((¬ f_X13_placesOf x0 = j → G 121 [some (.int x0), some (.int x1), some (.int x2), some (.int x3), some (.int x4), some (.int x5), some (.int x6), some (.int g), some (.int j), some (.int x9), some (.int s0), o11] [.int 1] M) ∧ (f_X13_placesOf x0 = j → ((¬ x9 = 3 → G 121 [some (.int x0), some (.int x1), some (.int x2), some (.int x3), some (.int x4), some (.int x5), some (.int x6), some (.int g), some (.int j), some (.int x9), some (.int s0), o11] [.int 0] M) ∧ (x9 = 3 → G 121 [some (.int x0), some (.int x1), some (.int x2), some (.int x3), some (.int x4), some (.int x5), some (.int x6), some (.int g), some (.int j), some (.int x9), some (.int s0), o11] [.int 1] M)))) := by
        intro u4
        exact ⟨fun np => g121 1 _ _ ⟨fun _ => ⟨u1, u2, u3, u4, fun y => absurd y np⟩, fun _ => by decide⟩, fun p => ⟨fun n3 => g121 0 _ _ ⟨fun y => absurd rfl y, fun y => absurd (y.2.2.2.2 p) n3⟩, fun e3 => g121 1 _ _ ⟨fun _ => ⟨u1, u2, u3, u4, fun _ => e3⟩, fun _ => by decide⟩⟩⟩
      refine eX13_judged_82 hc hW ⟨fun z => pl (fun y => absurd (hs.mp z) y), fun nz => ⟨fun n16 => pl (fun _ y => absurd y n16), fun e16 => ⟨fun nr => g121 0 _ _ ⟨fun y => absurd rfl y, fun y => absurd (y.2.2.2.1 (fun w => nz (hs.mpr w)) e16) nr⟩, fun r => pl (fun _ _ => r)⟩⟩⟩
    refine eX13_judged_47 hc hW ⟨fun z => g121 0 _ _ ⟨fun y => absurd rfl y, fun y => absurd z y.1⟩, fun nz => ⟨fun z => g121 0 _ _ ⟨fun y => absurd rfl y, fun y => absurd z y.2.1⟩, fun n1 => ⟨fun z => g82 _ nz n1 (fun y => absurd (hs.mp z) y), fun nz0 => ⟨fun nw => g82 _ nz n1 (fun _ y => absurd y nw), fun w => ⟨fun r => g121 0 _ _ ⟨fun y => absurd rfl y, fun y => absurd r (y.2.2.1 (fun u => nz0 (hs.mpr u)) w)⟩, fun nr => g82 _ nz n1 (fun _ _ => nr)⟩⟩⟩⟩⟩
  unfold jdI at h
  -- behind all three
  have last : ∀ (g : Int32) (o9 o10 o11 : Option Value), (g ≠ 0 ↔ (gdP x0 x1 0 x1 ∧ gdP x0 x1 1 x3 ∧ gdP x0 x1 2 x5)) → G 6 [some (.int x0), some (.int x1), some (.int x2), some (.int x3), some (.int x4), some (.int x5), some (.int x6), some (.int g), some (.int 3), o9, o10, o11] [] M := by
    intro g o9 o10 o11 hg
    refine eX13_judged_6 hc hW ⟨fun _ => ⟨fun nz => ?_, fun z => ?_⟩, fun z => absurd (by decide) z⟩
    · rw [iT_t (hg.mp nz)] at h
      have g207 : (x3 = -2 ∨ x4 = x2) → G 207 [some (.int x0), some (.int x1), some (.int x2), some (.int x3), some (.int x4), some (.int x5), some (.int x6), some (.int g), some (.int 3), o9, o10, o11] [] M := fun y => by
        refine eX13_judged_207 hc hW ⟨fun w => ?_, fun w => ⟨fun u => ?_, fun u => ?_⟩⟩
        · rw [if_pos ⟨y, Or.inl w⟩] at h; exact h
        · rw [if_neg (fun t => t.2.elim w u)] at h; exact h
        · rw [if_pos ⟨y, Or.inr u⟩] at h; exact h
      refine ⟨fun w => g207 (Or.inl w), fun w => ⟨fun u => ?_, fun u => g207 (Or.inr u)⟩⟩
      rw [if_neg (fun t => t.1.elim w u)] at h
      exact h
    · rw [iT_f (fun y => hg.mpr y z)] at h
      exact h
  have s2 : ∀ (g : Int32) (o9 o10 o11 : Option Value), (g ≠ 0 ↔ (gdP x0 x1 0 x1 ∧ gdP x0 x1 1 x3)) → G 6 [some (.int x0), some (.int x1), some (.int x2), some (.int x3), some (.int x4), some (.int x5), some (.int x6), some (.int g), some (.int 2), o9, o10, o11] [] M := by
    intro g o9 o10 o11 hg
    have hn : ∀ (g' : Int32) o9 o10 o11, (g' = 0 ∨ g' = 1) → (g' ≠ 0 ↔ (g ≠ 0 ∧ gdP x0 x1 2 x5)) → G 6 [some (.int x0), some (.int x1), some (.int x2), some (.int x3), some (.int x4), some (.int x5), some (.int x6), some (.int g'), some (.int (2 + 1)), o9, o10, o11] [] M := fun g' _ _ _ _ e => last g' _ _ _ (by rw [e, hg]; exact and_assoc)
    refine eX13_judged_6 hc hW ⟨fun z => absurd z (by decide), fun _ => ⟨fun _ => ⟨fun _ => ⟨fun y => step g 2 x5 _ _ (Or.inr (Or.inr rfl)) hn 0 ⟨fun _ => y, fun _ => rfl⟩, fun y => step g 2 x5 _ _ (Or.inr (Or.inr rfl)) hn 1 ⟨fun w => absurd w (by decide), fun w => absurd w y⟩⟩, fun z => absurd z (by decide)⟩, fun z => absurd z (by decide)⟩⟩
  have s1 : ∀ (g : Int32) (o9 o10 o11 : Option Value), (g ≠ 0 ↔ gdP x0 x1 0 x1) → G 6 [some (.int x0), some (.int x1), some (.int x2), some (.int x3), some (.int x4), some (.int x5), some (.int x6), some (.int g), some (.int 1), o9, o10, o11] [] M := by
    intro g o9 o10 o11 hg
    have hn : ∀ (g' : Int32) o9 o10 o11, (g' = 0 ∨ g' = 1) → (g' ≠ 0 ↔ (g ≠ 0 ∧ gdP x0 x1 1 x3)) → G 6 [some (.int x0), some (.int x1), some (.int x2), some (.int x3), some (.int x4), some (.int x5), some (.int x6), some (.int g'), some (.int (1 + 1)), o9, o10, o11] [] M := fun g' _ _ _ _ e => s2 g' _ _ _ (by rw [e, hg])
    refine eX13_judged_6 hc hW ⟨fun z => absurd z (by decide), fun _ => ⟨fun _ => ⟨fun z => absurd rfl z, fun _ => ⟨fun y => step g 1 x3 _ _ (Or.inr (Or.inl rfl)) hn 0 ⟨fun _ => y, fun _ => rfl⟩, fun y => step g 1 x3 _ _ (Or.inr (Or.inl rfl)) hn 1 ⟨fun w => absurd w (by decide), fun w => absurd w y⟩⟩⟩, fun z => absurd z (by decide)⟩⟩
  have hn : ∀ (g' : Int32) o9 o10 o11, (g' = 0 ∨ g' = 1) → (g' ≠ 0 ↔ ((1 : Int32) ≠ 0 ∧ gdP x0 x1 0 x1)) → G 6 [some (.int x0), some (.int x1), some (.int x2), some (.int x3), some (.int x4), some (.int x5), some (.int x6), some (.int g'), some (.int (0 + 1)), o9, o10, o11] [] M := fun g' _ _ _ _ e => s1 g' _ _ _ (by rw [e]; exact ⟨fun y => y.2, fun y => ⟨by decide, y⟩⟩)
  refine eX13_judged_6 hc hW ⟨fun z => absurd z (by decide), fun _ => ⟨fun z => absurd rfl z, fun _ => ⟨fun y => step 1 0 x1 _ _ (Or.inl rfl) hn 0 ⟨fun _ => y, fun _ => rfl⟩, fun y => step 1 0 x1 _ _ (Or.inl rfl) hn 1 ⟨fun w => absurd w (by decide), fun w => absurd w y⟩⟩⟩⟩
end
end RJUDGED
