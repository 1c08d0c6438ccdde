section SAVED
theorem tab_sv : ∀ a, a < 651 → (Sh a).1 = 6 → a = 15 ∨ (20 ≤ a ∧ a < 404 ∧ (a - 20) % 3 = 0) := by decide +kernel
theorem sv_at {a : Nat} (h : (Sh a).1 = 6) : a = 15 ∨ (20 ≤ a ∧ a < 404 ∧ (a - 20) % 3 = 0) := tab_sv a (Sh_lt' h (by decide)) h
/-- a saved thing's own objects -/
def svS (r : Nat) (b : Nat) : Prop := r ≤ b ∧ b < r + 3
/-- the saved thing r is that of sort s, number q, as it is in e -/
def SvIs (M : Mem) (r s q : Nat) (e : DS) : Prop :=
  gI M r 0 = nI s ∧ s < 65536 ∧ ((s ≠ 32 → gI M r 1 = nI q) ∧ q < 8) ∧ (s = 86 → RowIs M (r + 1) (dk e (2 * q)) (dn e (2 * q)) (di e (2 * q))) ∧ (s = 65 → RowIs M (r + 1) (dk e (2 * q + 1)) (dn e (2 * q + 1)) (di e (2 * q + 1)))
  ∧ (s = 77 → q < 4 ∧ (gL M r 2).toInt32 = dm e q) ∧ (s = 83 → gL M r 2 = dsc e q)
theorem SvIs.mo {S : Nat → Prop} {M M' : Mem} {r s q : Nat} {e : DS} (h : Mo S M M') (hS : ∀ b, S b → ¬ svS r b) (hv : SvIs M r s q e) : SvIs M' r s q e := by
  obtain ⟨a1, a2, a3, a4, a5, a6, a7⟩ := hv
  have z : ∀ j, j < 3 → ¬ S (r + j) := fun j hj w => hS _ w ⟨by omega, by omega⟩
  have z0 : ¬ S r := z 0 (by decide)
  refine ⟨by rw [h.I z0]; exact a1, a2, ⟨fun w => by rw [h.I z0]; exact a3.1 w, a3.2⟩, fun w => (a4 w).mo h (z 1 (by decide)) (z 2 (by decide)), fun w => (a5 w).mo h (z 1 (by decide)) (z 2 (by decide)), fun w => ⟨(a6 w).1, by rw [h.L z0]; exact (a6 w).2⟩, fun w => by rw [h.L z0]; exact a7 w⟩
/-- d and e are alike but for the target -/
def SB (s q : Nat) (d e : DS) : Prop := (∀ j, j < 16 → ¬ (s = 86 ∧ j = 2 * q) → ¬ (s = 65 ∧ j = 2 * q + 1) → sameRow d e j) ∧ (∀ m, m < 4 → ¬ (s = 77 ∧ m = q) → dm d m = dm e m) ∧ ∀ k, k < 8 → ¬ (s = 83 ∧ k = q) → dsc d k = dsc e k
def eqD (d e : DS) : Prop := (∀ j, j < 16 → sameRow d e j) ∧ (∀ m, m < 4 → dm d m = dm e m) ∧ ∀ k, k < 8 → dsc d k = dsc e k
theorem sameRow.rf {d : DS} {j : Nat} : sameRow d d j := ⟨rfl, rfl, fun _ _ => rfl⟩
theorem sameRow.sy {d e : DS} {j : Nat} (h : sameRow d e j) : sameRow e d j := ⟨h.1.symm, h.2.1.symm, fun i hi => (h.2.2 i (by rw [h.2.1]; exact hi)).symm⟩
theorem sameRow.tr {d e g : DS} {j : Nat} (h : sameRow d e j) (h' : sameRow e g j) : sameRow d g j := ⟨h.1.trans h'.1, h.2.1.trans h'.2.1, fun i hi => (h.2.2 i hi).trans (h'.2.2 i (by rw [← h.2.1]; exact hi))⟩
theorem SB.rf {s q : Nat} {d : DS} : SB s q d d := ⟨fun _ _ _ _ => sameRow.rf, fun _ _ _ => rfl, fun _ _ _ => rfl⟩
theorem SB.tr {s q : Nat} {d e g : DS} (h : SB s q d e) (h' : SB s q e g) : SB s q d g :=
  ⟨fun j hj a b => (h.1 j hj a b).tr (h'.1 j hj a b), fun m hm a => (h.2.1 m hm a).trans (h'.2.1 m hm a), fun k hk a => (h.2.2 k hk a).trans (h'.2.2 k hk a)⟩
theorem OT.sb {s q : Nat} {d d' : DS} (h : OT s q d d') : SB s q d' d := by
  refine ⟨fun j hj a b => ?_, fun m hm a => ?_, fun k hk a => ?_⟩
  · obtain ⟨h1, h2, h3⟩ := h.1 j hj a b
    exact ⟨h1, h2, fun i _ => by rw [h3]⟩
  · by_cases w : s = 77
    · exact h.2.2.1 w m (fun z => a ⟨w, z⟩)
    · rw [h.2.1 w]
  · by_cases w : s = 83
    · exact h.2.2.2.2.1 w k (fun z => a ⟨w, z⟩)
    · rw [h.2.2.2.1 w]
theorem RD.eq {M : Mem} {s : Nat} {d e : DS} (h : eqD d e) (hr : RD M s d) : RD M s e := by
  refine ⟨fun j hj => ?_, fun m hm => (hr.2.1 m hm).trans (h.2.1 m hm), fun k hk => (hr.2.2 k hk).trans (h.2.2 k hk)⟩
  obtain ⟨a1, a2, a3, a4⟩ := hr.1 j hj
  obtain ⟨b1, b2, b3⟩ := h.1 j hj
  exact ⟨a1.trans b1, by rw [a2, b2], by rw [← b2]; exact a3, fun i hi => (a4 i (by rw [b2]; exact hi)).trans (b3 i (by rw [b2]; exact hi))⟩
theorem RD.has {M : Mem} {s : Nat} {d e : DS} (h : ∀ j, j < 16 → RowIs M (s + 5 + 2 * j) (dk e j) (dn e j) (di e j)) (h2 : ∀ m, m < 4 → gI M (s + 3) m = dm e m) (h3 : ∀ k, k < 8 → gL M (s + 4) k = dsc e k) : RD M s e := ⟨h, h2, h3⟩
theorem RowIs.same {M : Mem} {a j : Nat} {d e : DS} (h : sameRow d e j) (hr : RowIs M a (dk d j) (dn d j) (di d j)) : RowIs M a (dk e j) (dn e j) (di e j) := by
  obtain ⟨a1, a2, a3, a4⟩ := hr
  obtain ⟨b1, b2, b3⟩ := h
  exact ⟨a1.trans b1, by rw [a2, b2], by rw [← b2]; exact a3, fun i hi => (a4 i (by rw [b2]; exact hi)).trans (b3 i (by rw [b2]; exact hi))⟩
/-- take -/
theorem take_is {r s q : Nat} {x : Int32} {d : DS} {M : Mem} (hW : Wf M) (hr6 : (Sh r).1 = 6) (hr : RD M 405 d) (hs : s < 65536) (hx : x &&& 7 = nI q) (hq : q < 8) (h77 : s = 77 → q < 4) : q_X9_take r (nI s) x M ∧ (∀ P : Mem → Prop, (∀ M', Wf M' → Mo (svS r) M M' → gR M' = gR M → SvIs M' r s q d → P M') → P (m_X9_take r (nI s) x M)) := by
  have hat := sv_at hr6
  have k5 : (Sh (r + 1)).1 = 5 := Ssav hr6
  have s0 : svS r r := ⟨Nat.le_refl _, by omega⟩
  have hm0 : Mo (svS r) M (uI (uI M r 0 (nI s)) r 1 (x &&& 7)) := (Mo_uI s0).tr (Mo_uI s0)
  have nu : ∀ n, n < 65536 → (nI s = nI n ↔ s = n) := fun n hn => nI_eq (by omega) (by omega)
  have e65 : nI s = 65 ↔ s = 65 := nu 65 (by decide)
  have e77 : nI s = 77 ↔ s = 77 := nu 77 (by decide)
  have e83 : nI s = 83 ↔ s = 83 := nu 83 (by decide)
  have e86 : nI s = 86 ↔ s = 86 := nu 86 (by decide)
  have hv8 : vp_in (x &&& 7) 8 := by rw [hx]; exact vpN hq (by decide)
  have hcl : (x &&& 7).toNatClampNeg = q := by rw [hx, nI_clamp (by omega)]
  have hr' : RD (uI (uI M r 0 (nI s)) r 1 (x &&& 7)) 405 d := hr.mo hm0 (fun b hb z => by have := hb.1; have := hb.2; omega)
  have g0 : gI (uI (uI M r 0 (nI s)) r 1 (x &&& 7)) r 0 = nI s := by rw [rI_k (by decide), rI_eq]
  have g1 : gI (uI (uI M r 0 (nI s)) r 1 (x &&& 7)) r 1 = nI q := by rw [rI_eq, hx]
  have row : ∀ j a, a = 405 + 5 + 2 * j → j < 16 → q_X8_copyFrom (r + 1) a (uI (uI M r 0 (nI s)) r 1 (x &&& 7)) ∧ Mo (svS r) M (m_X8_copyFrom (r + 1) a (uI (uI M r 0 (nI s)) r 1 (x &&& 7))) ∧ gR (m_X8_copyFrom (r + 1) a (uI (uI M r 0 (nI s)) r 1 (x &&& 7))) = gR M ∧ gI (m_X8_copyFrom (r + 1) a (uI (uI M r 0 (nI s)) r 1 (x &&& 7))) r = gI (uI (uI M r 0 (nI s)) r 1 (x &&& 7)) r ∧ RowIs (m_X8_copyFrom (r + 1) a (uI (uI M r 0 (nI s)) r 1 (x &&& 7))) (r + 1) (dk d j) (dn d j) (di d j) := by
    intro j a ha hj
    subst ha
    have kb : (Sh (405 + 5 + 2 * j)).1 = 5 := by
      have : ∀ j ∈ List.range 16, (Sh (405 + 5 + 2 * j)).1 = 5 := by decide +kernel
      exact this j (List.mem_range.mpr hj)
    obtain ⟨c1, c2, c3, c4⟩ := copy_row k5 kb (hr'.1 j hj)
    refine ⟨c1, hm0.tr (c2.mono (fun b hb => ?_)), c3, (c2.2 r (fun z => by rcases z with z | z <;> omega)).1, c4⟩
    rcases hb with z | z
    · exact ⟨by omega, by omega⟩
    · exact ⟨by omega, by omega⟩
  refine ⟨?_, fun P hP => ?_⟩
  · unfold q_X9_take
    rw [e65, e77, e83, e86, hcl]
    refine ⟨⟨Int32.not_lt.mp (nI_pos (by omega)), ?_⟩, fun w => ⟨hv8, (row (2 * q + 1) _ (by omega) (by omega)).1⟩, fun _ => ⟨fun w => ?_, fun _ => ⟨fun w => hv8, fun _ w => ⟨hv8, (row (2 * q) _ (by omega) (by omega)).1⟩⟩⟩⟩
    · exact (nI_ltI (b := 65536) (by omega) (by decide)).mpr hs
    · obtain ⟨v, v1, v2⟩ := and3' (x &&& 7)
      rw [v2]; exact vpN v1 (by decide)
  · have hWf := Wf_m_X9_take (M := M) r (nI s) x hW
    unfold m_X9_take at hWf ⊢
    by_cases w1 : s = 65
    · rw [if_pos (e65.mpr w1)] at hWf ⊢
      obtain ⟨c1, c2, c3, c4, c5⟩ := row (2 * q + 1) (412 + 4 * (x &&& 7).toNatClampNeg) (by rw [hcl]; omega) (by omega)
      refine hP _ hWf c2 c3 ⟨by rw [c4]; exact g0, hs, ⟨fun _ => by rw [c4]; exact g1, hq⟩, fun z => absurd z (by omega), fun _ => c5, fun z => absurd z (by omega), fun z => absurd z (by omega)⟩
    · rw [if_neg (fun z => w1 (e65.mp z))] at hWf ⊢
      by_cases w2 : s = 77
      · rw [if_pos (e77.mpr w2)] at hWf ⊢
        have q4 := h77 w2
        have ecl : ((x &&& 7) &&& 3).toNatClampNeg = q := by rw [hx, and3 q4, nI_clamp (by omega)]
        refine hP _ hWf (hm0.tr (Mo_uL s0)) rfl ⟨g0, hs, ⟨fun _ => g1, hq⟩, fun z => absurd z (by omega), fun z => absurd z (by omega), fun _ => ⟨q4, ?_⟩, fun z => absurd z (by omega)⟩
        rw [rL_eq, ecl, Int32.toInt32_toInt64, hr'.2.1 q q4]
      · rw [if_neg (fun z => w2 (e77.mp z))] at hWf ⊢
        by_cases w3 : s = 83
        · rw [if_pos (e83.mpr w3)] at hWf ⊢
          refine hP _ hWf (hm0.tr (Mo_uL s0)) rfl ⟨g0, hs, ⟨fun _ => g1, hq⟩, fun z => absurd z (by omega), fun z => absurd z (by omega), fun z => absurd z (by omega), fun _ => ?_⟩
          rw [rL_eq, hcl]
          exact hr.2.2 q hq
        · rw [if_neg (fun z => w3 (e83.mp z))] at hWf ⊢
          by_cases w4 : s = 86
          · rw [if_pos (e86.mpr w4)] at hWf ⊢
            obtain ⟨c1, c2, c3, c4, c5⟩ := row (2 * q) (410 + 4 * (x &&& 7).toNatClampNeg) (by rw [hcl]; omega) (by omega)
            refine hP _ hWf c2 c3 ⟨by rw [c4]; exact g0, hs, ⟨fun _ => by rw [c4]; exact g1, hq⟩, fun _ => c5, fun z => absurd z (by omega), fun z => absurd z (by omega), fun z => absurd z (by omega)⟩
          · rw [if_neg (fun z => w4 (e86.mp z))] at hWf ⊢
            exact hP _ hWf hm0 rfl ⟨g0, hs, ⟨fun _ => g1, hq⟩, fun z => absurd z w4, fun z => absurd z w1, fun z => absurd z w2, fun z => absurd z w3⟩
/-- giveBack -/
theorem give_is {r s q : Nat} {d e : DS} {M : Mem} (hW : Wf M) (hr6 : (Sh r).1 = 6) (hr : RD M 405 d) (hv : SvIs M r s q e) (hb : SB s q d e) : q_X9_giveBack r M ∧ (∀ P : Mem → Prop, (∀ M', Wf M' → Mo (stS 405) M M' → gR M' = gR M → RD M' 405 e → P M') → P (m_X9_giveBack r M)) := by
  obtain ⟨a1, a2, ⟨a3, a3q⟩, a4, a5, a6, a7⟩ := hv
  have hat := sv_at hr6
  have k5 : (Sh (r + 1)).1 = 5 := Ssav hr6
  have nu : ∀ n, n < 65536 → (nI s = nI n ↔ s = n) := fun n hn => nI_eq (by omega) (by omega)
  have e65 : nI s = 65 ↔ s = 65 := nu 65 (by decide)
  have e77 : nI s = 77 ↔ s = 77 := nu 77 (by decide)
  have e83 : nI s = 83 ↔ s = 83 := nu 83 (by decide)
  have e86 : nI s = 86 ↔ s = 86 := nu 86 (by decide)
  have hv8 : vp_in (nI q) 8 := vpN a3q (by decide)
  have hcl : (nI q).toNatClampNeg = q := nI_clamp (by omega)
  have row : ∀ j a, a = 405 + 5 + 2 * j → j < 16 → RowIs M (r + 1) (dk e j) (dn e j) (di e j) → q_X8_copyFrom a (r + 1) M ∧ Mo (rowS (405 + 5 + 2 * j)) M (m_X8_copyFrom a (r + 1) M) ∧ gR (m_X8_copyFrom a (r + 1) M) = gR M ∧ RowIs (m_X8_copyFrom a (r + 1) M) (405 + 5 + 2 * j) (dk e j) (dn e j) (di e j) := by
    intro j a ha hj hrow
    subst ha
    have kb : (Sh (405 + 5 + 2 * j)).1 = 5 := by
      have : ∀ j ∈ List.range 16, (Sh (405 + 5 + 2 * j)).1 = 5 := by decide +kernel
      exact this j (List.mem_range.mpr hj)
    exact copy_row kb k5 hrow
  have fin : ∀ (M' : Mem) (j : Nat), j < 16 → (∀ i, i < 16 → i ≠ j → sameRow d e i) → (∀ m, m < 4 → dm d m = dm e m) → (∀ k, k < 8 → dsc d k = dsc e k) → Mo (rowS (405 + 5 + 2 * j)) M M' → RowIs M' (405 + 5 + 2 * j) (dk e j) (dn e j) (di e j) → RD M' 405 e := by
    intro M' j hj h1 h2 h3 hm hrow
    refine ⟨fun i hi => ?_, fun m hm' => ?_, fun k hk => ?_⟩
    · by_cases w : i = j
      · subst w; exact hrow
      · exact ((hr.1 i hi).mo hm (by unfold rowS; omega) (by unfold rowS; omega)).same (h1 i hi w)
    · rw [hm.I (by unfold rowS; omega), ← h2 m hm']; exact hr.2.1 m hm'
    · rw [hm.L (by unfold rowS; omega), ← h3 k hk]; exact hr.2.2 k hk
  by_cases h32 : s = 32
  · refine ⟨?_, fun P hP => ?_⟩
    · unfold q_X9_giveBack
      rw [a1, e65, e77, e83, e86]
      exact ⟨fun w => absurd w (by omega), fun _ => ⟨fun w => absurd w (by omega), fun _ => ⟨fun w => absurd w (by omega), fun _ w => absurd w (by omega)⟩⟩⟩
    · unfold m_X9_giveBack
      rw [a1, if_neg (fun z => absurd (e65.mp z) (by omega)), if_neg (fun z => absurd (e77.mp z) (by omega)), if_neg (fun z => absurd (e83.mp z) (by omega)), if_neg (fun z => absurd (e86.mp z) (by omega))]
      exact hP _ hW Mo.rf rfl (hr.eq ⟨fun j hj => hb.1 j hj (by omega) (by omega), fun m hm => hb.2.1 m hm (by omega), fun k hk => hb.2.2 k hk (by omega)⟩)
  have a3 := a3 h32
  refine ⟨?_, fun P hP => ?_⟩
  · unfold q_X9_giveBack
    rw [a1, a3, e65, e77, e83, e86, hcl]
    refine ⟨fun w => ⟨hv8, (row (2 * q + 1) _ (by omega) (by omega) (a5 w)).1⟩, fun _ => ⟨fun w => ?_, fun _ => ⟨fun w => hv8, fun _ w => ⟨hv8, (row (2 * q) _ (by omega) (by omega) (a4 w)).1⟩⟩⟩⟩
    rw [and3 (a6 w).1]
    exact vpN (a6 w).1 (by decide)
  · have hWf := Wf_m_X9_giveBack (M := M) r hW
    unfold m_X9_giveBack at hWf ⊢
    rw [a1, a3, hcl] at hWf ⊢
    by_cases w1 : s = 65
    · rw [if_pos (e65.mpr w1)] at hWf ⊢
      obtain ⟨c1, c2, c3, c4⟩ := row (2 * q + 1) (412 + 4 * q) (by omega) (by omega) (a5 w1)
      refine hP _ hWf (c2.mono (fun b hb => ?_)) c3 (fin _ (2 * q + 1) (by omega) (fun i hi z => hb.1 i hi (by omega) (by omega)) (fun m hm => hb.2.1 m hm (by omega)) (fun k hk => hb.2.2 k hk (by omega)) c2 c4)
      rcases hb with z | z <;> exact ⟨by omega, by omega⟩
    · rw [if_neg (fun z => w1 (e65.mp z))] at hWf ⊢
      by_cases w2 : s = 77
      · rw [if_pos (e77.mpr w2)] at hWf ⊢
        obtain ⟨q4, b6⟩ := a6 w2
        rw [and3 q4, hcl] at hWf ⊢
        have hm : Mo (fun b => b = 408) M (uI M 408 q (gL M r 2).toInt32) := Mo_uI rfl
        refine hP _ hWf (hm.mono (fun b hb => by subst hb; exact ⟨by omega, by omega⟩)) rfl ⟨fun i hi => ((hr.1 i hi).mo hm (by omega) (by omega)).same (hb.1 i hi (by omega) (by omega)), fun m hm' => ?_, fun k hk => (hr.2.2 k hk).trans (hb.2.2 k hk (by omega))⟩
        show gI (uI M 408 q _) 408 m = _
        by_cases z : m = q
        · subst z; rw [rI_eq]; exact b6
        · rw [rI_k z, ← hb.2.1 m hm' (by omega)]; exact hr.2.1 m hm'
      · rw [if_neg (fun z => w2 (e77.mp z))] at hWf ⊢
        by_cases w3 : s = 83
        · rw [if_pos (e83.mpr w3)] at hWf ⊢
          have hm : Mo (fun b => b = 409) M (uL M 409 q (gL M r 2)) := Mo_uL rfl
          refine hP _ hWf (hm.mono (fun b hb => by subst hb; exact ⟨by omega, by omega⟩)) rfl ⟨fun i hi => ((hr.1 i hi).mo hm (by omega) (by omega)).same (hb.1 i hi (by omega) (by omega)), fun m hm' => (hr.2.1 m hm').trans (hb.2.1 m hm' (by omega)), fun k hk => ?_⟩
          show gL (uL M 409 q _) 409 k = _
          by_cases z : k = q
          · subst z; rw [rL_eq]; exact a7 w3
          · rw [rL_k z, ← hb.2.2 k hk (by omega)]; exact hr.2.2 k hk
        · rw [if_neg (fun z => w3 (e83.mp z))] at hWf ⊢
          by_cases w4 : s = 86
          · rw [if_pos (e86.mpr w4)] at hWf ⊢
            obtain ⟨c1, c2, c3, c4⟩ := row (2 * q) (410 + 4 * q) (by omega) (by omega) (a4 w4)
            refine hP _ hWf (c2.mono (fun b hb => ?_)) c3 (fin _ (2 * q) (by omega) (fun i hi z => hb.1 i hi (by omega) (by omega)) (fun m hm => hb.2.1 m hm (by omega)) (fun k hk => hb.2.2 k hk (by omega)) c2 c4)
            rcases hb with z | z <;> exact ⟨by omega, by omega⟩
          · rw [if_neg (fun z => w4 (e86.mp z))] at hWf ⊢
            exact hP _ hWf Mo.rf rfl (hr.eq ⟨fun j hj => hb.1 j hj (by omega) (by omega), fun m hm => hb.2.1 m hm (by omega), fun k hk => hb.2.2 k hk (by omega)⟩)
end SAVED
