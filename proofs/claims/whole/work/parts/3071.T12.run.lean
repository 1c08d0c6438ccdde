section RUN
section
variable {n l : Nat} {c : Nat → Nat → Int64} {x : ES} {tr : List TE} {M : Mem} {K : RT} {X : Mem → Prop}
abbrev FT : Type := Int32 × Int32 × Int32
def noF : FT := (0, -1, -1)
def CF (M : Mem) (f : FT) : Prop := gI M 7 7 = f.1 ∧ (f.1 ≠ 0 → gI M 7 8 = f.2.1 ∧ gI M 7 9 = f.2.2) ∧ (f.1 = 0 → f = noF)
/-- the class's run: state, list, fault -/
def CX (M : Mem) (n : Nat) (c : Nat → Nat → Int64) (x : ES) (tr : List TE) (ft : FT) : Prop :=
  CE M x ∧ EOk n x ∧ (∃ l, TrI M l tr.length ∧ TrC M (fun i => tgX (c i)) l 0 x tr) ∧ (∀ t, t ∈ tr → EOk n t.2.2) ∧ CF M ft
/-- an element that is watched has become another -/
def chgD (ww : Nat → Int64) (d d' : DS) : Prop := ∃ a, a < 8 ∧ ∃ i, i < dn d (2 * a + 1) ∧ wbit (ww a) i ∧ di d (2 * a + 1) i ≠ di d' (2 * a + 1) i
/-- state, list and fault behind one step -/
noncomputable def stX (n : Nat) (c : Nat → Nat → Int64) (x : ES) (tr : List TE) : Int32 × ES × List TE × FT :=
  ((exX n (c (ePc x)) x).1, (exX n (c (ePc x)) x).2.2.2, (if (exX n (c (ePc x)) x).1 = 0 then ((ePc x, (exX n (c (ePc x)) x).2.2.1, x) :: tr).take 64 else tr), if (exX n (c (ePc x)) x).1 = 0 then noF else ((exX n (c (ePc x)) x).1, nI (ePc x), (exX n (c (ePc x)) x).2.1))
noncomputable def runS (n : Nat) (c : Nat → Nat → Int64) (st : Nat → Bool) (ww : Nat → Int64) : Nat → Nat → ES × List TE × FT → Int32 × ES × List TE × FT
  | 0, _, s => (if eEn s.1 = true then 0 else -1, s)
  | j + 1, i, s => if eEn s.1 = true then (0, s) else if 0 < i ∧ st (ePc s.1) = true then (-2, s) else
      if (stX n c s.1 s.2.1).1 = 0 then iT (chgD ww (eD s.1) (eD (stX n c s.1 s.2.1).2.1)) (if eEn (stX n c s.1 s.2.1).2.1 = true then 0 else -3, (stX n c s.1 s.2.1).2) (runS n c st ww j (i + 1) (stX n c s.1 s.2.1).2) else stX n c s.1 s.2.1
theorem blI_0 {b : Bool} : blI b = 0 ↔ b = false := by cases b <;> decide
theorem wchg_iff {ww : Nat → Int64} {s q : Nat} {d d' : DS} (h : OT s q d d') (hq : q < 8) : wchg ww s q d d' ↔ chgD ww d d' := by
  refine ⟨fun ⟨e, i, h1, h2, h3⟩ => ⟨q, hq, i, h1, h2, h3⟩, fun ⟨a, a8, i, h1, h2, h3⟩ => ?_⟩
  by_cases z : s = 65 ∧ a = q
  · obtain ⟨z1, z2⟩ := z
    subst z2
    exact ⟨z1, i, h1, h2, h3⟩
  · obtain ⟨-, -, e⟩ := h.1 (2 * a + 1) (by omega) (by omega) (fun y => z ⟨y.1, by omega⟩)
    exact absurd (congrFun e i).symm h3
theorem c_runX {st : Nat → Bool} {ww : Nat → Int64} {k : Nat} {ft : FT} (hW : Wf M) (hk : k ≤ 2000) (hP : PRG M 8 n c) (hV : ∀ i, i < n → VI n (c i)) (hC : CX M n c x tr ft) (hst : ∀ i, i < 100 → gI M 455 i = blI (st i)) (hww : ∀ a, a < 8 → gL M 456 a = ww a)
    (h : ∀ M', Wf M' → Mo stpS M M' → CX M' n c (runS n c st ww k 0 (x, tr, ft)).2.1 (runS n c st ww k 0 (x, tr, ft)).2.2.1 (runS n c st ww k 0 (x, tr, ft)).2.2.2 → K (some (.int (runS n c st ww k 0 (x, tr, ft)).1)) M') : sp_X12_run [.ref 0, .int (nI k)] M K X := by
  refine wX12_run hW (fun {G} hc => ⟨fun z => absurd z (nI_pos (by omega)), fun _ => ⟨fun _ => ?_, fun z => absurd (nI_le (a := k) (b := 2000) hk (by decide)) z⟩⟩)
  have n100 := hP.1
  have loop : ∀ j i s M1, i + j = k → Wf M1 → Mo stpS M M1 → CX M1 n c s.1 s.2.1 s.2.2 → runS n c st ww j i s = runS n c st ww k 0 (x, tr, ft) → ∀ {o3 : Option Value}, G 23 [some (.ref 0), some (.int (nI k)), some (.int (nI i)), o3] [] M1 := by
    intro j
    induction j with
    | zero =>
      intro i s M1 hi hW1 hm1 hC1 hl o3
      have e : runS n c st ww 0 i s = (if eEn s.1 = true then 0 else -1, s) := rfl
      rw [e] at hl
      have : i = k := by omega
      subst this
      have hh := h M1 hW1 hm1
      rw [← hl] at hh
      have hh := hh hC1
      refine eX12_run_23 hc hW1 ⟨fun _ => ?_, fun z => absurd (nI_le (Nat.le_refl _) (by omega)) z⟩
      rw [hC1.1.2.2.2.2.2.2.2]
      refine ⟨fun z => ?_, fun z => ?_⟩
      · have he : ¬ eEn s.1 = true := fun w => by rw [if_pos w] at z; exact absurd z (by decide)
        rw [if_neg he] at hh; exact hh
      · have he : eEn s.1 = true := by
          by_cases w : eEn s.1 = true
          · exact w
          · rw [if_neg w] at z; exact absurd rfl z
        rw [if_pos he] at hh; exact hh
    | succ j ih =>
      intro i s M1 hi hW1 hm1 hC1 hl o3
      have hC1' := hC1
      obtain ⟨hE, hx, ⟨l, ht, hT⟩, htr, hF⟩ := hC1
      refine eX12_run_23 hc hW1 ⟨fun z => absurd ((nI_leI (by omega) (by omega)).mp z) (by omega), fun _ => ?_⟩
      have e : runS n c st ww (j + 1) i s = if eEn s.1 = true then (0, s) else if 0 < i ∧ st (ePc s.1) = true then (-2, s) else
          if (stX n c s.1 s.2.1).1 = 0 then iT (chgD ww (eD s.1) (eD (stX n c s.1 s.2.1).2.1)) (if eEn (stX n c s.1 s.2.1).2.1 = true then 0 else -3, (stX n c s.1 s.2.1).2) (runS n c st ww j (i + 1) (stX n c s.1 s.2.1).2) else stX n c s.1 s.2.1 := rfl
      rw [e] at hl
      rw [hE.2.2.2.2.2.2.2]
      refine ⟨fun z => ?_, fun z => ?_⟩
      · have he : ¬ eEn s.1 = true := fun w => by rw [if_pos w] at z; exact absurd z (by decide)
        rw [if_neg he] at hl
        have he' : eEn s.1 = false := by cases hq : eEn s.1 <;> simp_all
        have hpc := hx.2.2.2.1 he'
        have go : ¬ (0 < i ∧ st (ePc s.1) = true) → G 61 [some (.ref 0), some (.int (nI k)), some (.int (nI i)), o3] [] M1 := by
          intro ns
          rw [if_neg ns] at hl
          refine eX12_run_61 hc hW1 ?_
          have hP1 : PRG M1 8 n c := hP.mo hm1 (by unfold stpS; omega) (by unfold stpS; omega)
          obtain ⟨k1, k2, k3, k4⟩ := ex_ok n100 (hV _ hpc) hx he'
          refine c_step hW1 hP1 hV hE hx he' ht hT (fun M2 l2 hW2 hm2 hE2 ht2 hT2 h7 hf hs => ?_)
          have hm02 := hm1.tr hm2
          have hC2 : CX M2 n c (stX n c s.1 s.2.1).2.1 (stX n c s.1 s.2.1).2.2.1 (stX n c s.1 s.2.1).2.2.2 := by
            refine ⟨hE2, k1, ⟨l2, ht2, hT2⟩, fun t hh => ?_, ?_⟩
            · have hh : t ∈ (if (exX n (c (ePc s.1)) s.1).1 = 0 then ((ePc s.1, (exX n (c (ePc s.1)) s.1).2.2.1, s.1) :: s.2.1).take 64 else s.2.1) := hh
              split at hh
              · have hh := List.mem_of_mem_take hh
                rcases List.mem_cons.mp hh with w | w
                · rw [w]; exact hx
                · exact htr t w
              · exact htr t hh
            · show CF M2 (if (exX n (c (ePc s.1)) s.1).1 = 0 then noF else ((exX n (c (ePc s.1)) s.1).1, nI (ePc s.1), (exX n (c (ePc s.1)) s.1).2.1))
              by_cases w : (exX n (c (ePc s.1)) s.1).1 = 0
              · rw [if_pos w]; exact ⟨h7.trans w, fun y => absurd rfl y, fun _ => rfl⟩
              · rw [if_neg w]; exact ⟨h7, fun _ => hf w, fun y => absurd y w⟩
          refine rX12_run_61_2 hc hW2 ⟨fun w => ?_, fun w => ?_⟩
          · have w2 : (stX n c s.1 s.2.1).1 = 0 := w
            rw [if_pos w2] at hl
            refine wX5_changedOneOf hW2 (fun {G2} hc2 => ?_)
            refine wX11_aheadOfLatest hW2 ?_
            rw [ht2.2.1, nI_clamp (by have := ht2.1; omega)]
            have ka : (Sh (rR M2 18 l2)).1 = 6 := Wf.mutS (M := M2) hW2 (mx_ahead ht2.1)
            refine ⟨vpN ht2.1 (by decide), rX5_changedOneOf_0_2 hc2 hW2 ka ?_⟩
            have hq8 := (tgX_8 (c (ePc s.1))).1
            refine c_isChanged (d := eD (exX n (c (ePc s.1)) s.1).2.2.2) (w := ww) hW2 ka hE2.1 (hs w) (fun _ => (k2.2.2.2.2.2 _ (by omega)).2) (fun m hm => by rw [hm02.L (by unfold stpS; omega)]; exact hww m hm) ?_
            refine rX5_changedOneOf_0_6 hc2 hW2 ⟨pI_01 _, ?_⟩
            rw [pI_congr (wchg_iff k2 hq8)]
            refine rX12_run_75_4 hc hW2 ?_
            rw [pI_0, nI_1]
            refine ⟨fun y => ?_, fun y => ?_⟩
            · have y2 : ¬ chgD ww (eD s.1) (eD (stX n c s.1 s.2.1).2.1) := y
              rw [iT_f y2] at hl
              exact ih (i + 1) _ M2 (by omega) hW2 hm02 hC2 hl
            · have y := Classical.not_not.mp y
              have y2 : chgD ww (eD s.1) (eD (stX n c s.1 s.2.1).2.1) := y
              rw [iT_t y2] at hl
              have hh := h M2 hW2 hm02
              rw [← hl] at hh
              have hh := hh hC2
              rw [hE2.2.2.2.2.2.2.2]
              refine ⟨fun v => ?_, fun v => ?_⟩
              · have he2 : ¬ eEn (exX n (c (ePc s.1)) s.1).2.2.2 = true := fun u => by rw [if_pos u] at v; exact absurd v (by decide)
                have hh : K (some (.int (if eEn (exX n (c (ePc s.1)) s.1).2.2.2 = true then 0 else -3))) M2 := hh
                rw [if_neg he2] at hh; exact hh
              · have he2 : eEn (exX n (c (ePc s.1)) s.1).2.2.2 = true := by
                  by_cases u : eEn (exX n (c (ePc s.1)) s.1).2.2.2 = true
                  · exact u
                  · rw [if_neg u] at v; exact absurd rfl v
                have hh : K (some (.int (if eEn (exX n (c (ePc s.1)) s.1).2.2.2 = true then 0 else -3))) M2 := hh
                rw [if_pos he2] at hh; exact hh
          · have w2 : ¬ (stX n c s.1 s.2.1).1 = 0 := w
            rw [if_neg w2] at hl
            have hh := h M2 hW2 hm02
            rw [← hl] at hh
            exact hh hC2
        refine ⟨fun y => ?_, fun y => ?_⟩
        · have : i = 0 := by have := (nI_leI (b := 0) (by omega) (by decide)).mp y; omega
          exact go (by omega)
        · have hi0 : 0 < i := by
            rcases Nat.eq_zero_or_pos i with w | w
            · rw [w] at y; exact absurd (by decide) y
            · exact w
          have hs1 : gI M1 455 (ePc s.1) = blI (st (ePc s.1)) := by rw [hm1.I (by unfold stpS; omega)]; exact hst _ (by omega)
          have hPs : P_X12_isStop (gI M1 7 2) M1 ↔ st (ePc s.1) = true := by
            unfold P_X12_isStop
            rw [hE.2.2.1, nI_clamp (by omega), hs1, blI_0]
            refine ⟨fun u => by simpa using u.2.2, fun u => ⟨nI_pos (by omega), fun v => ?_, by simpa using u⟩⟩
            have := (nI_leI (a := 100) (by decide) (by omega)).mp v
            omega
          rw [hPs]
          refine ⟨fun _ v => ?_, fun v => go (fun u => v u.2), fun v => ?_⟩
          · rw [hE.2.2.1]; exact vpN (by omega) (by decide)
          · rw [if_pos ⟨hi0, v⟩] at hl
            have hh := h M1 hW1 hm1
            rw [← hl] at hh
            exact hh hC1'
      · have he : eEn s.1 = true := by
          by_cases w : eEn s.1 = true
          · exact w
          · rw [if_neg w] at z; exact absurd rfl z
        rw [if_pos he] at hl
        have hh := h M1 hW1 hm1
        rw [← hl] at hh
        exact hh hC1'
  exact loop k 0 (x, tr, ft) M (by omega) hW Mo.rf hC rfl
end
end RUN
