section RRUN
section
variable {M M' : Mem} {K : RT} {n : Nat} {c : Nat → Nat → Int64}
theorem stX_cd {x : ES} {tr : List TE} : cdO (stX n c x tr).1 := by
  show cdO (exX n (c (ePc x)) x).1
  by_cases z : cn (c (ePc x)) 0 < 59
  · rw [ex_ins z]; exact insX_cd
  · rw [ex_lead (by omega)]; exact leX_cd
theorem in_N {x : Int32} {N : Nat} {B : Int64} (hN : N < 2 ^ 31) (hB : B.toInt = (N : Int) - 1) : P_X13_in x.toInt64 0 B ↔ inI x N := by
  unfold P_X13_in inI
  rw [Int64.lt_iff_toInt_lt, Int64.lt_iff_toInt_lt, Int32.toInt_toInt64, hB]
  have : (0 : Int64).toInt = 0 := rfl
  rw [this]
  omega
theorem in_L {x : Int32} {N : Nat} (hN : N < 2 ^ 31) : P_X13_in x.toInt64 0 ((nI N).toInt64 - (1 : Int64)) ↔ inI x N := by
  refine in_N hN ?_
  rw [Int64.toInt_sub, Int32.toInt_toInt64, nI_toInt hN, show (1 : Int64).toInt = 1 from rfl]
  exact Int.bmod_eq_of_le (by omega) (by omega)
theorem RProg.fr {S : Nat → Nat → Prop} (hf : FrC S M M') (hS : ∀ a j, S a j → ¬ prS a ∧ ¬ (a = 605 ∧ j = 23)) (h : RProg M n c) : RProg M' n c := by
  obtain ⟨p1, p2, p3, p4, p5⟩ := h
  have nn : ∀ a j, prS a → ¬ S a j := fun a j p q => (hS a j q).1 p
  exact ⟨p1.fr hf (fun a j z => (hS a j z).1), p2.fr hf (fun j => nn _ j (by unfold prS; omega)) (fun j => nn _ j (by unfold prS; omega)) (fun j => nn _ j (by unfold prS; omega)), p3, by rw [hf.i (fun z => (hS _ _ z).2 ⟨rfl, rfl⟩)]; exact p4, p5⟩
theorem stpS13 {a j : Nat} (h : rStpS a j) : ¬ prS a ∧ ¬ (a = 605 ∧ j = 23) ∧ a ≠ 633 ∧ a ≠ 634 ∧ ¬ (a = 605 ∧ j = 2) := by
  unfold rStpS at h
  unfold prS
  omega
def rXc (a j : Nat) : Prop := (624 ≤ a ∧ a ≤ 632) ∨ (a = 605 ∧ ((42 ≤ j ∧ j ≤ 50) ∨ j = 59 ∨ j = 60)) ∨ (a = 635 ∧ j < 780 * 64) ∨ (a = 636 ∧ j < 768 * 64) ∨ (a = 637 ∧ j < 56 * 64) ∨ ((a = 638 ∨ a = 639) ∧ j < 64) ∨ a = 641 ∨ a = 642
theorem REc.fr {S : Nat → Nat → Prop} {x : ES} (hf : FrC S M M') (hS : ∀ a j, S a j → ¬ rXc a j) (h : REc M x) : REc M' x := by
  obtain ⟨E1, E2, E3, E4, E5, E6, E7⟩ := h
  have nn : ∀ a j, rXc a j → ¬ S a j := fun a j p q => hS a j q p
  exact ⟨RDc.same hf (fun a j z y => hS a j z (Or.inl (by omega))) E1, by rw [hf.i (nn _ _ (by unfold rXc; omega))]; exact E2, by rw [hf.i (nn _ _ (by unfold rXc; omega))]; exact E3, by rw [hf.i (nn _ _ (by unfold rXc; omega))]; exact E4, fun j hj => by rw [hf.i (nn _ _ (by unfold rXc; omega))]; exact E5 j hj, by rw [hf.l (nn _ _ (by unfold rXc; omega))]; exact E6, by rw [hf.l (nn _ _ (by unfold rXc; omega))]; exact E7⟩
theorem RX.fr {S : Nat → Nat → Prop} {x : ES} {tr : List TE} {ft : FT} (hf : FrC S M M') (hS : ∀ a j, S a j → ¬ rXc a j) (h : RX M n x tr ft) : RX M' n x tr ft := by
  obtain ⟨hE, hO, ⟨w, w1, w2, w3⟩, ⟨l1, l2⟩, hT, f1, f2, f3⟩ := h
  have nn : ∀ a j, rXc a j → ¬ S a j := fun a j p q => hS a j q p
  refine ⟨hE.fr hf hS, hO, ⟨w, w1, ?_, ?_⟩, ⟨?_, l2⟩, hT, ?_, ?_, ?_⟩
  · rw [hf.i (nn _ _ (by unfold rXc; omega))]; exact w2
  · refine RTr.fr hf tr 0 (by omega) hT (fun j j1 j2 a b z => ?_) w3
    have := rSlN_lt (w := w) (k := j)
    have := hS a b z
    unfold rXc at this
    unfold saS
    omega
  · rw [hf.i (nn _ _ (by unfold rXc; omega))]; exact l1
  · rw [hf.i (nn _ _ (by unfold rXc; omega))]; exact f1
  · rw [hf.i (nn _ _ (by unfold rXc; omega))]; exact f2
  · rw [hf.i (nn _ _ (by unfold rXc; omega))]; exact f3
theorem c_run13 {x : ES} {tr : List TE} {ft : FT} {ww : Nat → Int64} {st : Nat → Bool} {k : Nat} (hW : Wf M) (hk : k ≤ 2000) (hP : RProg M n c) (hX : RX M n x tr ft) (hw : RWw M ww) (hst : ∀ i, i < 100 → gI M 633 i = blI (st i))
    (h : ∀ M', Wf M' → FrC rStpS (uI M 605 2 0) M' → RX M' n (runS n c st ww k 0 (x, tr, ft)).2.1 (runS n c st ww k 0 (x, tr, ft)).2.2.1 (runS n c st ww k 0 (x, tr, ft)).2.2.2 → K (some (.int (runS n c st ww k 0 (x, tr, ft)).1)) M') : sp_X13_run [.ref 605, .int (nI k)] M K := by
  refine wX13_run hW (fun {G} hc => ?_)
  rw [in_N (N := 2001) (by decide) (show (2000 : Int64).toInt = _ from rfl)]
  refine ⟨fun z => absurd (inI_of (by omega) (by decide)) z, fun _ => ?_⟩
  have n100 := hP.2.2.1
  have loop : ∀ j i (s : ES × List TE × FT) M1, i + j = k → Wf M1 → FrC rStpS (uI M 605 2 0) M1 → RX M1 n s.1 s.2.1 s.2.2 → runS n c st ww j i s = runS n c st ww k 0 (x, tr, ft) → ∀ {o3 : Option Value}, G 32 [some (.ref 605), some (.int (nI k)), some (.int (nI i)), o3] [] M1 := by
    intro j
    induction j with
    | zero =>
      intro i s M1 hi hW1 f1 hC1 hl o3
      have e : runS n c st ww 0 i s = (if eEn s.1 = true then 0 else -1, s) := rfl
      rw [e] at hl
      have : i = k := by omega
      subst this
      have hh := h M1 hW1 f1
      rw [← hl] at hh
      have hh := hh hC1
      refine eX13_run_32 hc hW1 ?_
      rw [show gI M1 605 47 = blI (eEn s.1) from hC1.1.2.2.2.1]
      refine ⟨fun z => ?_, fun z => ?_⟩
      · have he : eEn s.1 = true := by
          cases w : eEn s.1
          · rw [w] at z; exact absurd rfl z
          · rfl
        rw [if_pos he] at hh; exact hh
      · have he : ¬ eEn s.1 = true := fun w => by rw [w] at z; exact absurd z (by decide)
        rw [if_neg he] at hh
        exact ⟨fun y => absurd rfl y, fun _ => hh⟩
    | succ j ih =>
      intro i s M1 hi hW1 f1 hC1 hl o3
      have hC1' := hC1
      obtain ⟨hE, hx, -, -, htr, hF⟩ := hC1
      have e : runS n c st ww (j + 1) i s = if eEn s.1 = true then (0, s) else if 0 < i ∧ st (ePc s.1) = true then (-2, s) else
          if (stX n c s.1 s.2.1).1 = 0 then iT (chgD ww (eD s.1) (eD (stX n c s.1 s.2.1).2.1)) (if eEn (stX n c s.1 s.2.1).2.1 = true then 0 else -3, (stX n c s.1 s.2.1).2) (runS n c st ww j (i + 1) (stX n c s.1 s.2.1).2) else stX n c s.1 s.2.1 := rfl
      rw [e] at hl
      refine eX13_run_32 hc hW1 ?_
      rw [show gI M1 605 47 = blI (eEn s.1) from hE.2.2.2.1, show gI M1 605 42 = nI (ePc s.1) from hE.2.1]
      refine ⟨fun z => ?_, fun z => ?_⟩
      · have he : eEn s.1 = true := by
          cases w : eEn s.1
          · rw [w] at z; exact absurd rfl z
          · rfl
        rw [if_pos he] at hl
        have hh := h M1 hW1 f1
        rw [← hl] at hh
        exact hh hC1'
      · have he' : eEn s.1 = false := by
          cases w : eEn s.1
          · rfl
          · rw [w] at z; exact absurd z (by decide)
        have he : ¬ eEn s.1 = true := by rw [he']; decide
        rw [if_neg he] at hl
        have hpc := hx.2.2.2.1 he'
        have fM : FrC (fun a j => rStpS a j ∨ (a = 605 ∧ j = 2)) M M1 := (FrC_uI (S := fun a j => rStpS a j ∨ (a = 605 ∧ j = 2)) (Or.inr ⟨rfl, rfl⟩)).tr (f1.mono (fun a j z => Or.inl z))
        have hw1 : RWw M1 ww := fun j hj => by rw [fM.i (fun z => by rcases z with z | z; exact (stpS13 z).2.2.2.1 rfl; omega)]; exact hw j hj
        have hP1 : RProg M1 n c := hP.fr fM (fun a j z => by rcases z with z | z; exact ⟨(stpS13 z).1, (stpS13 z).2.1⟩; unfold prS; omega)
        have hs1 : gI M1 633 (ePc s.1) = blI (st (ePc s.1)) := by rw [fM.i (fun z => by rcases z with z | z; exact (stpS13 z).2.2.1 rfl; omega)]; exact hst _ (by omega)
        refine ⟨fun ne => ?_, fun e => absurd (show i = k from (nI_eq (by omega) (by omega)).mp e) (by omega)⟩
        have go : ¬ (0 < i ∧ st (ePc s.1) = true) → ∀ {o3 : Option Value}, G 65 [some (.ref 605), some (.int (nI k)), some (.int (nI i)), o3] [] M1 := by
          intro ns o3
          rw [if_neg ns] at hl
          refine eX13_run_65 hc hW1 (c_step13 hW1 hP1 hC1' hw1 he' (fun M2 hW2 f2 hX2 hR2 => rX13_run_65_1 hc hW2 ⟨fun w => ?_, fun w => ?_⟩))
          · have w0 := cd_le stX_cd w
            rw [if_pos w0] at hl
            have k2 := (ex_ok n100 (hP.2.2.2.2 _ hpc) hx he').2.1
            have hd2 : WD (eD (stX n c s.1 s.2.1).2.1) := hX2.2.1.2.2.2.2
            have hw2 : RWw M2 ww := fun j hj => by rw [f2.i (fun z => (stpS13 z).2.2.2.1 rfl)]; exact hw1 j hj
            refine c_didChange13 hW2 hx.2.2.2.2 hd2 hX2.1.1 hw2 (fun a ha => (k2.2.2.2.2.2 _ (by omega))) hR2 (rX13_run_76_1 hc hW2 ?_)
            rw [pI_0, nI_1]
            refine ⟨fun y => ?_, fun y => ?_⟩
            · rw [iT_f y] at hl
              exact ih (i + 1) _ M2 (by omega) hW2 (f1.tr f2) hX2 hl
            · have y := Classical.not_not.mp y
              rw [iT_t y] at hl
              rw [show gI M2 605 47 = blI (eEn (stX n c s.1 s.2.1).2.1) from hX2.1.2.2.2.1]
              refine ⟨fun u => ?_, fun u => ?_⟩
              · have he2 : eEn (stX n c s.1 s.2.1).2.1 = true := by
                  cases w : eEn (stX n c s.1 s.2.1).2.1
                  · rw [w] at u; exact absurd rfl u
                  · rfl
                rw [if_pos he2] at hl
                have hh := h M2 hW2 (f1.tr f2)
                rw [← hl] at hh
                have hh := hh hX2
                cases j with
                | zero =>
                  refine eX13_run_32 hc hW2 ⟨fun _ => hh, fun v => ?_⟩
                  rw [show gI M2 605 47 = blI (eEn (stX n c s.1 s.2.1).2.1) from hX2.1.2.2.2.1] at v
                  exact absurd v u
                | succ j =>
                  refine eX13_run_32 hc hW2 ⟨fun _ => hh, fun v => ?_⟩
                  rw [show gI M2 605 47 = blI (eEn (stX n c s.1 s.2.1).2.1) from hX2.1.2.2.2.1] at v
                  exact absurd v u
              · have he2 : ¬ eEn (stX n c s.1 s.2.1).2.1 = true := fun w => by rw [w] at u; exact absurd u (by decide)
                rw [if_neg he2] at hl
                have hh := h M2 hW2 (f1.tr f2)
                rw [← hl] at hh
                exact hh hX2
          · have w0 : ¬ (stX n c s.1 s.2.1).1 = 0 := fun y => w (by rw [y]; decide)
            rw [if_neg w0] at hl
            have hh := h M2 hW2 (f1.tr f2)
            rw [← hl] at hh
            exact hh hX2
        refine ⟨fun y => go (fun u => ?_), fun y => ⟨vpN (by omega) (by decide), ?_⟩⟩
        · have := (nI_leI (a := i) (b := 0) (by omega) (by decide)).mp y; omega
        · have hi0 : 0 < i := by
            rcases Nat.eq_zero_or_pos i with w | w
            · rw [w] at y; exact absurd (by decide) y
            · exact w
          rw [nI_clamp (by omega), hs1, blI_0]
          refine ⟨fun v => go (fun u => by rw [v] at u; exact absurd u.2 (by decide)), fun v => ?_⟩
          rw [if_pos ⟨hi0, by cases w : st (ePc s.1); exact absurd w v; rfl⟩] at hl
          have hh := h M1 hW1 f1
          rw [← hl] at hh
          exact hh hC1'
  refine loop k 0 (x, tr, ft) _ (by omega) ((FrC_uI (S := fun _ _ => True) trivial).wf hW) FrC.rf ?_ rfl
  have f0 : FrC (fun a j => a = 605 ∧ j = 2) M (uI M 605 2 0) := FrC_uI ⟨rfl, rfl⟩
  exact hX.fr f0 (fun a j z => by unfold rXc; omega)
end
end RRUN
