section RSTEP
section
variable {M M' : Mem} {K : RT} {n : Nat} {c : Nat → Nat → Int64}
theorem ex_ins {x : ES} {r : Nat → Int64} (h : cn r 0 < 59) : exX n r x = ((insX (cn r 0) r (eD x)).1, (insX (cn r 0) r (eD x)).2.1, (insX (cn r 0) r (eD x)).2.2.1, if (insX (cn r 0) r (eD x)).1 = 0 then adv n x (insX (cn r 0) r (eD x)).2.2.2 (ePc x + 1) (eK x) (eCf x) (insX (cn r 0) r (eD x)).2.2.1 false else ((insX (cn r 0) r (eD x)).2.2.2, x.2)) := by
  unfold exX insX
  by_cases h1 : cn r 0 < 46
  · rw [if_pos h1, if_pos h1]
  · rw [if_neg h1, if_neg h1]
    by_cases h2 : cn r 0 < 53
    · rw [if_pos h2, if_pos h2, if_pos rfl]
    · rw [if_neg h2, if_neg h2, if_pos h]
      by_cases z : (scD (cn r 0) r (eD x)).1 = 0
      · rw [if_pos z, if_pos z]
      · rw [if_neg z, if_neg z]
        have e : (scD (cn r 0) r (eD x)).2 = eD x := by
          unfold scD at z ⊢
          by_cases a1 : cn r 0 = 53
          · rw [if_pos a1] at z; exact absurd rfl z
          · rw [if_neg a1] at z ⊢
            by_cases a2 : cn r 0 = 54
            · rw [if_pos a2] at z; exact absurd rfl z
            · rw [if_neg a2] at z ⊢
              by_cases a3 : cn r 0 = 55
              · rw [if_pos a3] at z; exact absurd rfl z
              · rw [if_neg a3] at z ⊢
                by_cases a4 : cn r 0 = 56
                · rw [if_pos a4] at z; exact absurd rfl z
                · rw [if_neg a4] at z ⊢
                  by_cases a5 : dsc (eD x) (cn r 3) = 0
                  · rw [if_pos a5]
                  · rw [if_neg a5] at z
                    by_cases a6 : cn r 0 = 57
                    · rw [if_pos a6] at z; exact absurd rfl z
                    · rw [if_neg a6] at z; exact absurd rfl z
        rw [e]
        rfl
theorem ex_lead {x : ES} {r : Nat → Int64} (h : 59 ≤ cn r 0) : exX n r x = ((leX (cn r 0) r x).1, -1, 0, if (leX (cn r 0) r x).1 = 0 then adv n x (leX (cn r 0) r x).2.2.2.2.2 (leX (cn r 0) r x).2.1 (leX (cn r 0) r x).2.2.1 (leX (cn r 0) r x).2.2.2.1 0 (leX (cn r 0) r x).2.2.2.2.1 else x) := by
  unfold exX
  rw [if_neg (by omega), if_neg (by omega), if_neg (by omega)]
/-- the reference's program -/
def RProg (M : Mem) (n : Nat) (c : Nat → Nat → Int64) : Prop := RK M ∧ RPr M 618 619 620 n c ∧ n ≤ 100 ∧ gI M 605 23 = nI n ∧ ∀ i, i < n → VI n (c i)
def RFt (M : Mem) (f : FT) : Prop := gI M 605 48 = f.1 ∧ gI M 605 49 = f.2.1 ∧ gI M 605 50 = f.2.2
/-- the reference's run: state, list, fault -/
def RX (M : Mem) (n : Nat) (x : ES) (tr : List TE) (ft : FT) : Prop := REc M x ∧ EOk n x ∧ (∃ w, w < 64 ∧ gI M 605 60 = nI w ∧ RTr M w 0 tr) ∧ (gI M 605 59 = nI tr.length ∧ tr.length ≤ 64) ∧ (∀ t, t ∈ tr → EOk n t.2.2) ∧ RFt M ft
def rStpS (a j : Nat) : Prop := (a = 605 ∧ (j = 42 ∨ (44 ≤ j ∧ j ≤ 50) ∨ j = 59 ∨ j = 60 ∨ j = 63 ∨ j = 64 ∨ (69 ≤ j ∧ j ≤ 71))) ∨ (624 ≤ a ∧ a ≤ 632) ∨ (a = 635 ∧ (j < 780 * 64 ∨ 780 * 68 ≤ j)) ∨ (a = 636 ∧ (j < 768 * 64 ∨ 768 * 68 ≤ j)) ∨ (a = 637 ∧ (j < 56 * 64 ∨ 56 * 68 ≤ j)) ∨ ((a = 638 ∨ a = 639) ∧ (j < 64 ∨ j = 68)) ∨ a = 641 ∨ a = 642 ∨ (643 ≤ a ∧ a ≤ 647)
theorem saS_stp {s a j : Nat} (hs : s < 64 ∨ s = 68) (h : saS s a j) : rStpS a j := by
  unfold saS at h
  unfold rStpS
  omega
theorem RDc.of {M : Mem} {d : DS} (h : RDc M d) : RDv (gI M 624) (gI M 625) (gI M 628) (gI M 629) (gL M 626) (gD M 627) (gI M 630) (gL M 631) d := h
theorem slN_inj {w j k : Nat} (hj : j < 64) (hk : k < 64) (hw : w < 64) (h : slN w j = slN w k) : j = k := by
  unfold slN at h
  omega
theorem saS_ne {s t a j : Nat} (h : saS s a j) (hne : s ≠ t) : ¬ saS t a j := by
  unfold saS at h ⊢
  omega
theorem c_step13 {x : ES} {tr : List TE} {ft : FT} {ww : Nat → Int64} (hW : Wf M) (hP : RProg M n c) (hX : RX M n x tr ft) (hw : RWw M ww) (he : eEn x = false)
    (h : ∀ M', Wf M' → FrC rStpS M M' → RX M' n (stX n c x tr).2.1 (stX n c x tr).2.2.1 (stX n c x tr).2.2.2 → RWd M' ww (eD x) → K (some (.int (stX n c x tr).1)) M') : sp_X13_step [.ref 605] M K := by
  obtain ⟨hE, hO, ⟨w, w1, w2, w3⟩, ⟨l1, l2⟩, hT, hF⟩ := hX
  obtain ⟨p1, p2, p3, p4, p5⟩ := hP
  have hpc : ePc x < n := hO.2.2.2.1 he
  have hd : WD (eD x) := hO.2.2.2.2
  have hK16 : eK x ≤ 16 := hO.2.1
  obtain ⟨E1, E2, E3, E4, E5, E6, E7⟩ := hE
  refine wX13_step hW (fun {G} hc => ?_)
  -- behind the watch
  have B : ∀ M1, Wf M1 → FrC (fun a _ => a = 647) M M1 → RWd M1 ww (eD x) → ∀ s, s < 64 → (∀ j, j + 1 < 64 → j < tr.length → slN s (j + 1) = slN w j) → ∀ o1 o2 o3, G 65 [some (.ref 605), o1, o2, o3] [.int (nI s)] M1 := by
    intro M1 hW1 f1 hRW s hs hsl o1 o2 o3
    refine eX13_step_65 hc hW1 (c_save13 (c := 68) hW1 (by omega) (fun M2 hW2 f2 hsv => rX13_step_65_3 hc hW2 ?_))
    have hE1 : REc M1 x := ⟨RDc.same f1 (fun a j z => by omega) E1, by rw [f1.i (by omega)]; exact E2, by rw [f1.i (by omega)]; exact E3, by rw [f1.i (by omega)]; exact E4, fun j hj => by rw [f1.i (by omega)]; exact E5 j hj, by rw [f1.l (by omega)]; exact E6, by rw [f1.l (by omega)]; exact E7⟩
    have hNow : REs M2 68 x := hE1.save hd hK16 hsv
    have f12 : FrC (fun a j => a = 647 ∨ saS 68 a j) M M2 := (f1.mono (fun a j z => Or.inl z)).tr (f2.mono (fun a j z => Or.inr z))
    have n12 : ∀ a j, ((624 ≤ a ∧ a ≤ 634) ∨ a < 624 ∨ a = 641 ∨ a = 642) → ¬ (a = 647 ∨ saS 68 a j) := fun a j q z => by unfold saS at z; omega
    -- M3: no fault, nothing leads
    obtain ⟨M3, hM3⟩ : ∃ M3, M3 = uI (m_X13_noFault M2) 605 71 (-1) := ⟨_, rfl⟩
    have f3 : FrC (fun a j => a = 605 ∧ (j = 48 ∨ j = 49 ∨ j = 50 ∨ j = 71)) M2 M3 := by
      rw [hM3]
      unfold m_X13_noFault
      exact (((FrC_uI (by omega)).tr (FrC_uI (by omega))).tr (FrC_uI (by omega))).tr (FrC_uI (by omega))
    have c48 : gI M3 605 48 = 0 ∧ gI M3 605 49 = -1 ∧ gI M3 605 50 = -1 ∧ gI M3 605 71 = -1 := by
      rw [hM3]
      unfold m_X13_noFault
      refine ⟨?_, ?_, ?_, ?_⟩
      · rw [gI_uI, if_neg (by decide), gI_uI, if_neg (by decide), gI_uI, if_neg (by decide), gI_uI, if_pos ⟨rfl, rfl⟩]
      · rw [gI_uI, if_neg (by decide), gI_uI, if_neg (by decide), gI_uI, if_pos ⟨rfl, rfl⟩]
      · rw [gI_uI, if_neg (by decide), gI_uI, if_pos ⟨rfl, rfl⟩]
      · rw [gI_uI, if_pos ⟨rfl, rfl⟩]
    have epc : gI (m_X13_noFault M2) 605 42 = nI (ePc x) := by
      unfold m_X13_noFault
      rw [gI_uI, if_neg (by decide), gI_uI, if_neg (by decide), gI_uI, if_neg (by decide), f12.i (n12 _ _ (by omega))]
      exact E2
    rw [epc, ← hM3]
    have hW3 := f3.wf hW2
    have f03 : FrC (fun a j => a = 647 ∨ saS 68 a j ∨ (a = 605 ∧ (j = 48 ∨ j = 49 ∨ j = 50 ∨ j = 71))) M M3 := (f12.mono (fun a j z => by rcases z with z | z; exact Or.inl z; exact Or.inr (Or.inl z))).tr (f3.mono (fun a j z => Or.inr (Or.inr z)))
    have n03 : ∀ a j, ((624 ≤ a ∧ a ≤ 634) ∨ a < 605 ∨ (605 < a ∧ a < 624) ∨ a = 641 ∨ a = 642 ∨ (a = 605 ∧ j ≠ 48 ∧ j ≠ 49 ∧ j ≠ 50 ∧ j ≠ 71)) → ¬ (a = 647 ∨ saS 68 a j ∨ (a = 605 ∧ (j = 48 ∨ j = 49 ∨ j = 50 ∨ j = 71))) := fun a j q z => by unfold saS at z; omega
    have hD3 : RDc M3 (eD x) := RDc.same f03 (fun a j z => by unfold saS at z; omega) E1
    have hC3 : RC M3 n c (ePc x) := RC.fr f03 (fun a j z => by unfold saS at z; unfold prS; omega) ⟨p1, p2, p3, hpc, p5 _ hpc⟩
    have h44 : gI M3 605 44 = nI (eK x) := by rw [f03.i (n03 _ _ (by omega))]; exact E3
    have h47 : gI M3 605 47 = 0 := by rw [f03.i (n03 _ _ (by omega)), E4, he]; rfl
    have hcf3 : ∀ j, j < eK x → gI M3 632 j = nI (eCf x j) := fun j hj => by rw [f03.i (n03 _ _ (by omega))]; exact E5 j hj
    have hNow3 : REs M3 68 x := hNow.fr hd hK16 f3 (fun a j z => by unfold saS; omega)
    -- the list is not touched
    have nT : ∀ j, j < tr.length → ∀ a b, (saS 68 a b ∨ a = 647 ∨ a = 605 ∨ (624 ≤ a ∧ a ≤ 632) ∨ (643 ≤ a ∧ a ≤ 646)) → ¬ saS (slN w j) a b ∧ ¬ ((a = 641 ∨ a = 642) ∧ b = slN w j) := fun j _ a b z => by
      have := rSlN_lt (w := w) (k := j)
      unfold saS at z ⊢
      omega
    -- a fault
    have bad : ∀ (M4 : Mem) (y : Int32) (d' : DS) (ln : Int32), Wf M4 → FrC (fun a j => rinS a j ∨ rJmpS a j ∨ (a = 605 ∧ (j = 69 ∨ j = 70))) M3 M4 → y ≠ 0 → (y = 0 ∨ 0 < y) → RDc M4 d' → gI M4 605 50 = ln → gI M4 605 44 = nI (eK x) → (∀ j, j < eK x → gI M4 632 j = nI (eCf x j)) → gI M4 605 47 = 0 → exX n (c (ePc x)) x = (y, ln, (exX n (c (ePc x)) x).2.2.1, (d', x.2)) → ∀ o3, RX13_step_65_14 G K [some (.ref 605), some (.int (nI s)), some (.int (nI (ePc x))), o3] (Option.toList (some (.int y)) ++ []) M4 := by
      intro M4 y d' ln hW4 f4 yn yp hD4 g50 g44 gcf g47 ex o3
      refine rX13_step_65_14 hc hW4 ⟨fun le => absurd (cd_le yp le) yn, fun _ => ?_⟩
      have f5 : FrC (fun a j => a = 605 ∧ (j = 48 ∨ j = 49)) M4 (uI (uI M4 605 48 y) 605 49 (nI (ePc x))) := (FrC_uI (by omega)).tr (FrC_uI (by omega))
      have est : stX n c x tr = (y, (d', x.2), tr, (y, nI (ePc x), ln)) := by
        unfold stX
        rw [ex]
        show (y, (d', x.2), (if y = 0 then _ else tr), if y = 0 then _ else (y, nI (ePc x), ln)) = _
        rw [if_neg yn, if_neg yn]
      rw [est] at h
      have f05 : FrC (fun a j => a = 647 ∨ saS 68 a j ∨ rinS a j ∨ rJmpS a j ∨ (a = 605 ∧ (j = 48 ∨ j = 49 ∨ j = 50 ∨ j = 69 ∨ j = 70 ∨ j = 71))) M (uI (uI M4 605 48 y) 605 49 (nI (ePc x))) :=
        ((f03.mono (fun a j z => by rcases z with z | z | z; exact Or.inl z; exact Or.inr (Or.inl z); exact Or.inr (Or.inr (Or.inr (Or.inr (by omega)))))).tr (f4.mono (fun a j z => by rcases z with z | z | z; exact Or.inr (Or.inr (Or.inl z)); exact Or.inr (Or.inr (Or.inr (Or.inl z))); exact Or.inr (Or.inr (Or.inr (Or.inr (by omega))))))).tr (f5.mono (fun a j z => Or.inr (Or.inr (Or.inr (Or.inr (by omega))))))
      have hok := (ex_ok p3 (p5 _ hpc) hO he).1
      rw [ex] at hok
      have n05 : ∀ a j, ((a = 605 ∧ (j = 42 ∨ j = 45 ∨ j = 46 ∨ j = 59 ∨ j = 60)) ∨ a = 641 ∨ a = 642) → ¬ (a = 647 ∨ saS 68 a j ∨ rinS a j ∨ rJmpS a j ∨ (a = 605 ∧ (j = 48 ∨ j = 49 ∨ j = 50 ∨ j = 69 ∨ j = 70 ∨ j = 71))) := fun a j q z => by unfold saS rinS rJmpS at z; omega
      have n05L : ∀ j, (j = 45 ∨ j = 46) → gL (uI (uI M4 605 48 y) 605 49 (nI (ePc x))) 605 j = gL M 605 j := fun j hj => f05.l (n05 _ _ (by omega))
      refine h _ (f05.wf hW) (f05.mono (fun a j z => by unfold saS rinS rJmpS at z; unfold rStpS; omega)) ⟨⟨RDc.same f5 (fun a j z => by omega) hD4, ?_, ?_, ?_, fun j hj => ?_, ?_, ?_⟩, hok, ⟨w, w1, ?_, ?_⟩, ⟨?_, l2⟩, hT, ?_, ?_, ?_⟩ (fun k hk z => ?_)
      · rw [f05.i (n05 _ _ (by omega))]; exact E2
      · rw [f5.i (by omega)]; exact g44
      · rw [f5.i (by omega), g47]
        show (0 : Int32) = blI (eEn x)
        rw [he]; rfl
      · rw [f5.i (by omega)]; exact gcf j hj
      · rw [n05L _ (by omega)]; exact E6
      · rw [n05L _ (by omega)]; exact E7
      · rw [f05.i (n05 _ _ (by omega))]; exact w2
      · refine w3.fr f05 tr 0 (by omega) hT (fun j _ j2 a b z => nT j (by omega) a b ?_)
        rcases z with z | z | z | z | z
        · exact Or.inr (Or.inl z)
        · exact Or.inl z
        · unfold rinS at z; exact Or.inr (by omega)
        · unfold rJmpS at z; exact Or.inr (by omega)
        · exact Or.inr (by omega)
      · rw [f05.i (n05 _ _ (by omega))]; exact l1
      · rw [gI_uI, if_neg (by decide), gI_uI, if_pos ⟨rfl, rfl⟩]
      · rw [gI_uI, if_pos ⟨rfl, rfl⟩]
      · rw [f5.i (by omega)]; exact g50
      · rw [f5.l (by omega), f4.l (by unfold rinS rJmpS; omega), f3.l (by omega), f2.l (by unfold saS; omega)]
        exact hRW k hk z
    -- all went well
    have good : ∀ (M4 : Mem) (dN : DS) (pcN kN wr : Nat) (cfN : Nat → Nat) (fin : Bool) (ln : Int32), Wf M4 → FrC (fun a j => rinS a j ∨ rJmpS a j ∨ (a = 605 ∧ (j = 69 ∨ j = 70))) M3 M4 → RDc M4 dN → ((gI M4 605 71 = -1 ∧ pcN = ePc x + 1) ∨ gI M4 605 71 = nI pcN) → gI M4 605 44 = nI kN → (∀ j, j < kN → gI M4 632 j = nI (cfN j)) → gI M4 605 47 = (if fin = true then 1 else 0) → gI M4 605 69 = nI wr → wr < 2 ^ 31 → gI M4 605 50 = -1 → exX n (c (ePc x)) x = (0, ln, wr, adv n x dN pcN kN cfN wr fin) → ∀ o3, RX13_step_65_14 G K [some (.ref 605), some (.int (nI s)), some (.int (nI (ePc x))), o3] (Option.toList (some (.int 0)) ++ []) M4 := by
      intro M4 dN pcN kN wr cfN fin ln hW4 f4 hD4 g71 g44 gcf g47 g69 hwr g50 ex o3
      have hok := (ex_ok p3 (p5 _ hpc) hO he).1
      rw [ex] at hok
      have hok : EOk n (adv n x dN pcN kN cfN wr fin) := hok
      have pcn : pcN ≤ n := hok.1
      have est : stX n c x tr = (0, adv n x dN pcN kN cfN wr fin, ((ePc x, wr, x) :: tr).take 64, noF) := by
        unfold stX
        rw [ex]
        rfl
      rw [est] at h
      have hNow4 : REs M4 68 x := hNow3.fr hd hK16 f4 (fun a j z => by unfold rinS rJmpS at z; unfold saS; omega)
      refine rX13_step_65_14 hc hW4 ⟨fun _ => c_move13 (c := 68) (t := s) hW4 (by omega) (by omega) (by omega) (fun M5 hW5 f5 hmv => rX13_step_108_3 hc hW5 ?_), fun z => absurd (by decide) z⟩
      have hS5 : REs M5 s x := hNow4.move hd hK16 hmv
      have f04 : FrC (fun a j => a = 647 ∨ saS 68 a j ∨ rinS a j ∨ rJmpS a j ∨ (a = 605 ∧ (j = 48 ∨ j = 49 ∨ j = 50 ∨ j = 69 ∨ j = 70 ∨ j = 71))) M M4 :=
        (f03.mono (fun a j z => by rcases z with z | z | z; exact Or.inl z; exact Or.inr (Or.inl z); exact Or.inr (Or.inr (Or.inr (Or.inr (by omega)))))).tr (f4.mono (fun a j z => by rcases z with z | z | z; exact Or.inr (Or.inr (Or.inl z)); exact Or.inr (Or.inr (Or.inr (Or.inl z))); exact Or.inr (Or.inr (Or.inr (Or.inr (by omega))))))
      have n04 : ∀ a j, ((a = 605 ∧ (j = 23 ∨ j = 42 ∨ j = 45 ∨ j = 46 ∨ j = 59 ∨ j = 60)) ∨ a = 641 ∨ a = 642) → ¬ (a = 647 ∨ saS 68 a j ∨ rinS a j ∨ rJmpS a j ∨ (a = 605 ∧ (j = 48 ∨ j = 49 ∨ j = 50 ∨ j = 69 ∨ j = 70 ∨ j = 71))) := fun a j q z => by unfold saS rinS rJmpS at z; omega
      have n5 : ∀ a j, (a ≤ 634 ∨ a = 641 ∨ a = 642 ∨ 643 ≤ a) → ¬ saS s a j := fun a j q z => by unfold saS at z; omega
      have m59 : gI M5 605 59 = nI tr.length := by rw [f5.i (n5 _ _ (by omega)), f04.i (n04 _ _ (by omega))]; exact l1
      have m69 : gI M5 605 69 = nI wr := by rw [f5.i (n5 _ _ (by omega))]; exact g69
      have m71 : gI M5 605 71 = gI M4 605 71 := f5.i (n5 _ _ (by omega))
      have m47 : gI M5 605 47 = (if fin = true then 1 else 0) := by rw [f5.i (n5 _ _ (by omega))]; exact g47
      have m23 : gI M5 605 23 = nI n := by rw [f5.i (n5 _ _ (by omega)), f04.i (n04 _ _ (by omega))]; exact p4
      have m45 : gL M5 605 45 = eSt x := by rw [f5.l (n5 _ _ (by omega)), f04.l (n04 _ _ (by omega))]; exact E6
      have m46 : gL M5 605 46 = eLn x := by rw [f5.l (n5 _ _ (by omega)), f04.l (n04 _ _ (by omega))]; exact E7
      -- the end
      have fin8 : ∀ (L' : Nat) (y : Int32), L' = (((ePc x, wr, x) :: tr).take 64).length → y = blI (fin || decide (n ≤ pcN)) → K (some (.int 0)) (uI (uI (uL (uL (uI (uI (uI (uI M5 605 60 (nI s)) 605 59 (nI L')) 641 s (nI (ePc x))) 642 s (nI wr)) 605 45 (eSt x + 1)) 605 46 (eLn x + (nI wr).toInt64)) 605 42 (nI pcN)) 605 47 y) := by
        intro L' y eL ey
        obtain ⟨M8, hM8⟩ : ∃ M8, M8 = uI (uI (uL (uL (uI (uI (uI (uI M5 605 60 (nI s)) 605 59 (nI L')) 641 s (nI (ePc x))) 642 s (nI wr)) 605 45 (eSt x + 1)) 605 46 (eLn x + (nI wr).toInt64)) 605 42 (nI pcN)) 605 47 y := ⟨_, rfl⟩
        have f8 : FrC (fun a j => (a = 605 ∧ (j = 60 ∨ j = 59 ∨ j = 45 ∨ j = 46 ∨ j = 42 ∨ j = 47)) ∨ ((a = 641 ∨ a = 642) ∧ j = s)) M5 M8 := by
          rw [hM8]
          exact (((((((FrC_uI (by omega)).tr (FrC_uI (by omega))).tr (FrC_uI (by omega))).tr (FrC_uI (by omega))).tr (FrC_uL (by omega))).tr (FrC_uL (by omega))).tr (FrC_uI (by omega))).tr (FrC_uI (by omega))
        have c60 : gI M8 605 60 = nI s := by rw [hM8, gI_uI, if_neg (by decide), gI_uI, if_neg (by decide), gI_uL, gI_uL, gI_uI, if_neg (by omega), gI_uI, if_neg (by omega), gI_uI, if_neg (by decide), gI_uI, if_pos ⟨rfl, rfl⟩]
        have c59 : gI M8 605 59 = nI L' := by rw [hM8, gI_uI, if_neg (by decide), gI_uI, if_neg (by decide), gI_uL, gI_uL, gI_uI, if_neg (by omega), gI_uI, if_neg (by omega), gI_uI, if_pos ⟨rfl, rfl⟩]
        have c641 : gI M8 641 s = nI (ePc x) := by rw [hM8, gI_uI, if_neg (by omega), gI_uI, if_neg (by omega), gI_uL, gI_uL, gI_uI, if_neg (by omega), gI_uI, if_pos ⟨rfl, rfl⟩]
        have c642 : gI M8 642 s = nI wr := by rw [hM8, gI_uI, if_neg (by omega), gI_uI, if_neg (by omega), gI_uL, gI_uL, gI_uI, if_pos ⟨rfl, rfl⟩]
        have c45 : gL M8 605 45 = eSt x + 1 := by rw [hM8, gL_uI, gL_uI, gL_uL, if_neg (by decide), gL_uL, if_pos ⟨rfl, rfl⟩]
        have c46 : gL M8 605 46 = eLn x + lN wr := by rw [hM8, gL_uI, gL_uI, gL_uL, if_pos ⟨rfl, rfl⟩, nI_toL hwr]
        have c42 : gI M8 605 42 = nI pcN := by rw [hM8, gI_uI, if_neg (by decide), gI_uI, if_pos ⟨rfl, rfl⟩]
        have c47 : gI M8 605 47 = y := by rw [hM8, gI_uI, if_pos ⟨rfl, rfl⟩]
        rw [← hM8]
        clear hM8
        have f08 : FrC (fun a j => (a = 647 ∨ saS 68 a j ∨ rinS a j ∨ rJmpS a j ∨ (a = 605 ∧ (j = 48 ∨ j = 49 ∨ j = 50 ∨ j = 69 ∨ j = 70 ∨ j = 71))) ∨ saS s a j ∨ ((a = 605 ∧ (j = 60 ∨ j = 59 ∨ j = 45 ∨ j = 46 ∨ j = 42 ∨ j = 47)) ∨ ((a = 641 ∨ a = 642) ∧ j = s))) M M8 := ((f04.mono (fun a j z => Or.inl z)).tr (f5.mono (fun a j z => Or.inr (Or.inl z)))).tr (f8.mono (fun a j z => Or.inr (Or.inr z)))
        have hDM8 : RDc M8 dN := RDc.same (S := fun a j => saS s a j ∨ a = 605 ∨ a = 641 ∨ a = 642) ((f5.mono (fun a j z => Or.inl z)).tr (f8.mono (fun a j z => Or.inr (by omega)))) (fun a j z q => by
          rcases z with z | z
          · exact n5 a j (by omega) z
          · omega) hD4
        have len64 : (((ePc x, wr, x) :: tr).take 64).length ≤ 64 := by rw [List.length_take]; omega
        refine h _ (f08.wf hW) (f08.mono (fun a j z => ?_)) ⟨⟨hDM8, c42, ?_, ?_, fun j hj => ?_, c45, c46⟩, hok, ⟨s, hs, c60, ?_⟩, ⟨by rw [c59, eL], len64⟩, ?_, ?_, ?_, ?_⟩ (fun k hk z => ?_)
        · rcases z with (z | z | z | z | z) | z | z
          · unfold rStpS; omega
          · exact saS_stp (Or.inr rfl) z
          · unfold rinS at z; unfold rStpS; omega
          · unfold rJmpS at z; unfold rStpS; omega
          · unfold rStpS; omega
          · exact saS_stp (Or.inl hs) z
          · unfold rStpS; omega
        · rw [f8.i (by omega), f5.i (n5 _ _ (by omega))]; exact g44
        · rw [c47]; exact ey
        · rw [f8.i (by omega), f5.i (n5 _ _ (by omega))]; exact gcf j hj
        · -- the list
          have e64 : ((ePc x, wr, x) :: tr).take 64 = (ePc x, wr, x) :: tr.take 63 := rfl
          have s0 : slN s 0 = s := by unfold slN; omega
          rw [e64]
          refine ⟨⟨by rw [s0]; exact c641, by rw [s0]; exact c642, by rw [s0]; exact hS5.fr hd hK16 f8 (fun a j z => by unfold saS; omega)⟩, ?_⟩
          have l63 : (tr.take 63).length ≤ 63 ∧ (tr.take 63).length ≤ tr.length := by rw [List.length_take]; omega
          refine RTr.shift (w := w) _ 0 (fun j _ j2 => hsl j (by omega) (by omega)) ?_
          refine (w3.take _ 63 0).fr f08 _ 0 (by omega) (fun t ht => hT t (List.mem_of_mem_take ht)) (fun j _ j2 a b z => ?_)
          have ne : slN w j ≠ s := fun y => by
            rw [← hsl j (by omega) (by omega)] at y
            unfold slN at y
            omega
          rcases z with (z | z | z | z | z) | z | z
          · exact nT j (by omega) a b (Or.inr (Or.inl z))
          · exact nT j (by omega) a b (Or.inl z)
          · unfold rinS at z; exact nT j (by omega) a b (Or.inr (by omega))
          · unfold rJmpS at z; exact nT j (by omega) a b (Or.inr (by omega))
          · exact nT j (by omega) a b (Or.inr (by omega))
          · refine ⟨saS_ne z (Ne.symm ne), fun y => ?_⟩
            unfold saS at z
            omega
          · refine ⟨fun y => ?_, fun y => by omega⟩
            unfold saS at y
            omega
        · intro t ht
          have := List.mem_of_mem_take ht
          rcases List.mem_cons.mp this with z | z
          · rw [z]; exact hO
          · exact hT t z
        · rw [f8.i (by omega), f5.i (n5 _ _ (by omega)), f4.i (by unfold rinS rJmpS; omega)]; exact c48.1
        · rw [f8.i (by omega), f5.i (n5 _ _ (by omega)), f4.i (by unfold rinS rJmpS; omega)]; exact c48.2.1
        · rw [f8.i (by omega), f5.i (n5 _ _ (by omega))]; exact g50
        · rw [f8.l (by omega), f5.l (n5 _ _ (by omega)), f4.l (by unfold rinS rJmpS; omega), f3.l (by omega), f2.l (by unfold saS; omega)]
          exact hRW k hk z
      -- where to
      have go : ∀ L' : Nat, L' = (((ePc x, wr, x) :: tr).take 64).length → G 141 [some (.ref 605), some (.int (nI s)), some (.int (nI (ePc x))), some (.int 0)] [.int (nI L'), .ref 605] (uI M5 605 60 (nI s)) := by
        intro L' eL
        have hW6 : Wf (uI M5 605 60 (nI s)) := (FrC_uI (S := fun a j => a = 605) rfl).wf hW5
        refine eX13_step_141 hc hW6 ?_
        have a71 : gI (uI M5 605 60 (nI s)) 605 71 = gI M4 605 71 := by rw [gI_uI, if_neg (by decide)]; exact m71
        have a69 : ∀ v, gI (uI (uI (uI M5 605 60 (nI s)) 605 59 (nI L')) 641 s v) 605 69 = nI wr := fun v => by rw [gI_uI, if_neg (by omega), gI_uI, if_neg (by decide), gI_uI, if_neg (by decide)]; exact m69
        have b69 : gI (uI M5 605 60 (nI s)) 605 69 = nI wr := by rw [gI_uI, if_neg (by decide)]; exact m69
        have b45 : gL (uI M5 605 60 (nI s)) 605 45 = eSt x := m45
        have b46 : gL (uI M5 605 60 (nI s)) 605 46 = eLn x := m46
        rw [nI_clamp (show s < 2 ^ 31 by omega), a71, b69, b45, b46, nI_1]
        have last : G 203 [some (.ref 605), some (.int (nI s)), some (.int (nI (ePc x))), some (.int 0)] [.int (nI pcN), .ref 605] (uL (uL (uI (uI (uI (uI M5 605 60 (nI s)) 605 59 (nI L')) 641 s (nI (ePc x))) 642 s (nI wr)) 605 45 (eSt x + 1)) 605 46 (eLn x + (nI wr).toInt64)) := by
          have hW7 : Wf (uL (uL (uI (uI (uI (uI M5 605 60 (nI s)) 605 59 (nI L')) 641 s (nI (ePc x))) 642 s (nI wr)) 605 45 (eSt x + 1)) 605 46 (eLn x + (nI wr).toInt64)) := ((((((FrC_uI (S := fun _ _ => True) trivial).tr (FrC_uI trivial)).tr (FrC_uI trivial)).tr (FrC_uI trivial)).tr (FrC_uL trivial)).tr (FrC_uL trivial)).wf hW5
          refine eX13_step_203 hc hW7 ?_
          have d47 : gI (uL (uL (uI (uI (uI (uI M5 605 60 (nI s)) 605 59 (nI L')) 641 s (nI (ePc x))) 642 s (nI wr)) 605 45 (eSt x + 1)) 605 46 (eLn x + (nI wr).toInt64)) 605 47 = (if fin = true then 1 else 0) := by
            rw [gI_uL, gI_uL, gI_uI, if_neg (by omega), gI_uI, if_neg (by omega), gI_uI, if_neg (by decide), gI_uI, if_neg (by decide)]; exact m47
          have d23 : gI (uL (uL (uI (uI (uI (uI M5 605 60 (nI s)) 605 59 (nI L')) 641 s (nI (ePc x))) 642 s (nI wr)) 605 45 (eSt x + 1)) 605 46 (eLn x + (nI wr).toInt64)) 605 23 = nI n := by
            rw [gI_uL, gI_uL, gI_uI, if_neg (by omega), gI_uI, if_neg (by omega), gI_uI, if_neg (by decide), gI_uI, if_neg (by decide)]; exact m23
          rw [d47, d23, nI_eq (by omega) (by omega)]
          refine ⟨fun z => fin8 L' 1 eL ?_, fun z => ⟨fun ne => fin8 L' 0 eL ?_, fun e => fin8 L' 1 eL ?_⟩⟩
          · cases fin
            · exact absurd rfl z
            · rfl
          · cases fin
            · rw [Bool.false_or, decide_eq_false (by omega)]; rfl
            · exact absurd z (by decide)
          · rw [decide_eq_true (by omega), Bool.or_true]; rfl
        refine ⟨vpN hs (by decide), vpN hs (by decide), fun lt => ?_, fun ge => ?_⟩
        · rcases g71 with ⟨z1, z2⟩ | z
          · rw [← z2]; exact last
          · rw [z, show (0 : Int32) = nI 0 from rfl, nI_ltI (by omega) (by decide)] at lt
            omega
        · rcases g71 with ⟨z1, z2⟩ | z
          · rw [z1] at ge; exact absurd (by decide) ge
          · rw [z]; exact last
      rw [m59]
      refine ⟨fun z => ?_, fun z => ?_⟩
      · have z := (nI_leI (a := 64) (by decide) (by omega)).mp z
        exact go 64 (by rw [List.length_take, List.length_cons]; omega)
      · have z : ¬ 64 ≤ tr.length := fun y => z ((nI_leI (a := 64) (by decide) (by omega)).mpr y)
        rw [nI_1]
        exact go (tr.length + 1) (by rw [List.length_take, List.length_cons]; omega)
    have hN03 : ∀ M4, FrC (fun a j => rinS a j ∨ (a = 605 ∧ j = 70)) M3 M4 → FrC (fun a j => rinS a j ∨ rJmpS a j ∨ (a = 605 ∧ (j = 69 ∨ j = 70))) M3 M4 := fun M4 f => f.mono (fun a j z => by rcases z with z | z; exact Or.inl z; exact Or.inr (Or.inr (by omega)))
    refine c_does13 (x := x) hW3 hC3 rfl hd rfl hD3 h44 hK16 hcf3 (fun lt => ?_) (fun ge Mn hWn fn z69 => ?_)
    · intro M4 hW4 f4 hD4 ok bd
      have ex := ex_ins (n := n) (x := x) lt
      have g44 : gI M4 605 44 = nI (eK x) := by rw [f4.i (by unfold rinS; omega)]; exact h44
      have g47 : gI M4 605 47 = 0 := by rw [f4.i (by unfold rinS; omega)]; exact h47
      have gcf : ∀ j, j < eK x → gI M4 632 j = nI (eCf x j) := fun j hj => by rw [f4.i (by unfold rinS; omega)]; exact hcf3 j hj
      by_cases z : (insX (cn (c (ePc x)) 0) (c (ePc x)) (eD x)).1 = 0
      · obtain ⟨k1, k2⟩ := ok z
        rw [z] at ex ⊢
        rw [if_pos rfl] at ex
        have hwr := insX_wr (p5 _ hpc) hd
        exact good M4 _ (ePc x + 1) (eK x) _ (eCf x) false _ hW4 (hN03 M4 f4) hD4 (Or.inl ⟨by rw [f4.i (by unfold rinS; omega)]; exact c48.2.2.2, rfl⟩) g44 gcf g47 k1 (by omega) (k2.trans c48.2.2.1) ex _
      · have k3 := bd z
        rw [if_neg z] at ex
        refine bad M4 _ _ _ hW4 (hN03 M4 f4) z insX_cd hD4 k3 g44 gcf g47 ?_ _
        rw [ex]
    · intro M4 hW4 f4 hD4 ok bd
      have ex := ex_lead (n := n) (x := x) (r := c (ePc x)) ge
      have f34 : FrC (fun a j => rinS a j ∨ rJmpS a j ∨ (a = 605 ∧ (j = 69 ∨ j = 70))) M3 M4 := (fn.mono (fun a j z => Or.inr (Or.inr z))).tr (f4.mono (fun a j z => Or.inr (Or.inl z)))
      have g69 : gI M4 605 69 = nI 0 := by rw [f4.i (by unfold rJmpS; omega)]; exact z69
      have n44 : gI Mn 605 44 = nI (eK x) := by rw [fn.i (by omega)]; exact h44
      have n47 : gI Mn 605 47 = 0 := by rw [fn.i (by omega)]; exact h47
      have ncf : ∀ j, j < eK x → gI Mn 632 j = nI (eCf x j) := fun j hj => by rw [fn.i (by omega)]; exact hcf3 j hj
      by_cases z : (leX (cn (c (ePc x)) 0) (c (ePc x)) x).1 = 0
      · obtain ⟨k1, k2, k3, k4, k5⟩ := ok z
        rw [z] at ex ⊢
        rw [if_pos rfl] at ex
        rw [n47] at k4
        exact good M4 _ _ _ 0 _ _ _ hW4 f34 hD4 k1 k2 k3 k4 g69 (by decide) (by rw [k5, fn.i (by omega)]; exact c48.2.2.1) ex _
      · obtain ⟨k1, k2, k3, k4⟩ := bd z
        rw [if_neg z] at ex
        have e5 : (leX (cn (c (ePc x)) 0) (c (ePc x)) x).2.2.2.2.2 = eD x := by
          have := (ex_ok p3 (p5 _ hpc) hO he)
          unfold leX at z ⊢
          by_cases a1 : cn (c (ePc x)) 0 = 59
          · rw [if_pos a1] at z; exact absurd rfl z
          · rw [if_neg a1] at z ⊢
            by_cases a2 : cn (c (ePc x)) 0 ≤ 63
            · rw [if_pos a2] at z; exact absurd rfl z
            · rw [if_neg a2] at z ⊢
              by_cases a3 : cn (c (ePc x)) 0 = 64
              · rw [if_pos a3] at z; exact absurd rfl z
              · rw [if_neg a3] at z ⊢
                by_cases a4 : cn (c (ePc x)) 0 = 65
                · rw [if_pos a4] at z ⊢
                  by_cases a5 : eK x < 16
                  · rw [if_pos a5] at z; exact absurd rfl z
                  · rw [if_neg a5]
                · rw [if_neg a4] at z
                  by_cases a6 : cn (c (ePc x)) 0 = 66
                  · rw [if_pos a6] at z
                    by_cases a7 : eK x = 0
                    · rw [if_pos a7] at z; exact absurd rfl z
                    · rw [if_neg a7] at z; exact absurd rfl z
                  · rw [if_neg a6] at z; exact absurd rfl z
        refine bad M4 _ (eD x) (-1) hW4 f34 z leX_cd (by rw [← e5]; exact hD4) k1 (k2.trans n44) (fun j hj => (k3 j).trans (ncf j hj)) (k4.trans n47) ?_ _
        rw [ex]
        rfl
  -- the watch
  have slot : ∃ s, s < 64 ∧ (∀ j, j + 1 < 64 → j < tr.length → slN s (j + 1) = slN w j) ∧ ((¬ nI tr.length = 0 → nI w + (1 : Int32) - (nI w + (1 : Int32)) / (64 : Int32) * (64 : Int32) = nI s) ∧ (nI tr.length = 0 → (0 : Int32) = nI s)) := by
    have z0 : nI tr.length = 0 ↔ tr.length = 0 := nI_eq (b := 0) (by omega) (by decide)
    rw [z0, nI_1, show nI (w + 1) - nI (w + 1) / (64 : Int32) * (64 : Int32) = nI ((w + 1) % 64) from pk_rem (by omega) (by decide) (by decide)]
    by_cases z : tr.length = 0
    · exact ⟨0, by decide, fun j _ j2 => by omega, fun y => absurd z y, fun _ => rfl⟩
    · exact ⟨(w + 1) % 64, Nat.mod_lt _ (by decide), fun j j1 _ => by unfold slN; omega, fun _ => rfl, fun y => absurd y z⟩
  obtain ⟨s, s1, s2, s3, s4⟩ := slot
  have loop : ∀ f p : Nat, p + f = 512 → ∀ M1, ∀ o2 o3 : Option Value, Wf M1 → FrC (fun a _ => a = 647) M M1 → (∀ k, k < p → rWtd ww (eD x) k → gL M1 647 k = di (eD x) (2 * (k / 64) + 1) (k % 64)) → G 2 [some (.ref 605), some (.int (nI p)), o2, o3] [] M1 := by
    intro f
    induction f with
    | zero =>
      intro p hp M1 o2 o3 hW1 f1 hr
      have hp : p = 512 := by omega
      subst hp
      refine eX13_step_2 hc hW1 ⟨fun _ => ?_, fun z => absurd (by decide) z⟩
      rw [f1.i (by omega), f1.i (by omega), l1, w2]
      refine ⟨fun y => ?_, fun y => ?_⟩
      · rw [s3 y]; exact B M1 hW1 f1 hr s s1 s2 _ _ _
      · rw [s4 y]; exact B M1 hW1 f1 hr s s1 s2 _ _ _
    | succ f ih =>
      intro p hp M1 o2 o3 hW1 f1 hr
      have hD1 : RDc M1 (eD x) := RDc.same f1 (fun a j z => by omega) E1
      have hw1 : RWw M1 ww := fun j hj => by rw [f1.i (by omega)]; exact hw j hj
      obtain ⟨q1, q2⟩ := rWtd_is hd hD1 hw1 (show p < 512 by omega)
      obtain ⟨k1, k2, k3, k4⟩ := kw (show p < 512 by omega)
      refine eX13_step_2 hc hW1 ⟨fun z => absurd ((nI_leI (a := 512) (by decide) (by omega)).mp z) (by omega), fun _ => ?_⟩
      rw [k2, k1, nI_clamp (show p < 2 ^ 31 by omega), q2, nI_1]
      refine ⟨q1, fun nw => ⟨vpN (by omega) (by decide), ?_⟩, fun yw => ?_⟩
      · have f2 : FrC (fun a j => a = 647 ∧ j = p) M1 (uL M1 647 p 0) := FrC_uL ⟨rfl, rfl⟩
        refine ih (p + 1) (by omega) _ _ _ (f2.wf hW1) (f1.tr (f2.mono (fun a j z => z.1))) (fun k hk z => ?_)
        by_cases e : k = p
        · subst e; exact absurd z nw
        · rw [f2.l (by omega)]; exact hr k (by omega) z
      · obtain ⟨u1, u2⟩ := sum_is hd hD1 k3 yw.2.2
        rw [u2]
        have f2 : FrC (fun a j => a = 647 ∧ j = p) M1 (uL M1 647 p (di (eD x) (2 * (p / 64) + 1) (p % 64))) := FrC_uL ⟨rfl, rfl⟩
        refine ⟨u1, vpN (by omega) (by decide), ih (p + 1) (by omega) _ _ _ (f2.wf hW1) (f1.tr (f2.mono (fun a j z => z.1))) (fun k hk z => ?_)⟩
        by_cases e : k = p
        · subst e; rw [gL_uL, if_pos ⟨rfl, rfl⟩]
        · rw [f2.l (by omega)]; exact hr k (by omega) z
  exact loop 512 0 rfl M _ _ hW FrC.rf (fun k hk => absurd hk (Nat.not_lt_zero k))
end
end RSTEP
