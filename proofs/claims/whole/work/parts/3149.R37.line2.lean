section RLINE2
section
variable {M M' : Mem} {K : RT} {t : Nat → Nat} {n : Nat} {x : TK} {st : PS} {d : Nat} {c : Nat → Nat → Int64}
theorem tok_ge {p : Nat} (hA : RAt M t n (tok t n p)) : p ≤ sT (tok t n p) ∧ sT (tok t n p) ≤ eT (tok t n p) ∧ eT (tok t n p) ≤ n ∧ p ≤ n := by
  have h1 := hA.2.2.1.1
  have h2 := hA.2.2.1.2.1
  rcases Nat.lt_or_ge n p with w | w
  · have hs : p ≤ sT (tok t n p) := by
      unfold tok tokA
      have := scF_ge t n isBl p
      rw [if_pos (by omega)]
      exact this
    omega
  · exact ⟨(tok_ok (t := t) (n := n) (p := p) w (fun j hj => (hA.2.1.2.2 j hj).2)).2, h1, h2, w⟩
theorem c_insL13 {p : Nat} (hK0 : RK M) (hA : RAt M t n (tok t n p)) (hk : kT (tok t n p) = 119) (hD : DrR M t n d c)
    (h1 : ∀ q r' M', woN t (tok t n p) < 68 → d ≠ 100 → insS t n (woN t (tok t n p)) (eT (tok t n p)) = .inr (tok t n q, r') → p ≤ q → FrC idS M M' → RAt M' t n (tok t n q) → DrR M' t n (d + 1) (up1 c d r') → K none M')
    (h0 : ∀ w M', ((¬ (woN t (tok t n p) < 68 ∧ d ≠ 100) ∧ w = sT (tok t n p)) ∨ (woN t (tok t n p) < 68 ∧ d ≠ 100 ∧ insS t n (woN t (tok t n p)) (eT (tok t n p)) = .inl w)) → w ≤ n → Wf M' → FrC idS M M' → gI M' 605 10 = nI w → K none M') : sp_X13_instructionLine [.ref 605] M K := by
  obtain ⟨t1, t2, t3, t4⟩ := tok_ge hA
  have hn := hA.2.1.1
  obtain ⟨D1, D2, D3, D4⟩ := hD
  refine wX13_instructionLine hA.1 (fun {G} hc => c_instr13 hA.1 hK0 hA.2.1 hA.2.2.1 hA.2.2.2.1 hk (rX13_instructionLine_0_1 hc hA.1 ?_))
  have f0 : FrC idS M (uI M 605 10 (nI (sT (tok t n p)))) := FrC_uI (by unfold idS; omega)
  have no : ¬ (woN t (tok t n p) < 68 ∧ d ≠ 100) → K none (m_X13_wrong (gI M 605 7) M) := fun z => by
    rw [wr13 hA]
    exact h0 _ _ (Or.inl ⟨z, rfl⟩) (by omega) (f0.wf hA.1) f0 fp_g
  generalize hx : tok t n p = x at *
  generalize hw : woN t x = o at *
  by_cases ho : o < 68
  · rw [if_pos ho, D1]
    have e100 : nI d = 100 ↔ d = 100 := nI_eq (b := 100) (by omega) (by decide)
    rw [e100]
    refine ⟨fun z => absurd z (nI_pos (by omega)), fun _ => ⟨fun hd => ?_, fun z => no (fun w => w.2 z)⟩⟩
    rw [nI_clamp (by omega), nI_1]
    have g11 : gI (uI (uI (uI M 605 11 (nI (d + 1))) 609 d (nI o)) 611 d (-1)) 605 11 = nI (d + 1) := by rw [gI_uI, if_neg (by omega), gI_uI, if_neg (by omega), gI_uI, if_pos ⟨rfl, rfl⟩]
    have g9 : gI (uI (uI (uI M 605 11 (nI (d + 1))) 609 d (nI o)) 611 d (-1)) 609 d = nI o := by rw [gI_uI, if_neg (by omega), gI_uI, if_pos ⟨rfl, rfl⟩]
    have gm : gI (uI (uI (uI M 605 11 (nI (d + 1))) 609 d (nI o)) 611 d (-1)) 611 d = -1 := by rw [gI_uI, if_pos ⟨rfl, rfl⟩]
    have f1 : FrC (fun a j => (a = 605 ∧ j = 11) ∨ ((a = 609 ∨ a = 611) ∧ j = d)) M (uI (uI (uI M 605 11 (nI (d + 1))) 609 d (nI o)) 611 d (-1)) := ((FrC_uI (by omega)).tr (FrC_uI (by omega))).tr (FrC_uI (by omega))
    generalize uI (uI (uI M 605 11 (nI (d + 1))) 609 d (nI o)) 611 d (-1) = M1 at f1 g11 g9 gm ⊢
    refine ⟨vpN (by omega) (by decide), vpN (by omega) (by decide), c_nx13 hA f1 (fun j z => by omega) (fun j z => by omega) (by omega) (by omega) (fun M2 f2 hA2 le2 => rX13_instructionLine_27_20 hc hA2.1 ?_)⟩
    have f12 : FrC (fun a j => ((a = 605 ∧ j = 11) ∨ ((a = 609 ∨ a = 611) ∧ j = d)) ∨ tkS a j) M M2 := (f1.mono (fun a j z => Or.inl z)).tr (f2.mono (fun a j z => Or.inr z))
    have len4 := opLen4 ho
    have fin : ∀ M3, FrC idS M M3 → RAt M3 t n (tok t n (eT x)) → PaR M3 t n d c o 0 (row0 o) → G 95 [some (.ref 605), some (.int (nI o)), some (.int (nI d)), some (.int (nI (opL o).length)), some (.int (nI 0))] [] M3 := by
      intro M3 f3 hA3 hP3
      refine c_opsI13 (p0 := p) (R := insS t n o (eT x)) hc hA.1 hK0 ho (fun q r' M' e a b c' d' => h1 q r' M' ho hd e a b c' d') (fun w M' e a b c' d' => h0 w M' (Or.inr ⟨ho, hd, e⟩) a b c' d') _ 0 (Nat.zero_add _) (eT x) (row0 o) M3 rfl (by omega) f3 hA3 hP3
    have loop : ∀ f q : Nat, q + f = 4 → ∀ (M3 : Mem) (o4 : Option Value), FrC (fun a j => a = 610 ∧ 4 * d ≤ j ∧ j < 4 * d + 4) M2 M3 → (∀ i, i < q → gL M3 610 (4 * d + i) = -1) → G 62 [some (.ref 605), some (.int (nI o)), some (.int (nI d)), some (.int (nI q)), o4] [] M3 := by
      intro f
      induction f with
      | zero =>
        intro q hq M3 o4 f3 hz
        have hq : q = 4 := by omega
        subst hq
        have hA3 := hA2.fr f3 (fun j z => by omega) (fun j z => by omega)
        have f13 : FrC (fun a j => (((a = 605 ∧ j = 11) ∨ ((a = 609 ∨ a = 611) ∧ j = d)) ∨ tkS a j) ∨ (a = 610 ∧ 4 * d ≤ j ∧ j < 4 * d + 4)) M M3 := (f12.mono (fun a j z => Or.inl z)).tr (f3.mono (fun a j z => Or.inr z))
        have hK3 : RK M3 := hK0.fr f13 (fun a j z => by unfold tkS at z; unfold prS; omega)
        obtain ⟨m1, m2⟩ := many_is hK3 ho
        refine eX13_instructionLine_62 hc hA3.1 ⟨fun _ => ⟨m1, ?_⟩, fun z => absurd (by decide) z⟩
        rw [m2, mn_is ho]
        have r0 : ∀ j, row0 o (j + 1) = -1 := fun j => up1_ne (by omega)
        refine fin M3 (f13.mono (fun a j z => by unfold tkS at z; unfold idS; omega)) hA3 ⟨?_, by omega, ?_, D4.fr f13 (fun i hi => ⟨by unfold tkS; omega, by unfold tkS; omega, fun k hk => by unfold tkS; omega⟩) (fun u hu => ⟨by unfold tkS; omega, by unfold tkS; omega, by unfold tkS; omega⟩), ?_, ?_, fun j hj hj2 => ?_, fun z => absurd z (by omega), up1_eq, r0 4⟩
        · rw [f3.i (by omega), f2.i (by unfold tkS; omega)]; exact g11
        · rw [f13.i (by unfold tkS; omega), D3, if_neg (by omega)]; rfl
        · rw [f3.i (by omega), f2.i (by unfold tkS; omega)]; exact g9
        · rw [f3.i (by omega), f2.i (by unfold tkS; omega)]; exact gm
        · rw [r0]; exact hz j hj
      | succ f ih =>
        intro q hq M3 o4 f3 hz
        refine eX13_instructionLine_62 hc ((hA2.fr f3 (fun j z => by omega) (fun j z => by omega)).1) ⟨fun z => absurd ((nI_leI (a := 4) (by decide) (by omega)).mp z) (by omega), fun _ => ?_⟩
        have ec : (4 : Int32) * nI d + nI q = nI (4 * d + q) := by rw [show (4 : Int32) = nI 4 from rfl, pk_mul, nI_add]
        rw [ec, nI_clamp (by omega), nI_1]
        have f4 : FrC (fun a j => a = 610 ∧ j = 4 * d + q) M3 (uL M3 610 (4 * d + q) (-1)) := FrC_uL ⟨rfl, rfl⟩
        refine ⟨vpN (by omega) (by decide), ih (q + 1) (by omega) _ _ (f3.tr (f4.mono (fun a j z => by omega))) (fun i hi => ?_)⟩
        by_cases e : i = q
        · subst e; rw [gL_uL, if_pos ⟨rfl, rfl⟩]
        · rw [f4.l (by omega)]; exact hz i (by omega)
    exact loop 4 0 rfl M2 _ FrC.rf (fun i hi => absurd hi (Nat.not_lt_zero i))
  · rw [if_neg ho]
    exact ⟨fun _ => no (fun w => ho w.1), fun y => absurd (by decide) y⟩
/-- what the reading of a line may change -/
def liS (a j : Nat) : Prop := idS a j ∨ (a = 605 ∧ j = 15) ∨ (612 ≤ a ∧ a ≤ 614)
theorem idS_li {a j : Nat} (h : idS a j) : liS a j := Or.inl h
theorem li_pr {a j : Nat} (h : liS a j) : ¬ prS a := by unfold liS idS at h; unfold prS; omega
theorem LbR.fr {S : Nat → Nat → Prop} (hf : FrC S M M') (hS : ∀ a j, S a j → ¬ (a = 605 ∧ j = 15) ∧ ¬ (612 ≤ a ∧ a ≤ 614)) (h : LbR M t n st) : LbR M' t n st := by
  have nn : ∀ a j, ((a = 605 ∧ j = 15) ∨ (612 ≤ a ∧ a ≤ 614)) → ¬ S a j := fun a j p q => by have := hS a j q; omega
  refine ⟨by rw [hf.i (nn _ _ (by omega))]; exact h.1, h.2.1, fun l hl => ?_⟩
  obtain ⟨a1, a2, a3, a4⟩ := h.2.2 l hl
  exact ⟨by rw [hf.i (nn _ _ (by omega))]; exact a1, by rw [hf.i (nn _ _ (by omega))]; exact a2, by rw [hf.i (nn _ _ (by omega))]; exact a3, a4⟩
/-- the reference stands at the token behind p, with all that was read -/
def RLn (M : Mem) (t : Nat → Nat) (n p : Nat) (st : PS) : Prop := RAt M t n (tok t n p) ∧ DrR M t n (pD st) (pC st) ∧ LbR M t n st
theorem LbR.cong {st' : PS} (h : LbR M t n st) (e1 : pB st' = pB st) (e2 : pF st' = pF st) (e3 : pA st' = pA st) : LbR M t n st' := by
  unfold LbR at h ⊢
  rw [e1, e2, e3]; exact h
theorem c_lin2 {G : Nat → KT} {p0 p : Nat} {R : Nat ⊕ (TK × PS)} (hc : cloX13_line G K wT) (hW0 : Wf M) (hK0 : RK M) (hf1 : FrC liS M M') (hL : RLn M' t n p st) (hp0 : p0 ≤ p) (hR : lin2 t n (tok t n p) st = R)
    (h1 : ∀ q st' M', R = .inr (tok t n q, st') → p0 ≤ q → kT (tok t n q) = 101 → FrC liS M M' → RLn M' t n q st' → K none M')
    (h0 : ∀ w M', R = .inl w → w ≤ n → Wf M' → FrC liS M M' → gI M' 605 10 = nI w → K none M') :
    (¬ gI M' 605 6 = 0 → G 139 [some (.ref 605)] [] M') ∧ (gI M' 605 6 = 0 → sp_X13_instructionLine [.ref 605] M' (fun v M' => RX13_line_135_1 G K [some (.ref 605)] (v.toList ++ []) M')) := by
  obtain ⟨hA, hD, hB⟩ := hL
  have hn := hA.2.1.1
  rw [lin2_eq] at hR
  -- at the end of the line
  have fin : ∀ (q : Nat) (st' : PS) (M2 : Mem), p0 ≤ q → FrC liS M M2 → RLn M2 t n q st' → endS (tok t n q) st' = R → G 139 [some (.ref 605)] [] M2 := by
    intro q st' M2 hq f2 hL2 e
    obtain ⟨t1, t2, t3, t4⟩ := tok_ge hL2.1
    refine eX13_line_139 hc hL2.1.1 ?_
    rw [hL2.1.2.2.2.2, s_end hL2.1.2.2.1 hL2.1.2.2.2.1]
    refine ⟨fun z => absurd z (by decide), fun _ => ⟨fun z => ?_, fun z => ?_⟩⟩
    · unfold endS at e
      rw [if_pos z] at e
      exact h1 q st' M2 e.symm hq z f2 hL2
    · unfold endS at e
      rw [if_neg z] at e
      rw [wr13 hL2.1]
      have f3 : FrC liS M (uI M2 605 10 (nI (sT (tok t n q)))) := f2.tr (FrC_uI (by unfold liS idS; omega))
      exact h0 _ _ e.symm (by omega) (f3.wf hW0) f3 fp_g
  rw [s_word hA.2.2.1 hA.2.2.2.1]
  refine ⟨fun z => ?_, fun z => ?_⟩
  · rw [if_neg z] at hR
    exact fin p st M' hp0 hf1 ⟨hA, hD, hB⟩ hR
  · rw [if_pos z] at hR
    have bad : ∀ (w : Nat) (M2 : Mem), R = .inl w → w ≤ n → Wf M2 → FrC liS M M2 → gI M2 605 10 = nI w → G 139 [some (.ref 605)] [] M2 := fun w M2 e hw hW2 f2 g => by
      have e10 : (0 : Int32) ≤ gI M2 605 10 := by rw [g]; exact nI_pos' (by omega)
      exact eX13_line_139 hc hW2 ⟨fun _ => h0 w M2 e hw hW2 f2 g, fun y => absurd e10 y⟩
    refine c_insL13 (hK0.fr hf1 (fun a j z => li_pr z)) hA z hD (fun q r' M2 ho hd e hq f2 hA2 hD2 => rX13_line_135_1 hc hA2.1 ?_) (fun w M2 hh hw hW2 f2 g => rX13_line_135_1 hc hW2 ?_)
    · have e2 : ins2 t n (tok t n p) st = .inr (tok t n q, (pD st + 1, up1 (pC st) (pD st) r', pB st, pF st, pA st)) := by
        unfold ins2
        rw [if_pos ⟨ho, hd⟩, e]; rfl
      rw [e2] at hR
      exact fin q (pD st + 1, up1 (pC st) (pD st) r', pB st, pF st, pA st) M2 (by omega) (hf1.tr (f2.mono (fun a j z => idS_li z))) ⟨hA2, hD2, (hB.fr f2 (fun a j z => by unfold idS at z; omega)).cong rfl rfl rfl⟩ hR
    · have e2 : ins2 t n (tok t n p) st = .inl w := by
        unfold ins2
        rcases hh with ⟨a, b⟩ | ⟨a, b, c⟩
        · rw [if_neg a, b]
        · rw [if_pos ⟨a, b⟩, c]; rfl
      rw [e2] at hR
      exact bad w M2 hR.symm hw hW2 (hf1.tr (f2.mono (fun a j z => idS_li z))) g
theorem c_line13 {p : Nat} (hK0 : RK M) (hL : RLn M t n p st) 
    (h1 : ∀ q st' M', linS t n p st = .inr (tok t n q, st') → p ≤ q → kT (tok t n q) = 101 → FrC liS M M' → RLn M' t n q st' → K none M')
    (h0 : ∀ w M', linS t n p st = .inl w → w ≤ n → Wf M' → FrC liS M M' → gI M' 605 10 = nI w → K none M') : sp_X13_line [.ref 605] M K := by
  obtain ⟨hA, hD, hB⟩ := hL
  have hn := hA.2.1.1
  obtain ⟨t1, t2, t3, t4⟩ := tok_ge hA
  have hW := hA.1
  refine wX13_line hW (fun {G} hc => ?_)
  have el : linS t n p st = if kT (tok t n p) = 119 ∧ bN t n (scF t n isBl (eT (tok t n p))) = 58 then (if eT (tok t n p) - sT (tok t n p) ≤ 12 ∧ pB st ≠ 40 ∧ lkS t n (pB st) (pF st) (sT (tok t n p)) = none then lin2 t n (tok t n (eT (tok t n (eT (tok t n p))))) (lbP st (sT (tok t n p))) else .inl (sT (tok t n p))) else lin2 t n (tok t n p) st := rfl
  have plain : ¬ (kT (tok t n p) = 119 ∧ bN t n (scF t n isBl (eT (tok t n p))) = 58) → (¬ gI M 605 6 = 0 → G 139 [some (.ref 605)] [] M) ∧ (gI M 605 6 = 0 → sp_X13_instructionLine [.ref 605] M (fun v M' => RX13_line_135_1 G K [some (.ref 605)] (v.toList ++ []) M')) := fun z => by
    rw [if_neg z] at el
    exact c_lin2 hc hW hK0 FrC.rf ⟨hA, hD, hB⟩ (Nat.le_refl p) el.symm (R := linS t n p st) (fun q st' M' a b c d e => h1 q st' M' a b c d e) h0
  have s0 := s_word hA.2.2.1 hA.2.2.2.1
  refine ⟨fun z => ?_, fun z => ?_⟩
  · exact plain (fun y => z (s0.mpr y.1))
  · have hk : kT (tok t n p) = 119 := s0.mp z
    have h7 : gI M 605 7 = nI (sT (tok t n p)) := hA.2.2.2.1.2.1
    have h8 : gI M 605 8 = nI (eT (tok t n p)) := hA.2.2.2.1.2.2.1 (by omega)
    rw [h8]
    refine c_over13 hW hA.2.1 t3 (rX13_line_7_4 hc hW ?_)
    have hso : scF t n isBl (eT (tok t n p)) ≤ n := scF_le t n isBl t3
    obtain ⟨q1, q2⟩ := at_R hA.2.1 (i := scF t n isBl (eT (tok t n p))) (by omega)
    have e58 : f_X13_at (nI (scF t n isBl (eT (tok t n p)))) M = 58 ↔ bN t n (scF t n isBl (eT (tok t n p))) = 58 := by
      rw [q2]
      unfold bN
      by_cases w : scF t n isBl (eT (tok t n p)) < n
      · rw [if_pos w, if_pos w]
        exact sg_eq (v := 58) (hA.2.1.2.2 _ w).2 (by decide)
      · rw [if_neg w, if_neg w]
        exact ⟨fun y => absurd y (by decide), fun y => absurd y (by decide)⟩
    rw [e58]
    refine ⟨q1, fun y => plain (fun w => y w.2), fun y => ?_⟩
    rw [if_pos ⟨hk, y⟩] at el
    have f0 : FrC liS M (uI M 605 10 (nI (sT (tok t n p)))) := FrC_uI (by unfold liS idS; omega)
    have no : ¬ (eT (tok t n p) - sT (tok t n p) ≤ 12 ∧ pB st ≠ 40 ∧ lkS t n (pB st) (pF st) (sT (tok t n p)) = none) → K none (m_X13_wrong (gI M 605 7) M) := fun g => by
      rw [if_neg g] at el
      rw [wr13 hA]
      exact h0 _ _ el (by omega) (f0.wf hW) f0 fp_g
    have e12 : (12 : Int32) < gI M 605 8 - gI M 605 7 ↔ 12 < eT (tok t n p) - sT (tok t n p) := by rw [h8, h7, pk_sub t2]; exact nI_ltI (a := 12) (by decide) (by omega)
    rw [e12]
    refine ⟨fun g => no (fun w => by omega), fun g => ?_⟩
    obtain ⟨w1, w2, w3⟩ := hA.2.2.1.2.2.1 hk
    rw [h7, h8, w2]
    refine c_label13 hW hA.2.1 hB w1 (rX13_line_38_5 hc hW ?_)
    obtain ⟨B1, B2, B3⟩ := hB
    cases hlk : lkS t n (pB st) (pF st) (sT (tok t n p)) with
    | some l =>
      have := lkR_lt _ _ _ hlk
      exact ⟨fun _ => no (fun w => by rw [hlk] at w; exact absurd w.2.2 (by simp)), fun w => absurd (nI_pos' (by omega)) w⟩
    | none =>
      refine ⟨fun w => absurd w (by decide), fun _ => ?_⟩
      have e40 : nI (pB st) = 40 ↔ pB st = 40 := nI_eq (b := 40) (by omega) (by decide)
      rw [B1, e40]
      refine ⟨fun h40 => ?_, fun h40 => no (fun w => w.2.1 h40)⟩
      rw [if_pos ⟨by omega, h40, hlk⟩] at el
      rw [nI_clamp (by omega), nI_1, h7, h8, hD.1]
      generalize hb : pB st = b at *
      have f1 : FrC (fun a j => ((a = 612 ∨ a = 613 ∨ a = 614) ∧ j = b) ∨ (a = 605 ∧ j = 15)) M (uI (uI (uI (uI M 612 b (nI (sT (tok t n p)))) 613 b (nI (eT (tok t n p)))) 614 b (nI (pD st))) 605 15 (nI (b + 1))) := (((FrC_uI (by omega)).tr (FrC_uI (by omega))).tr (FrC_uI (by omega))).tr (FrC_uI (by omega))
      have g12 : gI (uI (uI (uI (uI M 612 b (nI (sT (tok t n p)))) 613 b (nI (eT (tok t n p)))) 614 b (nI (pD st))) 605 15 (nI (b + 1))) 612 b = nI (sT (tok t n p)) := by rw [gI_uI, if_neg (by omega), gI_uI, if_neg (by omega), gI_uI, if_neg (by omega), gI_uI, if_pos ⟨rfl, rfl⟩]
      have g13 : gI (uI (uI (uI (uI M 612 b (nI (sT (tok t n p)))) 613 b (nI (eT (tok t n p)))) 614 b (nI (pD st))) 605 15 (nI (b + 1))) 613 b = nI (eT (tok t n p)) := by rw [gI_uI, if_neg (by omega), gI_uI, if_neg (by omega), gI_uI, if_pos ⟨rfl, rfl⟩]
      have g14 : gI (uI (uI (uI (uI M 612 b (nI (sT (tok t n p)))) 613 b (nI (eT (tok t n p)))) 614 b (nI (pD st))) 605 15 (nI (b + 1))) 614 b = nI (pD st) := by rw [gI_uI, if_neg (by omega), gI_uI, if_pos ⟨rfl, rfl⟩]
      have g15 : gI (uI (uI (uI (uI M 612 b (nI (sT (tok t n p)))) 613 b (nI (eT (tok t n p)))) 614 b (nI (pD st))) 605 15 (nI (b + 1))) 605 15 = nI (b + 1) := by rw [gI_uI, if_pos ⟨rfl, rfl⟩]
      generalize uI (uI (uI (uI M 612 b (nI (sT (tok t n p)))) 613 b (nI (eT (tok t n p)))) 614 b (nI (pD st))) 605 15 (nI (b + 1)) = M1 at f1 g12 g13 g14 g15 ⊢
      refine ⟨vpN (by omega) (by decide), vpN (by omega) (by decide), vpN (by omega) (by decide), c_nx13 hA f1 (fun j z => by omega) (fun j z => by omega) (by omega) (by omega) (fun M2 f2 hA2 le2 => rX13_line_71_28 hc hA2.1 ?_)⟩
      have hk2 := tok_58 (t := t) (n := n) y
      refine c_nx13 hA2 FrC.rf (fun j z => z.elim) (fun j z => z.elim) (by omega) (by omega) (S := fun _ _ => False) (fun M3 f3 hA3 le3 => rX13_line_71_30 hc hA3.1 ?_)
      have t23 := hA2.2.2.1.1
      have f13 : FrC (fun a j => (((a = 612 ∨ a = 613 ∨ a = 614) ∧ j = b) ∨ (a = 605 ∧ j = 15)) ∨ tkS a j) M M3 := ((f1.mono (fun a j z => Or.inl z)).tr (f2.mono (fun a j z => Or.inr z))).tr (f3.mono (fun a j z => Or.inr z))
      have fr3 : ∀ a j, ¬ tkS a j → gI M3 a j = gI M1 a j := fun a j z => by rw [f3.i z, f2.i z]
      refine c_lin2 (p0 := p) (st := lbP st (sT (tok t n p))) hc hW hK0 (f13.mono (fun a j z => by unfold tkS at z; unfold liS idS; omega)) ⟨hA3, ⟨?_, hD.2.1, ?_, hD.2.2.2.fr f13 (fun i hi => ⟨by unfold tkS; omega, by unfold tkS; omega, fun k hk => by unfold tkS; omega⟩) (fun u hu => ⟨by unfold tkS; omega, by unfold tkS; omega, by unfold tkS; omega⟩)⟩, ?_⟩ (by omega) el.symm (R := linS t n p st) (fun q st' M' a b c d e => h1 q st' M' a b c d e) h0
      · rw [f13.i (by unfold tkS; omega)]; exact hD.1
      · rw [f13.i (by unfold tkS; omega)]; exact hD.2.2.1
      · refine ⟨?_, ?_, fun l hl => ?_⟩
        · rw [fr3 _ _ (by unfold tkS; omega), g15]
          show nI (b + 1) = nI (pB st + 1)
          rw [hb]
        · show pB st + 1 ≤ 40
          omega
        · have hl : l < pB st + 1 := hl
          show gI M3 612 l = nI (up1 (pF st) (pB st) (sT (tok t n p)) l) ∧ gI M3 613 l = nI (scF t n isWd (up1 (pF st) (pB st) (sT (tok t n p)) l)) ∧ gI M3 614 l = nI (up1 (pA st) (pB st) (pD st) l) ∧ up1 (pF st) (pB st) (sT (tok t n p)) l < n
          by_cases e : l = b
          · rw [hb, e, up1_eq, up1_eq, fr3 _ _ (by unfold tkS; omega), fr3 _ _ (by unfold tkS; omega), fr3 _ _ (by unfold tkS; omega), g12, g13, g14, ← w2]
            exact ⟨rfl, rfl, rfl, w1⟩
          · rw [hb, up1_ne e, up1_ne e, f13.i (by unfold tkS; omega), f13.i (by unfold tkS; omega), f13.i (by unfold tkS; omega)]
            exact B3 l (by omega)
end
end RLINE2
