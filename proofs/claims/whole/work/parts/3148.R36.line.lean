section RLINE
section
variable {M M' : Mem} {K : RT} {t : Nat → Nat} {n : Nat} {x : TK} {st : PS} {d : Nat} {c : Nat → Nat → Int64}
theorem tok_sg {p q : Nat} (hq : q = 44 ∨ q = 58 ∨ q = 63) (h : kT (tok t n p) = q) : sT (tok t n p) < n ∧ t (sT (tok t n p)) = q := by
  unfold tok tokA at h ⊢
  generalize scF t n isBl p = s at h ⊢
  split at h <;> rename_i g1
  · have h : (101 : Nat) = q := h
    omega
  · rw [if_neg g1]
    split at h <;> rename_i g2
    · have h : (119 : Nat) = q := h
      omega
    · rw [if_neg g2]
      split at h <;> rename_i g3
      · have h : (110 : Nat) = q := h
        omega
      · rw [if_neg g3]
        split at h <;> rename_i g4
        · rw [if_pos g4]
          exact ⟨by show s < n; omega, h⟩
        · split at h
          · split at h
            · have h : (101 : Nat) = q := h
              omega
            · have h : (101 : Nat) = q := h
              omega
          · have h : (98 : Nat) = q := h
            omega
theorem tok_end {p : Nat} (h : kT (tok t n p) = 101) (ho : oT (tok t n p) = false) : sT (tok t n p) + 1 ≤ eT (tok t n p) := by
  unfold tok tokA at h ho ⊢
  generalize scF t n isBl p = s at h ho ⊢
  split at h <;> rename_i g1
  · rw [if_pos g1] at ho
    exact absurd (show true = false from ho) (by decide)
  · rw [if_neg g1] at ho ⊢
    split at h <;> rename_i g2
    · exact absurd (show (119 : Nat) = 101 from h) (by decide)
    · rw [if_neg g2] at ho ⊢
      split at h <;> rename_i g3
      · exact absurd (show (110 : Nat) = 101 from h) (by decide)
      · rw [if_neg g3] at ho ⊢
        split at h <;> rename_i g4
        · have h : t s = 101 := h
          omega
        · rw [if_neg g4] at ho ⊢
          split at h <;> rename_i g5
          · rw [if_pos g5] at ho ⊢
            have ge := scF_ge t n noLf s
            split at h <;> rename_i g6
            · rw [if_pos g6] at ho ⊢
              show s + 1 ≤ scF t n noLf s + 1
              omega
            · rw [if_neg g6] at ho
              exact absurd (show true = false from ho) (by decide)
          · exact absurd (show (98 : Nat) = 101 from h) (by decide)
theorem tok_58 {p : Nat} (h : bN t n (scF t n isBl p) = 58) : kT (tok t n p) = 58 := by
  unfold tok tokA
  generalize scF t n isBl p = s at h
  unfold bN at h
  by_cases w : s < n
  · rw [if_pos w] at h
    rw [if_neg (by omega), if_neg (by rw [h]; decide), if_neg (by rw [h]; intro z; exact z.elim (by decide) (fun y => absurd y.1 (by decide))), if_pos (by omega)]
    exact h
  · rw [if_neg w] at h
    exact absurd h (by decide)
theorem sgn13 {p q : Nat} (hq : q = 44 ∨ q = 58 ∨ q = 63) (h0 : RAt M t n (tok t n p)) : q_X13_isSign (nI q) M ∧ (P_X13_isSign (nI q) M ↔ kT (tok t n p) = q) := by
  obtain ⟨hW, hT, hx, hr, h10⟩ := h0
  have hn := hT.1
  have s2 : gI M 605 6 = 2 ↔ (kT (tok t n p) = 44 ∨ kT (tok t n p) = 58 ∨ kT (tok t n p) = 63) := by
    rw [hr.1]
    have := kT_srt hx
    exact (nI_eq (b := 2) (by omega) (by decide)).trans this.2.2.1
  unfold q_X13_isSign P_X13_isSign
  rw [s2, hr.2.1]
  refine ⟨fun z => ?_, ?_⟩
  · have := (tok_sg z rfl).1
    exact vpN (by omega) (by decide)
  · constructor
    · intro ⟨z1, z2⟩
      obtain ⟨a, b⟩ := tok_sg z1 rfl
      obtain ⟨d1, d2⟩ := hT.2.2 _ a
      rw [nI_clamp (by omega), d1, sg_eq d2 (by omega)] at z2
      rw [← b]; exact z2
    · intro z
      obtain ⟨a, b⟩ := tok_sg hq z
      obtain ⟨d1, d2⟩ := hT.2.2 _ a
      rw [nI_clamp (by omega), d1, sg_eq d2 (by omega)]
      exact ⟨by omega, b⟩
theorem mk_tab : ∀ o ∈ List.range 68, (((¬ (nI o).toInt64 < 1 ∧ ¬ (22 : Int64) < (nI o).toInt64) ∨ ((¬ (nI o).toInt64 < 24 ∧ ¬ (31 : Int64) < (nI o).toInt64) ∨ ((¬ (nI o).toInt64 < 34 ∧ ¬ (37 : Int64) < (nI o).toInt64) ∨ (nI o = 39 ∨ (¬ (nI o).toInt64 < 41 ∧ ¬ (43 : Int64) < (nI o).toInt64))))) ↔ mkT.getD o 0 = 1) := by decide +kernel
theorem mk_P {o : Nat} (ho : o < 68) : P_X13_isMasked (nI o) ↔ mkT.getD o 0 = 1 := mk_tab o (List.mem_range.mpr ho)
theorem in_f {S : Nat → Nat → Prop} (hf : FrC S M M') (hS : ∀ a j, S a j → idS a j) : FrC idS M M' := hf.mono hS
theorem tkS_in {a j : Nat} (h : tkS a j) : idS a j := by unfold tkS at h; unfold idS; omega
theorem in_pr {a j : Nat} (h : idS a j) : ¬ prS a := by unfold idS at h; unfold prS; omega
theorem PaR.tk {o k : Nat} {r : Nat → Int64} (hf : FrC tkS M M') (h : PaR M t n d c o k r) : PaR M' t n d c o k r := h.fr hf (fun a j z => by unfold tkS at z; omega)
/-- the instruction is there -/
theorem PaR.dr {o k : Nat} {r r' : Nat → Int64} (ho : o < 68) (hk : (opL o).length ≤ k) (h : PaR M t n d c o k r) (hf : FrC (fun a j => a = 611 ∧ j = d) M M') (hr : ∀ w, w ≠ 5 → r' w = r w) (hm : gI M' 611 d = (r' 5).toInt32) : DrR M' t n (d + 1) (up1 c d r') := by
  obtain ⟨p1, p2, p3, p4, p5, p6, p7, p8, p9, p10⟩ := h
  have hl : leadN o ≤ k := Nat.le_trans (lead_len ho) hk
  have e0 : r' 0 = lN o := by rw [hr 0 (by decide)]; exact p9
  have c0 : cn r' 0 = o := cn_lN e0 (by omega)
  have ecn : ∀ w, w ≠ 5 → cn r' w = cn r w := fun w hw => by unfold cn; rw [hr w hw]
  have l3 := leadN_le (o := o)
  have ect : fb_ct (ldB (up1 c d r')) d = fb_ct (ldB c) d := fb_ct_cong (fun k hk => by unfold ldB; rw [up1_ne (show k ≠ d by omega)])
  have eld : ldB (up1 c d r') d = decide (0 < leadN o) := by unfold ldB; rw [up1_eq, c0]
  refine ⟨by rw [hf.i (by omega)]; exact p1, by omega, ?_, fun i hi => ?_⟩
  · rw [hf.i (by omega), p3, fb_ct_succ, ect, eld]
    by_cases z : 0 < leadN o
    · rw [if_pos ⟨z, hl⟩, decide_eq_true z, if_pos rfl]
    · rw [if_neg (fun y => z y.1), decide_eq_false z, if_neg (by decide)]
  · by_cases e : i = d
    · subst e
      rw [ect, up1_eq]
      refine ⟨by rw [hf.i (by omega), c0]; exact p5, hm, fun k hk hk2 => ?_, fun z => ?_⟩
      · rw [c0] at hk2
        rw [hf.l (by omega), hr _ (by omega)]
        exact p7 k hk hk2
      · rw [c0] at z ⊢
        obtain ⟨q1, q2, q3, q4⟩ := p8 ⟨z, hl⟩
        have : ldV r' = cn r (leadN o) := by unfold ldV; rw [c0]; exact ecn _ (by omega)
        rw [this, hf.i (by omega), hf.i (by omega), hf.i (by omega)]
        exact ⟨q1, q2, q3, q4⟩
    · have := (p4.fr hf (fun i hi => ⟨by omega, by omega, fun k hk => by omega⟩) (fun u hu => ⟨by omega, by omega, by omega⟩)).up (r := r') i (by omega)
      exact this
theorem c_opsI13 {G : Nat → KT} {o p0 : Nat} {R : Nat ⊕ (TK × (Nat → Int64))} (hc : cloX13_instructionLine G K wT) (hW : Wf M) (hK0 : RK M) (ho : o < 68)
    (h1 : ∀ q r' M', R = .inr (tok t n q, r') → p0 ≤ q → FrC idS M M' → RAt M' t n (tok t n q) → DrR M' t n (d + 1) (up1 c d r') → K none M')
    (h0 : ∀ w M', R = .inl w → w ≤ n → Wf M' → FrC idS M M' → gI M' 605 10 = nI w → K none M') :
    ∀ j k : Nat, k + j = (opL o).length → ∀ p r M1, insA t n o (opsS t n o j k p r) = R → p0 ≤ p → FrC idS M M1 → RAt M1 t n (tok t n p) → PaR M1 t n d c o k r → G 95 [some (.ref 605), some (.int (nI o)), some (.int (nI d)), some (.int (nI (opL o).length)), some (.int (nI k))] [] M1 := by
  have hol := opLen4 ho
  have bad : ∀ (w : Nat) (M2 : Mem) (k : Nat), K none M2 → Wf M2 → gI M2 605 10 = nI w → w ≤ n → n ≤ 4000 → G 95 [some (.ref 605), some (.int (nI o)), some (.int (nI d)), some (.int (nI (opL o).length)), some (.int (nI k))] [] M2 := fun w M2 k hK hW2 g hw hn => by
    have e : (0 : Int32) ≤ gI M2 605 10 := by rw [g]; exact nI_pos' (by omega)
    have e160 : G 160 [some (.ref 605), some (.int (nI o)), some (.int (nI d)), some (.int (nI (opL o).length)), some (.int (nI k))] [] M2 := eX13_instructionLine_160 hc hW2 ⟨fun _ => hK, fun z => absurd e z⟩
    exact eX13_instructionLine_95 hc hW2 ⟨fun _ => e160, fun _ => ⟨fun _ => e160, fun z => absurd e z⟩⟩
  intro j
  induction j with
  | zero =>
    intro k hk p r M1 hR hp0 hf1 hA hP
    have hR : mskS t n o p r = R := hR
    obtain ⟨hW1, hT1, hx1, hr1, h10⟩ := hA
    have hA : RAt M1 t n (tok t n p) := ⟨hW1, hT1, hx1, hr1, h10⟩
    obtain ⟨s1, s2⟩ := sgn13 (q := 63) (by decide) hA
    have s1 : q_X13_isSign (63 : Int32) M1 := s1
    have s2 : P_X13_isSign (63 : Int32) M1 ↔ kT (tok t n p) = 63 := s2
    have plain : ¬ (mkT.getD o 0 = 1 ∧ kT (tok t n p) = 63) → K none M1 := fun z => by
      unfold mskS at hR
      rw [if_neg z] at hR
      exact h1 p r M1 hR.symm hp0 hf1 hA (hP.dr ho (by omega) FrC.rf (fun _ _ => rfl) (by rw [hP.2.2.2.2.2.1, hP.2.2.2.2.2.2.2.2.2]; rfl))
    refine eX13_instructionLine_95 hc hW1 ⟨fun _ => eX13_instructionLine_160 hc hW1 ?_, fun z => absurd (nI_le (by omega) (by omega)) z⟩
    rw [h10, mk_P ho, s2]
    refine ⟨fun z => absurd z (by decide), fun _ => ⟨fun z => plain (fun y => z y.1), fun z => ⟨s1, fun y => plain (fun w => y w.2), fun y => ?_⟩⟩⟩
    unfold mskS at hR
    rw [if_pos ⟨z, y⟩] at hR
    refine c_nx13 hA FrC.rf (fun j z => z.elim) (fun j z => z.elim) (by omega) (by omega) (S := fun _ _ => False) (fun M2 f2 hA2 le2 => rX13_instructionLine_183_1 hc hA2.1 ?_)
    have hP2 := hP.tk f2
    have f12 : FrC idS M M2 := hf1.tr (f2.mono (fun a j z => tkS_in z))
    have d100 := hP.2.1
    refine c_numbered13 (ch := 109) (m := 4) hA2 (by decide) (by decide) (fun hv => rX13_instructionLine_183_8 hc (fp_f.wf hA2.1) ⟨vpN d100 (by decide), ?_⟩) (fun v M3 hv v4 f3 hA3 => rX13_instructionLine_183_8 hc hA3.1 ⟨vpN d100 (by decide), ?_⟩)
    · rw [hv] at hR
      rw [nI_clamp (by omega)]
      have f3 : FrC idS M (uI (uI M2 605 10 (nI (sT (tok t n (eT (tok t n p)))))) 611 d 0) := (f12.tr (FrC_uI (by unfold idS; omega))).tr (FrC_uI (by unfold idS; omega))
      refine h0 _ _ hR.symm ?_ (f3.wf hW) f3 (by rw [gI_uI, if_neg (by omega), gI_uI, if_pos ⟨rfl, rfl⟩])
      have := hA2.2.2.1.1
      have := hA2.2.2.1.2.1
      omega
    · rw [hv] at hR
      rw [nI_clamp (by omega)]
      have f4 : FrC (fun a j => a = 611 ∧ j = d) M3 (uI M3 611 d (nI v)) := FrC_uI ⟨rfl, rfl⟩
      have le3 : p0 ≤ eT (tok t n (eT (tok t n p))) := by
        have a1 := hA.2.2.1.1
        have a2 := hA2.2.2.1.1
        have b := (tok_ok (t := t) (n := n) (p := p) (by
          rcases Nat.lt_or_ge n p with w | w
          · have := hA.2.2.1.2.1
            have hs : p ≤ sT (tok t n p) := by
              unfold tok tokA
              have := scF_ge t n isBl p
              rw [if_pos (by omega)]
              exact this
            omega
          · exact w) (fun j hj => (hT1.2.2 j hj).2)).2
        omega
      refine h1 _ (up1 r 5 (lN v)) _ hR.symm le3 ((f12.tr (f3.mono (fun a j z => tkS_in z))).tr (f4.mono (fun a j z => by unfold idS; omega))) (hA3.fr f4 (fun j z => by omega) (fun j z => by omega)) ((hP2.tk f3).dr ho (by omega) f4 (fun w hw => up1_ne hw) (by rw [gI_uI, if_pos ⟨rfl, rfl⟩, up1_eq, lN_toI]))
  | succ j ih =>
    intro k hk p r M1 hR hp0 hf1 hA hP
    have hn := hA.2.1.1
    have d100 := hP.2.1
    have lsk := hA.2.2.1
    have hps : p ≤ sT (tok t n p) ∧ p ≤ n := by
      rcases Nat.lt_or_ge n p with w | w
      · have hs : p ≤ sT (tok t n p) := by
          unfold tok tokA
          have := scF_ge t n isBl p
          rw [if_pos (by omega)]
          exact this
        have := lsk.1
        have := lsk.2.1
        omega
      · exact ⟨(tok_ok (t := t) (n := n) (p := p) w (fun j hj => (hA.2.1.2.2 j hj).2)).2, w⟩
    -- the operand at token y
    have opd : ∀ (y : TK) (M2 : Mem), p ≤ eT y → FrC idS M M2 → RAt M2 t n y → PaR M2 t n d c o k r → oneS t n o k p r = valS t o k r y → q_X13_letter (nI o) (nI k) M2 ∧ sp_X13_operand [.ref 605, .int (nI d), .int (nI k), .int (f_X13_letter (nI o) (nI k) M2)] M2 (fun v M' => RX13_instructionLine_140_7 G K [some (.ref 605), some (.int (nI o)), some (.int (nI d)), some (.int (nI (opL o).length)), some (.int (nI k))] (v.toList ++ []) M') := by
      intro y M2 hpy f2 hA2 hP2 e1
      obtain ⟨l1, l2⟩ := letter_is (hK0.fr f2 (fun a j z => in_pr z)) ho (show k < (opL o).length by omega)
      refine ⟨l1, ?_⟩
      rw [l2]
      have e1 : oneS t n o k p r = valA k r y (opT t (letN o k) y) := e1
      rw [opsS_eq, e1] at hR
      refine c_operand13 hA2 hP2 ho (by omega) (fun z => by omega) (fun M3 hW3 f3 hv g => rX13_instructionLine_140_7 hc hW3 ?_) (fun v M3 hv f3 hA3 hP3 => rX13_instructionLine_140_7 hc hA3.1 ?_)
      · rw [hv] at hR
        rw [nI_1]
        have hw : sT y ≤ n := Nat.le_trans hA2.2.2.1.1 hA2.2.2.1.2.1
        exact bad (sT y) M3 (k + 1) (h0 _ M3 hR.symm hw hW3 (f2.tr f3) g) hW3 g hw hn
      · rw [hv] at hR
        have hR : insA t n o (opsS t n o j (k + 1) (eT y) (up1 r (k + 1) v)) = R := hR
        rw [nI_1]
        exact ih (k + 1) (by omega) (eT y) _ M3 hR (by omega) (f2.tr f3) hA3 hP3
    refine eX13_instructionLine_95 hc hA.1 ?_
    rw [nI_leI (by omega) (by omega), hA.2.2.2.2]
    have ek : nI k ≤ 0 ↔ k = 0 := by
      have := nI_leI (a := k) (b := 0) (by omega) (by decide)
      exact this.trans (by omega)
    rw [ek]
    have at131 : (k = 0 ∨ (0 < k ∧ kT (tok t n p) = 44)) → G 131 [some (.ref 605), some (.int (nI o)), some (.int (nI d)), some (.int (nI (opL o).length)), some (.int (nI k))] [] M1 := fun hh => by
      refine eX13_instructionLine_131 hc hA.1 ?_
      rw [ek]
      refine ⟨fun z => opd _ M1 (by have := lsk.1; omega) hf1 hA hP (if_neg (by omega)), fun z => ?_⟩
      have g44 : kT (tok t n p) = 44 := by omega
      refine c_nx13 hA FrC.rf (fun j z => z.elim) (fun j z => z.elim) (by omega) (by omega) (S := fun _ _ => False) (fun M2 f2 hA2 le2 => rX13_instructionLine_136_1 hc hA2.1 ?_)
      refine opd _ M2 ?_ (hf1.tr (f2.mono (fun a j z => tkS_in z))) hA2 (hP.tk f2) ?_
      · have := lsk.1
        have := hA2.2.2.1.1
        omega
      · have e1 : oneS t n o k p r = if kT (tok t n p) = 44 then valS t o k r (tok t n (eT (tok t n p))) else .inl (sT (tok t n p)) := if_pos (by omega)
        rw [e1, if_pos g44]
    obtain ⟨s1, s2⟩ := sgn13 (q := 44) (by decide) hA
    have s1 : q_X13_isSign (44 : Int32) M1 := s1
    have s2 : P_X13_isSign (44 : Int32) M1 ↔ kT (tok t n p) = 44 := s2
    rw [s2]
    refine ⟨fun z => absurd z (by omega), fun _ => ⟨fun z => absurd z (by decide), fun _ => ⟨fun z => at131 (Or.inl z), fun z => ⟨s1, fun y => at131 (Or.inr ⟨by omega, y⟩), fun y => ?_⟩⟩⟩⟩
    rw [wr13 hA]
    have e1 : oneS t n o k p r = if kT (tok t n p) = 44 then valS t o k r (tok t n (eT (tok t n p))) else .inl (sT (tok t n p)) := if_pos (by omega)
    rw [if_neg y] at e1
    rw [opsS_eq, e1] at hR
    have hw : sT (tok t n p) ≤ n := Nat.le_trans lsk.1 lsk.2.1
    have f2 : FrC idS M1 (uI M1 605 10 (nI (sT (tok t n p)))) := FrC_uI (by unfold idS; omega)
    exact h0 _ _ hR.symm hw (f2.wf hA.1) (hf1.tr f2) fp_g
end
end RLINE
