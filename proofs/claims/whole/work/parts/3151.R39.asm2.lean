section RASM2
section
variable {M M' : Mem} {K : RT} {t : Nat → Nat} {n : Nat} {st : PS} {s : SG} {Fr : Mem → Nat → (Nat → Nat → Int64) → Prop}
/-- what has been read, with the labels' places -/
def DoneR (M : Mem) (d : Nat) (c : Nat → Nat → Int64) : Prop := ∀ k, k < d → gI M 609 k = nI (cn (c k) 0) ∧ gI M 611 k = (c k 5).toInt32 ∧ ∀ w, w < 4 → gL M 610 (4 * k + w) = c k (w + 1)
theorem c_lead104 {G : Nat → KT} {p : Nat} {o1 o3 : Option Value} (hc : cloX13_assemble G K wT) (hL : RLn M t n p st) (hI : PI t n st)
    (h1 : ∀ c M' o1 o2 o3, ldsS t n (pB st) (pF st) (pA st) (pD st) 0 (pC st) = .inr c → FrC (fun a _ => a = 610) M M' → DoneR M' (pD st) c → G 177 [some (.ref 605), o1, o2, o3] [] M')
    (h0 : ∀ w M' o1 o2 o3, ldsS t n (pB st) (pF st) (pA st) (pD st) 0 (pC st) = .inl w → w < n → FrC (fun a j => a = 610 ∨ (a = 605 ∧ j = 10)) M M' → gI M' 605 10 = nI w → G 177 [some (.ref 605), o1, o2, o3] [] M') :
    G 104 [some (.ref 605), o1, some (.int (nI 0)), o3] [] M := by
  obtain ⟨hA, ⟨D1, D2, D3, D4⟩, hB⟩ := hL
  have hn := hA.2.1.1
  have loop : ∀ j i, i + j = pD st → ∀ (c : Nat → Nat → Int64) (M2 : Mem) (o1 o3 : Option Value), ldsS t n (pB st) (pF st) (pA st) j i c = ldsS t n (pB st) (pF st) (pA st) (pD st) 0 (pC st) → (∀ k, i ≤ k → k < pD st → c k = pC st k) → FrC (fun a _ => a = 610) M M2 → DoneR M2 i c → (∀ k, i ≤ k → k < pD st → ∀ w, w < 4 → w + 1 ≠ leadN (cn (pC st k) 0) → gL M2 610 (4 * k + w) = pC st k (w + 1)) → G 104 [some (.ref 605), o1, some (.int (nI (fb_ct (ldB (pC st)) i))), o3] [] M2 := by
    intro j
    induction j with
    | zero =>
      intro i hi c M2 o1 o3 e hcc f hd hr
      have hi : i = pD st := by omega
      rw [hi] at hd ⊢
      refine eX13_assemble_104 hc (f.wf hA.1) ⟨fun _ => h1 c M2 _ _ _ e.symm f hd, fun z => absurd ?_ z⟩
      rw [f.i (by omega), D3]
      have := fb_ct_le (ldB (pC st)) (pD st)
      exact nI_le (Nat.le_refl _) (by omega)
    | succ j ih =>
      intro i hi c M2 o1 o3 e hcc f hd hr
      have ci := hcc i (Nat.le_refl _) (by omega)
      obtain ⟨a1, a2, a3, a4⟩ := D4 i (by omega)
      rw [ldsS_eq] at e
      have b1 : gI M2 609 i = nI (cn (c i) 0) := by rw [f.i (by omega), ci]; exact a1
      have b2 : gI M2 611 i = (c i 5).toInt32 := by rw [f.i (by omega), ci]; exact a2
      have step : ∀ x, fb_ct (ldB (pC st)) (i + 1) = fb_ct (ldB (pC st)) i + (if x = true then 1 else 0) ↔ (ldB (pC st) i = true ↔ x = true) := fun x => by
        rw [fb_ct_succ]
        cases ldB (pC st) i <;> cases x <;> simp
      by_cases hl : 0 < leadN (cn (c i) 0)
      · rw [if_pos hl] at e
        have hb : ldB (pC st) i = true := by unfold ldB; rw [← ci]; exact decide_eq_true hl
        have es : fb_ct (ldB (pC st)) (i + 1) = fb_ct (ldB (pC st)) i + 1 := by rw [fb_ct_succ, hb]; rfl
        have hm : fb_ct (ldB (pC st)) (i + 1) ≤ fb_ct (ldB (pC st)) (pD st) := fb_ct_mono _ (by omega)
        have hle := fb_ct_le (ldB (pC st)) (pD st)
        rw [← ci] at a4
        obtain ⟨c1, c2, c3, c4⟩ := a4 hl
        have l3 := leadN_le (o := cn (c i) 0)
        have rok := (hI.2.2.2 i (by omega)).ld (show n < 2 ^ 31 by omega)
        rw [← ci] at rok
        generalize hu : fb_ct (ldB (pC st)) i = u at es c1 c2 c3 ⊢
        have g10 : gI M2 605 10 = -1 := by rw [f.i (by omega)]; exact hA.2.2.2.2
        refine eX13_assemble_104 hc (f.wf hA.1) ?_
        rw [show gI M2 605 19 = nI (fb_ct (ldB (pC st)) (pD st)) by rw [f.i (by omega)]; exact D3, nI_leI (by omega) (by omega), g10, nI_clamp (by omega), show gI M2 615 u = nI (ldV (c i)) by rw [f.i (by omega)]; exact c1, show gI M2 616 u = nI (scF t n isWd (ldV (c i))) by rw [f.i (by omega)]; exact c2]
        have hT2 := hA.2.1.fr f (by omega) (fun j => by omega)
        have hB2 := hB.fr f (fun a j z => by omega)
        refine ⟨fun z => absurd z (by omega), fun _ => ⟨fun z => absurd z (by decide), fun _ => ⟨vpN (by omega) (by decide), vpN (by omega) (by decide), c_label13 (f.wf hA.1) hT2 hB2 c4 (rX13_assemble_119_9 hc (f.wf hA.1) ?_)⟩⟩⟩
        cases hlk : lkS t n (pB st) (pF st) (ldV (c i)) with
        | none =>
          rw [hlk] at e
          have e : (Sum.inl (ldV (c i)) : Nat ⊕ (Nat → Nat → Int64)) = _ := e
          refine ⟨fun w => absurd w (by decide), fun _ => ⟨vpN (by omega) (by decide), ?_⟩⟩
          rw [nI_clamp (by omega), show gI M2 615 u = nI (ldV (c i)) by rw [f.i (by omega)]; exact c1]
          have ew : m_X13_wrong (nI (ldV (c i))) M2 = uI M2 605 10 (nI (ldV (c i))) := by unfold m_X13_wrong; rw [g10, if_neg (by decide)]
          rw [ew]
          have f3 : FrC (fun a j => a = 610 ∨ (a = 605 ∧ j = 10)) M (uI M2 605 10 (nI (ldV (c i)))) := (f.mono (fun a j z => Or.inl z)).tr (FrC_uI (Or.inr ⟨rfl, rfl⟩))
          have fin : ∀ o1 o2 o3, G 177 [some (.ref 605), o1, o2, o3] [] (uI M2 605 10 (nI (ldV (c i)))) := fun o1 o2 o3 => h0 _ _ _ _ _ e.symm c4 f3 fp_g
          refine eX13_assemble_104 hc (f3.wf hA.1) ⟨fun _ => fin _ _ _, fun _ => ⟨fun _ => fin _ _ _, fun z => absurd ?_ z⟩⟩
          rw [fp_g]; exact nI_pos' (by omega)
        | some l =>
          rw [hlk] at e
          have ll := lkR_lt _ _ _ hlk
          have hpb := hB.2.1
          obtain ⟨d1, d2, d3, d4⟩ := hB2.2.2 l (by omega)
          have hla := (hI.2.2.1 l (by omega)).2.2
          have hd100 := hI.1
          have e617 : gI M2 617 u = nI (4 * i + (leadN (cn (c i) 0) - 1)) := by rw [f.i (by omega)]; exact c3
          have h400 : 4 * i + (leadN (cn (c i) 0) - 1) < 400 := by omega
          refine ⟨fun _ => ⟨vpN (by omega) (by decide), vpN (by omega) (by decide), ?_, ?_⟩, fun w => absurd (nI_pos' (by omega)) w⟩
          · rw [nI_clamp (show u < 2 ^ 31 by omega), e617]
            exact vpN h400 (by decide)
          · rw [nI_clamp (show u < 2 ^ 31 by omega), e617, nI_clamp (show 4 * i + (leadN (cn (c i) 0) - 1) < 2 ^ 31 by omega), nI_clamp (show l < 2 ^ 31 by omega), d3, nI_toL (by omega), nI_1, ← es]
            have f3 : FrC (fun a j => a = 610 ∧ j = 4 * i + (leadN (cn (c i) 0) - 1)) M2 (uL M2 610 (4 * i + (leadN (cn (c i) 0) - 1)) (lN (pA st l))) := FrC_uL ⟨rfl, rfl⟩
            refine ih (i + 1) (by omega) (up1 c i (up1 (c i) (leadN (cn (c i) 0)) (lN (pA st l)))) _ _ _ e (fun k hk hk2 => by rw [up1_ne (by omega)]; exact hcc k (by omega) hk2) (f.tr (f3.mono (fun a j z => z.1))) (fun k hk => ?_) (fun k hk hk2 w hw hw2 => ?_)
            · by_cases ek : k = i
              · subst ek
                rw [up1_eq]
                have e0 : cn (up1 (c k) (leadN (cn (c k) 0)) (lN (pA st l))) 0 = cn (c k) 0 := up1_cn (by omega)
                rw [e0, up1_ne (show 5 ≠ leadN (cn (c k) 0) by omega)]
                refine ⟨by rw [f3.i (by omega)]; exact b1, by rw [f3.i (by omega)]; exact b2, fun w hw => ?_⟩
                by_cases ew : w + 1 = leadN (cn (c k) 0)
                · have ew2 : 4 * k + w = 4 * k + (leadN (cn (c k) 0) - 1) := by omega
                  rw [ew2, gL_uL, if_pos ⟨rfl, rfl⟩, ew, up1_eq]
                · rw [up1_ne ew, f3.l (by omega), ci]
                  exact hr k (Nat.le_refl _) (by omega) w hw (by rw [← ci]; exact ew)
              · rw [up1_ne ek]
                obtain ⟨x1, x2, x3⟩ := hd k (by omega)
                exact ⟨by rw [f3.i (by omega)]; exact x1, by rw [f3.i (by omega)]; exact x2, fun w hw => by rw [f3.l (by omega)]; exact x3 w hw⟩
            · rw [f3.l (by omega)]
              exact hr k (by omega) hk2 w hw hw2
      · rw [if_neg hl] at e
        have hb : ldB (pC st) i = false := by unfold ldB; rw [← ci]; exact decide_eq_false hl
        have es : fb_ct (ldB (pC st)) (i + 1) = fb_ct (ldB (pC st)) i := by rw [fb_ct_succ, hb]; rfl
        rw [← es]
        refine ih (i + 1) (by omega) c M2 _ _ e (fun k hk hk2 => hcc k (by omega) hk2) f (fun k hk => ?_) (fun k hk hk2 => hr k (by omega) hk2)
        by_cases ek : k = i
        · subst ek
          exact ⟨b1, b2, fun w hw => by rw [ci]; exact hr k (Nat.le_refl _) (by omega) w hw (by rw [← ci]; omega)⟩
        · exact hd k (by omega)
  exact loop (pD st) 0 (Nat.zero_add _) (pC st) M o1 o3 rfl (fun _ _ _ => rfl) FrC.rf (fun k hk => absurd hk (Nat.not_lt_zero k)) (fun k _ hk w hw hw2 => (D4 k hk).2.2.1 w hw hw2)
/-- the copy -/
theorem c_copy201 {G : Nat → KT} {d : Nat} {c : Nat → Nat → Int64} (hc : cloX13_assemble G K wT) (hW : Wf M) (hd : d ≤ 100) (h11 : gI M 605 11 = nI d) (hD : DoneR M d c)
    (h : ∀ M' o1 o2 o3, FrC (fun a _ => a = 621 ∨ a = 622 ∨ a = 623) M M' → RPr M' 621 622 623 d c → sp_X13_asAssembled [.ref 605] (uI M' 605 32 (gI M' 605 15)) (fun v M' => RX13_assemble_272_5 G K [some (.ref 605), o1, o2, o3] (v.toList ++ []) M')) :
    ∀ o1 o3, G 201 [some (.ref 605), o1, some (.int (nI 0)), o3] [] M := by
  have loop : ∀ f p : Nat, p + f = d → ∀ M1 (o1 o3 : Option Value), FrC (fun a _ => a = 621 ∨ a = 622 ∨ a = 623) M M1 → RPr M1 621 622 623 p c → G 201 [some (.ref 605), o1, some (.int (nI p)), o3] [] M1 := by
    intro f
    induction f with
    | zero =>
      intro p hp M1 o1 o3 fx hp1
      have hp : p = d := by omega
      subst hp
      refine eX13_assemble_201 hc (fx.wf hW) ⟨fun _ => h M1 _ _ _ fx hp1, fun z => absurd (by rw [fx.i (by omega), h11]; exact nI_le (Nat.le_refl _) (by omega)) z⟩
    | succ f ih =>
      intro p hp M1 o1 o3 fx hp1
      refine eX13_assemble_201 hc (fx.wf hW) ?_
      rw [show gI M1 605 11 = nI d by rw [fx.i (by omega)]; exact h11]
      refine ⟨fun z => absurd ((nI_leI (a := d) (by omega) (by omega)).mp z) (by omega), fun _ => ?_⟩
      obtain ⟨d1, d2, d3⟩ := hD p (by omega)
      have g1 : gI M1 609 p = nI (cn (c p) 0) := by rw [fx.i (by omega)]; exact d1
      have g3 : gI M1 611 p = (c p 5).toInt32 := by rw [fx.i (by omega)]; exact d2
      rw [nI_clamp (by omega), g1, g3]
      have f2 : FrC (fun a j => (a = 621 ∨ a = 623) ∧ j = p) M1 (uI (uI M1 621 p (nI (cn (c p) 0))) 623 p ((c p 5).toInt32)) := (FrC_uI ⟨Or.inl rfl, rfl⟩).tr (FrC_uI ⟨Or.inr rfl, rfl⟩)
      have h1 : gI (uI (uI M1 621 p (nI (cn (c p) 0))) 623 p ((c p 5).toInt32)) 621 p = nI (cn (c p) 0) ∧ gI (uI (uI M1 621 p (nI (cn (c p) 0))) 623 p ((c p 5).toInt32)) 623 p = (c p 5).toInt32 := ⟨by rw [gI_uI, if_neg (by omega), gI_uI, if_pos ⟨rfl, rfl⟩], by rw [gI_uI, if_pos ⟨rfl, rfl⟩]⟩
      generalize uI (uI M1 621 p (nI (cn (c p) 0))) 623 p ((c p 5).toInt32) = M2 at f2 h1 ⊢
      have hW2 := f2.wf (fx.wf hW)
      refine ⟨vpN (by omega) (by decide), vpN (by omega) (by decide), vpN (by omega) (by decide), vpN (by omega) (by decide), ?_⟩
      have inner : ∀ f q : Nat, q + f = 4 → ∀ M3, Wf M3 → FrC (fun a j => a = 622 ∧ 4 * p ≤ j ∧ j < 4 * p + 4) M2 M3 → (∀ k, k < q → gL M3 622 (4 * p + k) = c p (k + 1)) → G 235 [some (.ref 605), o1, some (.int (nI p)), some (.int (nI q))] [] M3 := by
        intro f'
        induction f' with
        | zero =>
          intro q hq M3 hW3 f3 hk
          have hq : q = 4 := by omega
          subst hq
          refine eX13_assemble_235 hc hW3 ⟨fun _ => ?_, fun z => absurd (by decide) z⟩
          rw [nI_1]
          refine ih (p + 1) (by omega) _ _ _ ((fx.tr (f2.mono (fun a j z => by omega))).tr (f3.mono (fun a j z => by omega))) (fun i hi => ?_)
          by_cases e : i = p
          · subst e
            exact ⟨by rw [f3.i (by omega)]; exact h1.1, fun k hk4 => hk k hk4, by rw [f3.i (by omega)]; exact h1.2⟩
          · obtain ⟨u1, u2, u3⟩ := hp1 i (by omega)
            exact ⟨by rw [f3.i (by omega), f2.i (by omega)]; exact u1, fun k hk4 => by rw [f3.l (by omega), f2.l (by omega)]; exact u2 k hk4, by rw [f3.i (by omega), f2.i (by omega)]; exact u3⟩
        | succ f' ih' =>
          intro q hq M3 hW3 f3 hk
          refine eX13_assemble_235 hc hW3 ⟨fun z => absurd ((nI_leI (a := 4) (by decide) (by omega)).mp z) (by omega), fun _ => ?_⟩
          have e : (4 : Int32) * nI p + nI q = nI (4 * p + q) := by rw [show (4 : Int32) = nI 4 from rfl, pk_mul, nI_add]
          have g2 : gL M3 610 (4 * p + q) = c p (q + 1) := by rw [f3.l (by omega), f2.l (by omega), fx.l (by omega)]; exact d3 q (by omega)
          rw [e, nI_clamp (by omega), g2, nI_1]
          have f4 : FrC (fun a j => a = 622 ∧ j = 4 * p + q) M3 (uL M3 622 (4 * p + q) (c p (q + 1))) := FrC_uL ⟨rfl, rfl⟩
          refine ⟨vpN (by omega) (by decide), vpN (by omega) (by decide), ih' (q + 1) (by omega) _ (f4.wf hW3) (f3.tr (f4.mono (fun a j z => by omega))) (fun k hk1 => ?_)⟩
          by_cases e : k = q
          · subst e; rw [gL_uL, if_pos ⟨rfl, rfl⟩]
          · rw [f4.l (by omega)]; exact hk k (by omega)
      exact inner 4 0 rfl M2 hW2 FrC.rf (fun k hk => absurd hk (Nat.not_lt_zero k))
  intro o1 o3
  exact loop d 0 (by omega) M _ _ FrC.rf (fun i hi => absurd hi (Nat.not_lt_zero i))
def asF0 (a j : Nat) : Prop := liS a j ∨ (a = 605 ∧ (j = 2 ∨ j = 4 ∨ j = 5))
theorem asF0_ {a j : Nat} (h : asF0 a j) : (a = 605 ∧ ((2 ≤ j ∧ j ≤ 11 ∧ j ≠ 3) ∨ j = 15 ∨ j = 19)) ∨ (609 ≤ a ∧ a ≤ 617) := by
  unfold asF0 liS idS at h
  omega
theorem b_assemble {x : Int32} (hFr : FrOK Fr) (hW : Wf M) (hI : RI Fr M s) (h : ∀ M', Wf M' → FrC rfS M M' → RI Fr M' (sAsm x s).2 → gI M' 605 2 = 0 → K (some (.int (sAsm x s).1)) M') : sp_X13_assemble [.ref 605, .int x] M K := by
  obtain ⟨k1, k2, k3, k4⟩ := hI.end0 hFr hW (x := 0)
  obtain ⟨⟨o1, ⟨p1, p2, p3, p4, ⟨p5, p6, p7, p8⟩, p9, p10⟩, o3, o4, o5, o6⟩, hX⟩ := hI
  have hI : RI Fr M s := ⟨⟨o1, ⟨p1, p2, p3, p4, ⟨p5, p6, p7, p8⟩, p9, p10⟩, o3, o4, o5, o6⟩, hX⟩
  have hh := o1.1
  unfold sAsm at h
  refine wX13_assemble hW (fun {G} hc => ?_)
  have ein : P_X13_in x.toInt64 0 ((gI M 605 4).toInt64) ↔ inI x ((gTp s).1 + 1) := by
    rw [o1.2.1]
    refine in_N (by omega) ?_
    rw [nI_toL (by omega), l6_int (by omega)]
    omega
  rw [ein]
  refine ⟨fun hx => ?_, fun z => by rw [iT_f z] at h; exact h _ k1 k2 k3 k4⟩
  rw [iT_t hx] at h
  have hlt := inI_lt hx
  have ex : x = nI (iv x) := inI_nI hx
  generalize iv x = n at h hlt ex
  subst ex
  have f0 : FrC asF0 M (uI (uI (uI (uI (uI (uI (uI (uI (uI M 605 2 0) 605 5 (nI n)) 605 4 0) 605 10 (-1)) 605 11 0) 605 15 0) 605 19 0) 605 8 0) 605 9 0) := by
    have w : ∀ (M1 : Mem) (j : Nat) (y : Int32), FrC asF0 M M1 → ((2 ≤ j ∧ j ≤ 11 ∧ j ≠ 3) ∨ j = 15 ∨ j = 19) → FrC asF0 M (uI M1 605 j y) := fun M1 j y f hj => f.tr (FrC_uI (by unfold asF0 liS idS; omega))
    exact w _ _ _ (w _ _ _ (w _ _ _ (w _ _ _ (w _ _ _ (w _ _ _ (w _ _ _ (w _ _ _ (w _ _ _ FrC.rf (by omega)) (by omega)) (by omega)) (by omega)) (by omega)) (by omega)) (by omega)) (by omega)) (by omega)
  have z2 : gI (uI (uI (uI (uI (uI (uI (uI (uI (uI M 605 2 0) 605 5 (nI n)) 605 4 0) 605 10 (-1)) 605 11 0) 605 15 0) 605 19 0) 605 8 0) 605 9 0) 605 2 = 0 := by simp [gI_uI]
  have z4 : gI (uI (uI (uI (uI (uI (uI (uI (uI (uI M 605 2 0) 605 5 (nI n)) 605 4 0) 605 10 (-1)) 605 11 0) 605 15 0) 605 19 0) 605 8 0) 605 9 0) 605 4 = 0 := by simp [gI_uI]
  have z5 : gI (uI (uI (uI (uI (uI (uI (uI (uI (uI M 605 2 0) 605 5 (nI n)) 605 4 0) 605 10 (-1)) 605 11 0) 605 15 0) 605 19 0) 605 8 0) 605 9 0) 605 5 = nI n := by simp [gI_uI]
  have z8 : gI (uI (uI (uI (uI (uI (uI (uI (uI (uI M 605 2 0) 605 5 (nI n)) 605 4 0) 605 10 (-1)) 605 11 0) 605 15 0) 605 19 0) 605 8 0) 605 9 0) 605 8 = nI 0 := by simp [gI_uI]; rfl
  have z9 : gI (uI (uI (uI (uI (uI (uI (uI (uI (uI M 605 2 0) 605 5 (nI n)) 605 4 0) 605 10 (-1)) 605 11 0) 605 15 0) 605 19 0) 605 8 0) 605 9 0) 605 9 = 0 := by simp [gI_uI]
  have z10 : gI (uI (uI (uI (uI (uI (uI (uI (uI (uI M 605 2 0) 605 5 (nI n)) 605 4 0) 605 10 (-1)) 605 11 0) 605 15 0) 605 19 0) 605 8 0) 605 9 0) 605 10 = -1 := by simp [gI_uI]
  have z11 : gI (uI (uI (uI (uI (uI (uI (uI (uI (uI M 605 2 0) 605 5 (nI n)) 605 4 0) 605 10 (-1)) 605 11 0) 605 15 0) 605 19 0) 605 8 0) 605 9 0) 605 11 = nI 0 := by simp [gI_uI]; rfl
  have z15 : gI (uI (uI (uI (uI (uI (uI (uI (uI (uI M 605 2 0) 605 5 (nI n)) 605 4 0) 605 10 (-1)) 605 11 0) 605 15 0) 605 19 0) 605 8 0) 605 9 0) 605 15 = nI 0 := by simp [gI_uI]; rfl
  have z19 : gI (uI (uI (uI (uI (uI (uI (uI (uI (uI M 605 2 0) 605 5 (nI n)) 605 4 0) 605 10 (-1)) 605 11 0) 605 15 0) 605 19 0) 605 8 0) 605 9 0) 605 19 = nI 0 := by simp [gI_uI]; rfl
  generalize uI (uI (uI (uI (uI (uI (uI (uI (uI M 605 2 0) 605 5 (nI n)) 605 4 0) 605 10 (-1)) 605 11 0) 605 15 0) 605 19 0) 605 8 0) 605 9 0 = M0 at f0 z2 z4 z5 z8 z9 z10 z11 z15 z19 ⊢
  have hW0 := f0.wf hW
  generalize ht : (gTp s).2 = t at h
  have h256 : ∀ j, j < n → t j < 256 := fun j hj => by rw [← ht]; exact (o1.2.2 j (by omega)).2
  have hT0 : RdR M0 t n := ⟨by omega, z5, fun j hj => by
    rw [f0.i (fun z => by have := asF0_ z; omega), ← ht]
    exact o1.2.2 j (by omega)⟩
  have hK0 : RK M0 := p1.fr f0 (fun a j z => by have := asF0_ z; unfold prS; omega)
  -- where the text has a fault
  have bad : ∀ (w : Nat) (M2 : Mem) (o1' o2' o3' : Option Value), asmS t n = .inl w → w ≤ n → FrC liS M0 M2 → gI M2 605 10 = nI w → G 177 [some (.ref 605), o1', o2', o3'] [] M2 := by
    intro w M2 o1' o2' o3' e hw f2 g10
    have f02 : FrC asF0 M M2 := f0.tr (f2.mono (fun a j z => Or.inl z))
    have nl : ∀ j, j = 2 ∨ j = 4 → ¬ liS 605 j := fun j hj => by unfold liS idS; omega
    have hf : ∀ a j, ¬ ((a = 605 ∧ ((2 ≤ j ∧ j ≤ 11 ∧ j ≠ 3) ∨ j = 15 ∨ j = 19)) ∨ (609 ≤ a ∧ a ≤ 617)) → ¬ asF0 a j := fun a j z y => z (asF0_ y)
    rw [e] at h
    have h : ∀ M', Wf M' → FrC rfS M M' → RI Fr M' (wTp s (0, t)) → gI M' 605 2 = 0 → K (some (.int ((-1 : Int32) - nI w))) M' := h
    refine eX13_assemble_177 hc (f2.wf hW0) ⟨fun z => absurd z (by rw [g10]; exact nI_pos (by omega)), fun _ => ?_⟩
    rw [g10]
    refine h M2 (f2.wf hW0) (f02.mono (fun a j z => by have := asF0_ z; unfold rfS; omega)) ⟨⟨⟨Nat.zero_le _, by rw [f2.i (nl 4 (by omega))]; exact z4, fun j hj => absurd hj (Nat.not_lt_zero j)⟩, ?_, o3.fr f02 (fun j => hf _ _ (by omega)), o4.fr f02 (fun j => hf _ _ (by omega)), o5.fr f02 (fun a j z => by have := asF0_ z; unfold rKpc; omega), o6.fr hFr f02 (hf _ _ (by omega)) (fun a j z => by have := asF0_ z; omega)⟩, hX.fr f02 (fun a j z => by have := asF0_ z; unfold rXc; omega)⟩ (by rw [f2.i (nl 2 (by omega))]; exact z2)
    exact RPg.fr (s := s) f02 (fun a j z => by have := asF0_ z; unfold rPgc prS; omega) ⟨p1, p2, p3, p4, ⟨p5, p6, p7, p8⟩, p9, p10⟩
  have bad104 : ∀ (w : Nat) (M2 : Mem) (o1' o3' : Option Value), asmS t n = .inl w → w ≤ n → FrC liS M0 M2 → gI M2 605 10 = nI w → G 104 [some (.ref 605), o1', some (.int 0), o3'] [] M2 := fun w M2 o1' o3' e hw f2 g10 =>
    eX13_assemble_104 hc (f2.wf hW0) ⟨fun _ => bad w M2 _ _ _ e hw f2 g10, fun _ => ⟨fun _ => bad w M2 _ _ _ e hw f2 g10, fun z => absurd (by rw [g10]; exact nI_pos' (by omega)) z⟩⟩
  -- where all lines are read
  have lead : ∀ (p : Nat) (st : PS) (M1 : Mem) (o1' o3' : Option Value), lnsS t n (n + 1) 0 ps0 = .inr st → PI t n st → FrC liS M0 M1 → RLn M1 t n p st → G 104 [some (.ref 605), o1', some (.int 0), o3'] [] M1 := by
    intro p st M1 o1' o3' e hP f1 hL
    have ea : asmS t n = asmA t n st (ldsS t n (pB st) (pF st) (pA st) (pD st) 0 (pC st)) := by rw [asmS_eq, e]; rfl
    refine c_lead104 hc hL hP (fun c M2 o1'' o2'' o3'' e2 f2 hD => ?_) (fun w M2 o1'' o2'' o3'' e2 hw f2 g10 => bad w M2 _ _ _ (by rw [ea, e2]; rfl) (by omega) (f1.tr (f2.mono (fun a j z => by unfold liS idS; omega))) g10)
    rw [ea, e2] at h
    have ea2 : asmS t n = .inr (pD st, c, pB st, pF st, pA st) := by rw [ea, e2]; rfl
    obtain ⟨v1, v2, v3⟩ := asm_ok (show n < 2 ^ 31 by omega) ea2
    have h : ∀ M', Wf M' → FrC rfS M M' → RI Fr M' (pAsm s (pD st, c, pB st, pF st, pA st)) → gI M' 605 2 = 0 → K (some (.int (nI (pD st)))) M' := h
    have f12 : FrC liS M0 M2 := f1.tr (f2.mono (fun a j z => by unfold liS idS; omega))
    have g10 : gI M2 605 10 = -1 := by rw [f2.i (by omega)]; exact hL.1.2.2.2.2
    have g11 : gI M2 605 11 = nI (pD st) := by rw [f2.i (by omega)]; exact hL.2.1.1
    have g15 : gI M2 605 15 = nI (pB st) := by rw [f2.i (by omega)]; exact hL.2.2.1
    refine eX13_assemble_177 hc (f12.wf hW0) ⟨fun _ => ?_, fun z => absurd (by rw [g10]; decide) z⟩
    rw [g11]
    have f3 : FrC (fun a j => a = 605 ∧ j = 27) M2 (uI M2 605 27 (nI (pD st))) := FrC_uI ⟨rfl, rfl⟩
    have g27 : gI (uI M2 605 27 (nI (pD st))) 605 27 = nI (pD st) := by rw [gI_uI, if_pos ⟨rfl, rfl⟩]
    generalize uI M2 605 27 (nI (pD st)) = M3 at f3 g27 ⊢
    refine c_copy201 hc (f3.wf (f12.wf hW0)) v1 (by rw [f3.i (by omega)]; exact g11) (c := c) (fun k hk => ?_) (fun M4 o1a o2a o3a f4 hP4 => ?_) _ _
    · obtain ⟨x1, x2, x3⟩ := hD k hk
      exact ⟨by rw [f3.i (by omega)]; exact x1, by rw [f3.i (by omega)]; exact x2, fun w hw => by rw [f3.l (by omega)]; exact x3 w hw⟩
    · have g15' : gI M4 605 15 = nI (pB st) := by rw [f4.i (by omega), f3.i (by omega)]; exact g15
      rw [g15']
      have f5 : FrC (fun a j => a = 605 ∧ j = 32) M4 (uI M4 605 32 (nI (pB st))) := FrC_uI ⟨rfl, rfl⟩
      have g32 : gI (uI M4 605 32 (nI (pB st))) 605 32 = nI (pB st) := by rw [gI_uI, if_pos ⟨rfl, rfl⟩]
      generalize uI M4 605 32 (nI (pB st)) = M5 at f5 g32 ⊢
      have f25 : FrC (fun a j => (a = 605 ∧ (j = 27 ∨ j = 32)) ∨ a = 621 ∨ a = 622 ∨ a = 623) M2 M5 := ((f3.mono (fun a j z => by omega)).tr (f4.mono (fun a j z => by omega))).tr (f5.mono (fun a j z => by omega))
      have f05 : FrC (fun a j => asF0 a j ∨ ((a = 605 ∧ (j = 27 ∨ j = 32)) ∨ a = 621 ∨ a = 622 ∨ a = 623)) M M5 := ((f0.mono (fun a j z => Or.inl z)).tr (f12.mono (fun a j z => Or.inl (Or.inl z)))).tr (f25.mono (fun a j z => Or.inr z))
      have hf : ∀ a j, (asF0 a j ∨ ((a = 605 ∧ (j = 27 ∨ j = 32)) ∨ a = 621 ∨ a = 622 ∨ a = 623)) → (a = 605 ∧ ((2 ≤ j ∧ j ≤ 11 ∧ j ≠ 3) ∨ j = 15 ∨ j = 19 ∨ j = 27 ∨ j = 32)) ∨ (609 ≤ a ∧ a ≤ 617) ∨ (621 ≤ a ∧ a ≤ 623) := fun a j z => by
        rcases z with z | z
        · have := asF0_ z; omega
        · omega
      have hW5 := f05.wf hW
      have hX5 := hX.fr f05 (fun a j z => by have := hf a j z; unfold rXc; omega)
      refine c_asA13 hW5 hX5 ⟨by rw [f5.i (by omega), f4.i (by omega)]; exact g27, v1⟩ (hP4.fr f5 (fun j => by omega) (fun j => by omega) (fun j => by omega)) (fun M6 hW6 f6 q1 q2 q3 q4 q5 hX6 zz2 => rX13_assemble_272_5 hc hW6 ?_)
      rw [q2]
      have g5 : gI M5 605 4 = 0 := by
        rw [f25.i (by omega), f12.i (by unfold liS idS; omega)]; exact z4
      refine h M6 hW6 ((f05.mono (fun a j z => by have := hf a j z; unfold rfS; omega)).tr (f6.mono (fun a j z => by have := asa_ z; unfold rfS; omega))) ⟨⟨⟨Nat.zero_le _, ?_, fun j hj => absurd hj (Nat.not_lt_zero j)⟩, ⟨?_, q1, ?_, ⟨v1, v1, v2⟩, ⟨q2, ?_, q3, ?_⟩, v3, v3⟩, fun i hi => q4 i hi, ?_, ?_, ⟨Or.inl q5, fun z => by rw [q5] at z; exact absurd z (by decide)⟩⟩, hX6⟩ zz2
      · rw [f6.i (fun z => by have := asa_ z; omega)]; exact g5
      · exact fun o ho => by
          rw [f6.l (fun z => by have := asa_ z; omega), f6.l (fun z => by have := asa_ z; omega), f05.l (fun z => by have := hf _ _ z; omega), f05.l (fun z => by have := hf _ _ z; omega)]
          exact p1 o ho
      · exact (hP4.fr f5 (fun j => by omega) (fun j => by omega) (fun j => by omega)).fr f6 (fun j z => by have := asa_ z; omega) (fun j z => by have := asa_ z; omega) (fun j z => by have := asa_ z; omega)
      · rw [f6.i (fun z => by have := asa_ z; omega), f5.i (by omega), f4.i (by omega)]; exact g27
      · rw [f6.i (fun z => by have := asa_ z; omega)]; exact g32
      · exact (o4.fr f05 (fun j z => by have := hf _ _ z; omega)).fr f6 (fun j z => by have := asa_ z; omega)
      · exact (o5.fr f05 (fun a j z => by have := hf _ _ z; unfold rKpc; omega)).fr f6 (fun a j z => by have := asa_ z; unfold rKpc; omega)
  -- line by line
  have loop : ∀ (f p : Nat) (st : PS) (M1 : Mem) (o1' o2' o3' : Option Value), n + 1 ≤ f + p → lnsS t n f p st = lnsS t n (n + 1) 0 ps0 → PI t n st → FrC liS M0 M1 → RLn M1 t n p st → G 67 [some (.ref 605), o1', o2', o3'] [] M1 := by
    intro f
    induction f with
    | zero =>
      intro p st M1 o1' o2' o3' hf e hP f1 hL
      have := tok_ge hL.1
      omega
    | succ f ih =>
      intro p st M1 o1' o2' o3' hf e hP f1 hL
      rw [lnsS_eq] at e
      refine eX13_assemble_67 hc hL.1.1 ?_
      rw [hL.1.2.2.2.2]
      refine ⟨fun z => absurd z (by decide), fun _ => c_line13 (hK0.fr f1 (fun a j z => li_pr z)) hL (fun q st' M2 e2 hq hk f2 hL2 => rX13_assemble_74_1 hc hL2.1.1 ?_) (fun w M2 e2 hw hW2 f2 g10 => rX13_assemble_74_1 hc hW2 ?_)⟩
      · rw [e2] at e
        have hP2 := linS_ok hP e2
        have f12 := f1.tr f2
        by_cases ov : oT (tok t n q) = true
        · have e : (Sum.inr st' : Nat ⊕ PS) = lnsS t n (n + 1) 0 ps0 := by
            have : (if oT (tok t n q) = true then Sum.inr st' else lnsS t n f (eT (tok t n q)) st') = lnsS t n (n + 1) 0 ps0 := e
            rw [if_pos ov] at this
            exact this
          refine ⟨fun z => ?_, fun _ => lead q st' M2 _ _ e.symm hP2 f12 hL2⟩
          rw [hL2.1.2.2.2.1.2.2.2, ov] at z
          exact absurd z (by decide)
        · have e : lnsS t n f (eT (tok t n q)) st' = lnsS t n (n + 1) 0 ps0 := by
            have : (if oT (tok t n q) = true then Sum.inr st' else lnsS t n f (eT (tok t n q)) st') = lnsS t n (n + 1) 0 ps0 := e
            rw [if_neg ov] at this
            exact this
          have ov : oT (tok t n q) = false := by simpa using ov
          have tg := tok_ge hL2.1
          have te := tok_end hk ov
          refine ⟨fun _ => ⟨fun z => absurd z (by rw [hL2.1.2.2.2.2]; decide), fun _ => ?_⟩, fun z => absurd (by rw [hL2.1.2.2.2.1.2.2.2, ov]; rfl) z⟩
          refine c_next13 hL2.1.1 hL2.1.2.1 tg.2.2.1 (hL2.1.2.2.2.1.2.2.1 (by omega)) (by rw [hL2.1.2.2.2.1.2.2.2, ov]; rfl) (fun M3 hW3 f3 tx => rX13_assemble_95_1 hc hW3 ?_)
          obtain ⟨a, b⟩ := tok_ok (t := t) (n := n) (p := eT (tok t n q)) tg.2.2.1 h256
          refine ih (eT (tok t n q)) st' M3 _ _ _ (by omega) e hP2 (f12.tr (f3.mono (fun a j z => by unfold tkS at z; unfold liS idS; omega))) ⟨⟨hW3, hL2.1.2.1.tk f3, a, tx, by rw [f3.i (by unfold tkS; omega)]; exact hL2.1.2.2.2.2⟩, ⟨?_, hL2.2.1.2.1, ?_, hL2.2.1.2.2.2.fr f3 (fun i hi => ⟨by unfold tkS; omega, by unfold tkS; omega, fun k hk => by unfold tkS; omega⟩) (fun u hu => ⟨by unfold tkS; omega, by unfold tkS; omega, by unfold tkS; omega⟩)⟩, hL2.2.2.fr f3 (fun a j z => by unfold tkS at z; omega)⟩
          · rw [f3.i (by unfold tkS; omega)]; exact hL2.2.1.1
          · rw [f3.i (by unfold tkS; omega)]; exact hL2.2.1.2.2.1
      · rw [e2] at e
        have e : (Sum.inl w : Nat ⊕ PS) = lnsS t n (n + 1) 0 ps0 := e
        have ea : asmS t n = .inl w := by rw [asmS_eq, ← e]; rfl
        have f12 := f1.tr f2
        have b := fun o1 o3 => bad104 w M2 o1 o3 ea hw f12 g10
        refine ⟨fun _ => ⟨fun _ => eX13_assemble_67 hc hW2 ⟨fun _ => b _ _, fun z => absurd ?_ z⟩, fun z => absurd ?_ z⟩, fun _ => b _ _⟩
        · rw [g10]; exact nI_pos' (by omega)
        · rw [g10]; exact nI_pos' (by omega)
  refine c_next13 hW0 hT0 (Nat.zero_le n) z8 z9 (fun M1 hW1 f1 tx => rX13_assemble_23_25 hc hW1 ?_)
  obtain ⟨a, b⟩ := tok_ok (t := t) (n := n) (p := 0) (Nat.zero_le n) h256
  refine loop (n + 1) 0 ps0 M1 _ _ _ (by omega) rfl PI0 (f1.mono (fun a j z => by unfold tkS at z; unfold liS idS; omega)) ⟨⟨hW1, hT0.tk f1, a, tx, by rw [f1.i (by unfold tkS; omega)]; exact z10⟩, ⟨by rw [f1.i (by unfold tkS; omega)]; exact z11, Nat.zero_le _, by rw [f1.i (by unfold tkS; omega)]; exact z19, fun i hi => absurd hi (Nat.not_lt_zero i)⟩, ⟨by rw [f1.i (by unfold tkS; omega)]; exact z15, Nat.zero_le _, fun l hl => absurd hl (Nat.not_lt_zero l)⟩⟩
end
end RASM2
