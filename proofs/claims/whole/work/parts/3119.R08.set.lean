section RSET
section
variable {M M' : Mem} {K : RT} {n i : Nat} {c : Nat → Nat → Int64}
theorem VR_0 {k : Int32} : VR k 0 FP.dconst0 0 := by
  refine ⟨fun hr => ?_, fun _ => rfl⟩
  have e : (0 : Int64) = bk k false 0 := by unfold bk; rw [if_neg (by decide)]; rfl
  rw [e, xO_bk hr (Nat.zero_le _), (w6_z hr (Nat.zero_le _)).mpr rfl, d0_X]
/-- a register is made anew -/
theorem RDc.reset {S : Nat → Nat → Prop} {v m : Nat} {k : Int32} {d : DS} {g : Nat → Int64} (hd : WD d) (hf : FrC S M M') (hS : ∀ a j, S a j → (624 ≤ a ∧ a ≤ 631) → ((a = 624 ∨ a = 625) ∧ j = v) ∨ ((a = 626 ∨ a = 627) ∧ 32 * v ≤ j ∧ j < 32 * v + 32)) (hv : v < 8) (h : RDc M d) (hk : gI M' 624 v = k) (hm : gI M' 625 v = nI m) (hg : ∀ j, j < m → VR k (gL M' 626 (32 * v + j)) (gD M' 627 (32 * v + j)) (g j)) : RDc M' (setRow d (2 * v) k m g) := by
  obtain ⟨h1, h2, h3, h4⟩ := h
  have ne : ∀ a j, (624 ≤ a ∧ a ≤ 631) → ¬ (((a = 624 ∨ a = 625) ∧ j = v) ∨ ((a = 626 ∨ a = 627) ∧ 32 * v ≤ j ∧ j < 32 * v + 32)) → ¬ S a j := fun a j q q' z => q' (hS a j z q)
  refine ⟨fun u hu => ?_, fun u hu => ?_, fun m hm => ?_, fun k hk => ?_⟩
  · obtain ⟨a1, a2, a3⟩ := h1 u hu
    have hl : dn d (2 * u) ≤ 32 := by
      rcases (hd.1 (2 * u) (by omega)).1 with z | z
      · omega
      · exact (z.2.2 (by omega)).2
    show gI M' 624 u = up1 (dk d) (2 * v) k (2 * u) ∧ gI M' 625 u = nI (up1 (dn d) (2 * v) m (2 * u)) ∧ ∀ j, j < up1 (dn d) (2 * v) m (2 * u) → VR (up1 (dk d) (2 * v) k (2 * u)) _ _ (up1 (di d) (2 * v) g (2 * u) j)
    unfold up1
    by_cases e : u = v
    · subst e
      rw [if_pos rfl, if_pos rfl, if_pos rfl]
      exact ⟨hk, hm, hg⟩
    · rw [if_neg (by omega), if_neg (by omega), if_neg (by omega), hf.i (ne _ _ (by omega) (by omega)), hf.i (ne _ _ (by omega) (by omega))]
      refine ⟨a1, a2, fun j hj => ?_⟩
      rw [hf.l (ne _ _ (by omega) (by omega)), hf.d (ne _ _ (by omega) (by omega))]
      exact a3 j hj
  · obtain ⟨a1, a2, a3⟩ := h2 u hu
    show gI M' 628 u = up1 (dk d) (2 * v) k (2 * u + 1) ∧ gI M' 629 u = nI (up1 (dn d) (2 * v) m (2 * u + 1)) ∧ ∀ j, j < up1 (dn d) (2 * v) m (2 * u + 1) → VR (up1 (dk d) (2 * v) k (2 * u + 1)) _ _ (up1 (di d) (2 * v) g (2 * u + 1) j)
    unfold up1
    rw [if_neg (by omega), if_neg (by omega), if_neg (by omega), hf.i (ne _ _ (by omega) (by omega)), hf.i (ne _ _ (by omega) (by omega))]
    refine ⟨a1, a2, fun j hj => ?_⟩
    rw [hf.l (ne _ _ (by omega) (by omega)), hf.d (ne _ _ (by omega) (by omega))]
    exact a3 j hj
  · rw [hf.i (ne _ _ (by omega) (by omega))]; exact h3 m hm
  · rw [hf.l (ne _ _ (by omega) (by omega))]; exact h4 k hk
theorem let0 : (opL 0).length = 3 ∧ isRL (letN 0 0) ∧ letN 0 1 = 75 ∧ letN 0 2 = 84 := by unfold isRL; decide +kernel
theorem c_set13 {d : DS} (hW : Wf M) (hC : RC M n c i) (eo : cn (c i) 0 = 0) (hd : WD d) (hD : RDc M d) (h : rinC M (fun _ M' => K none M') (insG 0 (c i) d)) : sp_X13_set [.ref 605, .int (nI i)] M K := by
  obtain ⟨v8, q0, e0⟩ := rRow0 hC eo (by decide) (by decide)
  obtain ⟨l1, l2, l3, l4⟩ := let0
  obtain ⟨-, hb, -⟩ := hC.2.2.2.2.at eo
  obtain ⟨κ, κ1, κ2⟩ := (hb 1 (by omega)).2.2.1 l3
  obtain ⟨m, m1, m2, m3⟩ := (hb 2 (by omega)).2.2.2.1 l4
  obtain ⟨q1, e1⟩ := opOf (k := 1) hC (by decide) κ2
  obtain ⟨q2, e2⟩ := opOf (k := 2) hC (by decide) m3
  have q1 : q_X13_operandOf (nI i) (1 : Int32) M := q1
  have e1 : f_X13_operandOf (nI i) (1 : Int32) M = nI κ := e1
  have q2 : q_X13_operandOf (nI i) (2 : Int32) M := q2
  have e2 : f_X13_operandOf (nI i) (2 : Int32) M = nI m := e2
  have q2' : q_X13_operandOf (nI i) (2 : Int32) (uI M 624 (rgN 0 (c i) 0) (nI κ)) := q2
  have e2' : f_X13_operandOf (nI i) (2 : Int32) (uI M 624 (rgN 0 (c i) 0) (nI κ)) = nI m := e2
  have hg : insG 0 (c i) d = (0, -1, m, setRow d (2 * rgN 0 (c i) 0) (nI κ) m (fun _ => 0)) := by
    rw [insG_0, show cn (c i) 3 = m from cn_lN m3 (by omega), κ2, lN_toI]
  rw [hg] at h
  refine wX13_set hW (fun {G} hc => ?_)
  rw [e0, e1, nI_clamp (by omega), e2']
  refine ⟨q0, q1, vpN v8 (by decide), q2', vpN v8 (by decide), ?_⟩
  have loop : ∀ f p : Nat, p + f = 32 → ∀ M1, Wf M1 → FrC (fun a j => ((a = 624 ∨ a = 625) ∧ j = rgN 0 (c i) 0) ∨ ((a = 626 ∨ a = 627) ∧ 32 * rgN 0 (c i) 0 ≤ j ∧ j < 32 * rgN 0 (c i) 0 + 32)) M M1 → gI M1 624 (rgN 0 (c i) 0) = nI κ → gI M1 625 (rgN 0 (c i) 0) = nI m → (∀ j, j < p → gL M1 626 (32 * rgN 0 (c i) 0 + j) = 0 ∧ gD M1 627 (32 * rgN 0 (c i) 0 + j) = FP.dconst0) → G 33 [some (.ref 605), some (.int (nI i)), some (.int (nI (rgN 0 (c i) 0))), some (.int (nI p))] [] M1 := by
    intro f
    induction f with
    | zero =>
      intro p hp M1 hW1 f1 hk hm hz
      have : p = 32 := by omega
      subst this
      refine eX13_set_33 hc hW1 ⟨fun _ => ⟨vpN v8 (by decide), ?_⟩, fun z => absurd (by decide) z⟩
      rw [nI_clamp (by omega), hm]
      have f2 : FrC rinS M (uI M1 605 69 (nI m)) := (f1.mono (fun a j z => by unfold rinS; omega)).tr (FrC_uI (by unfold rinS; omega))
      refine h _ (f2.wf hW) f2 ?_ (fun _ => ⟨?_, ?_⟩) (fun z => absurd rfl z)
      · have f3 := (f1.mono (T := fun a j => a = 605 ∨ ((a = 624 ∨ a = 625) ∧ j = rgN 0 (c i) 0) ∨ ((a = 626 ∨ a = 627) ∧ 32 * rgN 0 (c i) 0 ≤ j ∧ j < 32 * rgN 0 (c i) 0 + 32)) (fun a j z => Or.inr z)).tr (FrC_uI (a := 605) (j := 69) (x := nI m) (Or.inl rfl))
        refine RDc.reset hd f3 (fun a j z q => by omega) v8 hD hk hm (fun j hj => ?_)
        rw [gL_uI, gD_uI, (hz j (by omega)).1, (hz j (by omega)).2]
        exact VR_0
      · rw [gI_uI, if_pos ⟨rfl, rfl⟩]
      · rw [gI_uI, if_neg (by decide), f1.i (by omega)]
    | succ f ih =>
      intro p hp M1 hW1 f1 hk hm hz
      have ea : (32 : Int32) * nI (rgN 0 (c i) 0) + nI p = nI (32 * rgN 0 (c i) 0 + p) := by rw [show (32 : Int32) = nI 32 from rfl, pk_mul, nI_add]
      refine eX13_set_33 hc hW1 ⟨fun z => absurd ((nI_leI (a := 32) (by decide) (by omega)).mp z) (by omega), fun _ => ?_⟩
      unfold q_X13_lay m_X13_lay
      rw [ea, nI_clamp (by omega), nI_1]
      have f2 : FrC (fun a j => ((a = 624 ∨ a = 625) ∧ j = rgN 0 (c i) 0) ∨ ((a = 626 ∨ a = 627) ∧ 32 * rgN 0 (c i) 0 ≤ j ∧ j < 32 * rgN 0 (c i) 0 + 32)) M1 (uD (uL M1 626 (32 * rgN 0 (c i) 0 + p) 0) 627 (32 * rgN 0 (c i) 0 + p) FP.dconst0) := (FrC_uL (by omega)).tr (FrC_uD (by omega))
      refine ⟨⟨vpN (by omega) (by decide), vpN (by omega) (by decide)⟩, ih (p + 1) (by omega) _ (f2.wf hW1) (f1.tr f2) hk hm (fun j hj => ?_)⟩
      rw [gL_uD, gL_uL, gD_uD, gD_uL]
      by_cases e : j = p
      · rw [if_pos ⟨rfl, by omega⟩, if_pos ⟨rfl, by omega⟩]; exact ⟨rfl, rfl⟩
      · rw [if_neg (fun z => e (by omega)), if_neg (fun z => e (by omega))]; exact hz j (by omega)
  have f0 : FrC (fun a j => ((a = 624 ∨ a = 625) ∧ j = rgN 0 (c i) 0) ∨ ((a = 626 ∨ a = 627) ∧ 32 * rgN 0 (c i) 0 ≤ j ∧ j < 32 * rgN 0 (c i) 0 + 32)) M (uI (uI M 624 (rgN 0 (c i) 0) (nI κ)) 625 (rgN 0 (c i) 0) (nI m)) := (FrC_uI (by omega)).tr (FrC_uI (by omega))
  refine loop 32 0 rfl _ (f0.wf hW) f0 ?_ ?_ (fun j hj => absurd hj (Nat.not_lt_zero j))
  · rw [gI_uI, if_neg (by omega), gI_uI, if_pos ⟨rfl, rfl⟩]
  · rw [gI_uI, if_pos ⟨rfl, rfl⟩]
theorem let44 : (opL 44).length = 3 ∧ letN 44 2 = 80 ∧ (opL 45).length = 3 ∧ letN 45 1 = 80 ∧ posR 44 0 = 1 ∧ posS 44 = 0 ∧ posR 45 0 = 0 ∧ posS 45 = 2 ∧ 0 < cntR 44 4 ∧ 0 < cntR 45 4 ∧ usS 44 = true ∧ usS 45 = true := by decide +kernel
theorem c_lane13 {d : DS} {o : Nat} (hW : Wf M) (hC : RC M n c i) (eo : cn (c i) 0 = o) (ho : o = 44 ∨ o = 45) (hF : FIT o (c i) d) (hd : WD d) (hD : RDc M d) (h69 : gI M 605 69 = 0) (h : rinC M K (insG o (c i) d)) : sp_X13_lane [.ref 605, .int (nI i)] M K := by
  obtain ⟨t1, t2, t3, t4, t5, t6, t7, t8, t9, t10, t11, t12⟩ := let44
  obtain ⟨o1, o2, o3⟩ := opI hC
  have hv : VC o (c i) := by have := hC.2.2.2.2.vc; rw [eo] at this; exact this
  have hnn := hF.2.1
  obtain ⟨D1, D2, D3, D4⟩ := hD
  refine wX13_lane hW (fun {G} hc => ?_)
  rw [o2, eo]
  rcases ho with rfl | rfl
  · obtain ⟨r1, r2⟩ := rg_is (by decide) hv t9
    obtain ⟨s1, s2⟩ := sc_is (by decide) hv t11
    rw [t5] at r2
    rw [t6] at s2
    obtain ⟨w1, w2⟩ := hC.2.2.2.2.pl (q := 2) (by rw [eo]; omega) (by rw [eo]; exact t2)
    have w1 : cn (c i) 3 < 32 := w1
    obtain ⟨qa, ea⟩ := opOf (k := 0) hC (by decide) s2
    obtain ⟨qb, eb⟩ := opOf (k := 1) hC (by decide) r2
    obtain ⟨qc, ec⟩ := opOf (k := 2) hC (by decide) w2
    have qa : q_X13_operandOf (nI i) (0 : Int32) M := qa
    have ea : f_X13_operandOf (nI i) (0 : Int32) M = nI (scN 44 (c i)) := ea
    have qb : q_X13_operandOf (nI i) (1 : Int32) M := qb
    have eb : f_X13_operandOf (nI i) (1 : Int32) M = nI (rgN 44 (c i) 0) := eb
    have qc : q_X13_operandOf (nI i) (2 : Int32) M := qc
    have ec : f_X13_operandOf (nI i) (2 : Int32) M = nI (cn (c i) 3) := ec
    have hg : insG 44 (c i) d = (if cn (c i) 3 < dn d (2 * rgN 44 (c i) 0) then (0, -1, 0, setS d (scN 44 (c i)) (di d (2 * rgN 44 (c i) 0) (cn (c i) 3))) else (4, nI (cn (c i) 3), 0, d)) := rfl
    rw [hg] at h
    refine ⟨o1, fun z => absurd rfl z, fun _ => ⟨qb, fun z => absurd rfl z, fun _ => eX13_lane_37 hc hW ?_⟩⟩
    have e32 : (32 : Int32) * nI (rgN 44 (c i) 0) + nI (cn (c i) 3) = nI (32 * rgN 44 (c i) 0 + cn (c i) 3) := by rw [show (32 : Int32) = nI 32 from rfl, pk_mul, nI_add]
    rw [ec, eb, e32, ea, nI_clamp (show rgN 44 (c i) 0 < 2 ^ 31 by omega), (D1 _ r1).2.1, (D1 _ r1).1, nI_ltI (by omega) (by omega), nI_clamp (show scN 44 (c i) < 2 ^ 31 by omega), nI_clamp (show 32 * rgN 44 (c i) 0 + cn (c i) 3 < 2 ^ 31 by omega)]
    refine ⟨qc, vpN r1 (by decide), fun lt => ⟨fun z => absurd rfl z, fun _ => ?_⟩, fun ge => ?_⟩
    · rw [if_pos lt] at h
      have hk := hF.k0 (by decide)
      obtain ⟨b1, b2⟩ := bits_is hk ((hF.1 0 t9).2.2.2 _ lt) ((D1 _ r1).2.2 _ lt)
      rw [b1]
      refine ⟨qa, vpN r1 (by decide), vpN (by omega) (by decide), vpN (by omega) (by decide), b2, vpN s1 (by decide), ?_⟩
      have fr : FrC rinS M (uL M 631 (scN 44 (c i)) (di d (2 * rgN 44 (c i) 0) (cn (c i) 3))) := FrC_uL (by unfold rinS; omega)
      refine h _ (fr.wf hW) fr ?_ (fun _ => ⟨h69, rfl⟩) (fun z => absurd rfl z)
      exact RDc.scal (S := fun a j => a = 631 ∧ j = scN 44 (c i)) (FrC_uL ⟨rfl, rfl⟩) (fun a j z _ => z) ⟨D1, D2, D3, D4⟩ (by rw [gL_uL, if_pos ⟨rfl, rfl⟩])
    · rw [if_neg ge] at h
      have fr : FrC rinS M (uI M 605 50 (nI (cn (c i) 3))) := FrC_uI (by unfold rinS; omega)
      unfold m_X13_failed
      refine h _ (fr.wf hW) fr ?_ (fun z => absurd z (show ¬ (4 : Int32) = 0 by decide)) (fun _ => by rw [gI_uI, if_pos ⟨rfl, rfl⟩])
      exact RDc.same (S := fun a j => a = 605) (FrC_uI rfl) (fun a j z => by omega) ⟨D1, D2, D3, D4⟩
  · obtain ⟨r1, r2⟩ := rg_is (by decide) hv t10
    obtain ⟨s1, s2⟩ := sc_is (by decide) hv t12
    rw [t7] at r2
    rw [t8] at s2
    obtain ⟨w1, w2⟩ := hC.2.2.2.2.pl (q := 1) (by rw [eo]; omega) (by rw [eo]; exact t4)
    have w1 : cn (c i) 2 < 32 := w1
    obtain ⟨qa, ea⟩ := opOf (k := 0) hC (by decide) r2
    obtain ⟨qb, eb⟩ := opOf (k := 1) hC (by decide) w2
    obtain ⟨qc, ec⟩ := opOf (k := 2) hC (by decide) s2
    have qa : q_X13_operandOf (nI i) (0 : Int32) M := qa
    have ea : f_X13_operandOf (nI i) (0 : Int32) M = nI (rgN 45 (c i) 0) := ea
    have qb : q_X13_operandOf (nI i) (1 : Int32) M := qb
    have eb : f_X13_operandOf (nI i) (1 : Int32) M = nI (cn (c i) 2) := eb
    have qc : q_X13_operandOf (nI i) (2 : Int32) M := qc
    have ec : f_X13_operandOf (nI i) (2 : Int32) M = nI (scN 45 (c i)) := ec
    have hg : insG 45 (c i) d = (if cn (c i) 2 < dn d (2 * rgN 45 (c i) 0) then (0, -1, 1, setIt d (2 * rgN 45 (c i) 0) (up1 (di d (2 * rgN 45 (c i) 0)) (cn (c i) 2) (putJ (dk d (2 * rgN 45 (c i) 0)) (dsc d (scN 45 (c i)))))) else (4, nI (cn (c i) 2), 0, d)) := rfl
    rw [hg] at h
    refine ⟨o1, fun _ => ⟨qa, fun _ => eX13_lane_37 hc hW ?_, fun z => absurd z (by decide)⟩, fun z => absurd z (by decide)⟩
    have e32 : (32 : Int32) * nI (rgN 45 (c i) 0) + nI (cn (c i) 2) = nI (32 * rgN 45 (c i) 0 + cn (c i) 2) := by rw [show (32 : Int32) = nI 32 from rfl, pk_mul, nI_add]
    rw [eb, ea, e32, ec, nI_clamp (show rgN 45 (c i) 0 < 2 ^ 31 by omega), (D1 _ r1).2.1, (D1 _ r1).1, nI_ltI (by omega) (by omega), nI_clamp (show scN 45 (c i) < 2 ^ 31 by omega), D4 _ s1]
    refine ⟨qb, vpN r1 (by decide), fun lt => ⟨fun _ => ?_, fun z => absurd z (by decide)⟩, fun ge => ?_⟩
    · rw [if_pos lt] at h
      have hk := hF.k0 (by decide)
      refine ⟨vpN r1 (by decide), qc, vpN s1 (by decide), c_put13 hW hk (by omega) (fun W X hVR => ?_)⟩
      have f1 : FrC (fun a j => a = 605 ∨ ((a = 626 ∨ a = 627) ∧ 32 * rgN 45 (c i) 0 ≤ j ∧ j < 32 * rgN 45 (c i) 0 + 32)) M (uI (uD (uL M 626 (32 * rgN 45 (c i) 0 + cn (c i) 2) W) 627 (32 * rgN 45 (c i) 0 + cn (c i) 2) X) 605 69 1) := ((FrC_uL (Or.inr (by omega))).tr (FrC_uD (Or.inr (by omega)))).tr (FrC_uI (Or.inl rfl))
      have f2 : FrC rinS M (uI (uD (uL M 626 (32 * rgN 45 (c i) 0 + cn (c i) 2) W) 627 (32 * rgN 45 (c i) 0 + cn (c i) 2) X) 605 69 1) := ((FrC_uL (by unfold rinS; omega)).tr (FrC_uD (by unfold rinS; omega))).tr (FrC_uI (by unfold rinS; omega))
      refine rX13_lane_114_17 hc (f1.wf hW) (h _ (f2.wf hW) f2 ?_ (fun _ => ⟨by rw [gI_uI, if_pos ⟨rfl, rfl⟩]; rfl, by rw [gI_uI, if_neg (by decide)]; rfl⟩) (fun z => absurd rfl z))
      refine RDc.row hd f1 (fun a j z q => by omega) r1 ⟨D1, D2, D3, D4⟩ (fun j hj => ?_)
      rw [gL_uI, gD_uI, gL_uD, gL_uL, gD_uD, gD_uL]
      unfold up1
      by_cases e : j = cn (c i) 2
      · rw [if_pos ⟨rfl, by omega⟩, if_pos ⟨rfl, by omega⟩, if_pos e]; exact hVR
      · rw [if_neg (fun z => e (by omega)), if_neg (fun z => e (by omega)), if_neg e]; exact (D1 _ r1).2.2 j hj
    · rw [if_neg ge] at h
      have fr : FrC rinS M (uI M 605 50 (nI (cn (c i) 2))) := FrC_uI (by unfold rinS; omega)
      unfold m_X13_failed
      refine h _ (fr.wf hW) fr ?_ (fun z => absurd z (show ¬ (4 : Int32) = 0 by decide)) (fun _ => by rw [gI_uI, if_pos ⟨rfl, rfl⟩])
      exact RDc.same (S := fun a j => a = 605) (FrC_uI rfl) (fun a j z => by omega) ⟨D1, D2, D3, D4⟩
end
end RSET
