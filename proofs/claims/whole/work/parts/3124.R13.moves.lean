section RMOVES
section
variable {M M' : Mem} {K : RT} {n i : Nat} {c : Nat → Nat → Int64}
def MV (o : Nat) : Prop := o = 23 ∨ o = 32 ∨ o = 33 ∨ o = 38 ∨ o = 39 ∨ o = 40
theorem mv_all : ∀ o ∈ List.range 46, MV o → 1 < cntR o 4 ∧ alB o 1 = true ∧ (o = 23 → 2 < cntR o 4 ∧ alB o 2 = true) ∧ (o = 23 ∨ o = 32 ∨ o = 33 → usM o = true ∧ posM o = 1) := by unfold MV; decide +kernel
/-- a bit of a mask -/
theorem bit_is (w : Int32) {j : Nat} (hj : j < 32) : ((w >>> (nI j &&& 31)) &&& (1 : Int32)) = 1 ↔ onW w j := by
  unfold onW
  rcases zand1 (w >>> (nI j &&& 31)) with z | z
  · rw [z]; exact ⟨fun y => absurd y (by decide), fun y => absurd rfl y⟩
  · rw [z]; exact ⟨fun _ => by decide, fun _ => rfl⟩
theorem c_moves13 {d : DS} {o : Nat} (hW : Wf M) (hC : RC M n c i) (eo : cn (c i) 0 = o) (ho : MV o) (hF : FIT o (c i) d) (hd : WD d) (hD : RDc M d) (hO : gI M 605 70 = olR (c i) d) (h69 : gI M 605 69 = 0) (h : rinC M K (insG o (c i) d)) : sp_X13_moves [.ref 605, .int (nI i)] M K := by
  have o46 : o < 46 := by unfold MV at ho; omega
  obtain ⟨t1, t2, t3, t4⟩ := mv_all o (List.mem_range.mpr o46) ho
  obtain ⟨v8, q0, e0⟩ := rRow0 hC eo o46 (by unfold MV at ho; omega)
  have hv : VC o (c i) := by have := hC.2.2.2.2.vc; rw [eo] at this; exact this
  have hnn := hF.2.1
  have hD' := hD
  obtain ⟨D1, D2, D3, D4⟩ := hD
  obtain ⟨o1, o2, o3⟩ := opI hC
  have hk := hF.k0 o46
  have k1 := (hF.1 1 t1).2.2.1 t2
  have D1v := D1 _ v8
  refine wX13_moves hW (fun {G} hc => ⟨o1, q0, c_regOf (k := 1) hW hC (by decide) (rX13_moves_0_14 hc hW ?_)⟩)
  rw [eo] at o2
  rw [e0, o2]
  refine c_copyR hW hC (Or.inl ⟨rfl, rfl⟩) (by decide) (fun Ma hWa fa ca => rX13_moves_0_19 hc hWa ?_)
  have hCa := hC.fr fa (fun a j z => by unfold prS; omega)
  refine c_regOf (k := 2) hWa hCa (by decide) (rX13_moves_0_24 hc hWa ?_)
  refine c_copyR hWa hCa (Or.inr ⟨rfl, rfl⟩) (by decide) (fun Mb hWb fb cb => rX13_moves_0_29 hc hWb ?_)
  have fab : FrC (fun a _ => 643 ≤ a ∧ a ≤ 646) M Mb := (fa.mono (fun a j z => by omega)).tr (fb.mono (fun a j z => by omega))
  have hCb := hC.fr fab (fun a j z => by unfold prS; omega)
  rw [eo] at ca cb
  have LX : LR Mb 643 644 (dk d (2 * rgN o (c i) 0)) (dn d (2 * rgN o (c i) 0)) (di d (2 * rgN o (c i) 1)) := by
    intro j hj
    obtain ⟨r1, -⟩ := rg_is o46 hv t1
    obtain ⟨a1, a2⟩ := ca ⟨o46, t1⟩ j (by omega)
    rw [fb.l (by omega), fb.d (by omega), a1, a2, ← k1]
    exact (D1 _ r1).2.2 j (by rw [(hF.1 1 t1).2.1]; exact hj)
  have LY : o = 23 → LR Mb 645 646 (dk d (2 * rgN o (c i) 0)) (dn d (2 * rgN o (c i) 0)) (di d (2 * rgN o (c i) 2)) := by
    intro z j hj
    obtain ⟨t5, t6⟩ := t3 z
    obtain ⟨r1, -⟩ := rg_is o46 hv t5
    obtain ⟨a1, a2⟩ := cb ⟨o46, t5⟩ j (by omega)
    rw [a1, a2, fa.l (by omega), fa.d (by omega), ← (hF.1 2 t5).2.2.1 t6]
    exact (D1 _ r1).2.2 j (by rw [(hF.1 2 t5).2.1]; exact hj)
  have okX : ∀ j, j < dn d (2 * rgN o (c i) 0) → okJ (dk d (2 * rgN o (c i) 0)) (di d (2 * rgN o (c i) 1) j) := fun j hj => by
    have := hF.x1 o46 t1 hj
    rw [k1] at this
    exact this
  have hOb : gI Mb 605 70 = olR (c i) d := by rw [fab.i (by omega)]; exact hO
  have h69b : gI Mb 605 69 = 0 := by rw [fab.i (by omega)]; exact h69
  have hDb : RDc Mb d := RDc.same fab (fun a j z => by omega) hD'
  have hb : rinC Mb K (insG o (c i) d) := fun M' a b e f g => h M' a ((fab.mono (fun a j z => by unfold rinS; omega)).tr b) e (fun z => by
    obtain ⟨x1, x2⟩ := f z
    rw [fab.i (by omega)] at x2
    exact ⟨x1, x2⟩) g
  clear h
  -- the mask's operand
  have mop : o = 23 ∨ o = 32 ∨ o = 33 → ∀ M1 : Mem, FrC (fun a _ => ¬ prS a) Mb M1 → mkN o (c i) < 4 ∧ q_X13_operandOf (nI i) (1 : Int32) M1 ∧ f_X13_operandOf (nI i) (1 : Int32) M1 = nI (mkN o (c i)) := by
    intro z M1 f1
    obtain ⟨u1, u2⟩ := t4 z
    obtain ⟨r1, r2⟩ := mk_is o46 hv u1
    rw [u2] at r2
    have := opOf (k := 1) (hCb.fr f1 (fun a j y => y)) (by decide) r2
    exact ⟨r1, this.1, this.2⟩
  have n23 : nI o = 23 ↔ o = 23 := nI_eq (b := 23) (by omega) (by decide)
  have n32 : nI o = 32 ↔ o = 32 := nI_eq (b := 32) (by omega) (by decide)
  have n33 : nI o = 33 ↔ o = 33 := nI_eq (b := 33) (by omega) (by decide)
  have n38 : nI o = 38 ↔ o = 38 := nI_eq (b := 38) (by omega) (by decide)
  have n39 : nI o = 39 ↔ o = 39 := nI_eq (b := 39) (by omega) (by decide)
  rw [n23, n32, n33, n38, n39, nI_clamp (show rgN o (c i) 0 < 2 ^ 31 by omega), fab.i (show ¬ (643 ≤ 625 ∧ 625 ≤ 646) by omega), D1v.2.1]
  have v8p : vp_in (nI (rgN o (c i) 0)) 8 := vpN v8 (by decide)
  have e32 : ∀ j, (32 : Int32) * nI (rgN o (c i) 0) + nI j = nI (32 * rgN o (c i) 0 + j) := fun j => by rw [show (32 : Int32) = nI 32 from rfl, pk_mul, nI_add]
  -- pack and spread
  have pack : o = 32 ∨ o = 33 → ∀ f p : Nat, p + f = dn d (2 * rgN o (c i) 0) → ∀ (M1 : Mem) (g : Nat → Int64) (ct : Nat) (o5 : Option Value), Wf M1 → FrC (rRowS (rgN o (c i) 0)) Mb M1 → ct ≤ p → (∀ j, j < dn d (2 * rgN o (c i) 0) → VR (dk d (2 * rgN o (c i) 0)) (gL M1 626 (32 * rgN o (c i) 0 + j)) (gD M1 627 (32 * rgN o (c i) 0 + j)) (g j)) → gI M1 605 69 = nI ct →
      (o = 32 → prun (di d (2 * rgN o (c i) 1)) (onW (dm d (mkN o (c i)))) f p ct g = prun (di d (2 * rgN o (c i) 1)) (onW (dm d (mkN o (c i)))) (dn d (2 * rgN o (c i) 0)) 0 0 (di d (2 * rgN o (c i) 0))) → (o = 33 → srun (di d (2 * rgN o (c i) 1)) (onW (dm d (mkN o (c i)))) f p ct g = srun (di d (2 * rgN o (c i) 1)) (onW (dm d (mkN o (c i)))) (dn d (2 * rgN o (c i) 0)) 0 0 (di d (2 * rgN o (c i) 0))) →
      G 217 [some (.ref 605), some (.int (nI i)), some (.int (nI o)), some (.int (nI (rgN o (c i) 0))), some (.int (nI p)), o5] [] M1 := by
    intro ho2 f
    induction f with
    | zero =>
      intro p hp M1 g ct o5 hW1 f1 hct hg h69' hR2 hR3
      have fM : FrC rinS Mb M1 := f1.mono (fun a j z => by unfold rRowS at z; unfold rinS; omega)
      refine eX13_moves_217 hc hW1 ?_
      rw [nI_clamp (show rgN o (c i) 0 < 2 ^ 31 by omega), f1.i (by unfold rRowS; omega), fab.i (show ¬ (643 ≤ 625 ∧ 625 ≤ 646) by omega), D1v.2.1]
      refine ⟨v8p, fun _ => ?_, fun z => absurd (nI_le (by omega) (by omega)) z⟩
      have hrow := RDc.row hd f1 (fun a j z q => by unfold rRowS at z; omega) v8 hDb hg
      have h50 : gI M1 605 50 = gI Mb 605 50 := f1.i (by unfold rRowS; omega)
      rcases ho2 with rfl | rfl
      · have hR := hR2 rfl
        rw [prun] at hR
        rw [insG_32, ← hR] at hb
        exact hb M1 hW1 fM hrow (fun _ => ⟨h69', h50⟩) (fun z => absurd rfl z)
      · have hR := hR3 rfl
        rw [srun] at hR
        rw [insG_33, ← hR] at hb
        exact hb M1 hW1 fM hrow (fun _ => ⟨h69', h50⟩) (fun z => absurd rfl z)
    | succ f ih =>
      intro p hp M1 g ct o5 hW1 f1 hct hg h69' hR2 hR3
      obtain ⟨m1, m2, m3⟩ := mop (by omega) M1 (f1.mono (fun a j z => by unfold rRowS at z; unfold prS; omega))
      obtain ⟨w1, w2⟩ := lane_vp (j := p) (by omega)
      obtain ⟨w3, w4⟩ := lane_vp (j := ct) (by omega)
      refine eX13_moves_217 hc hW1 ?_
      rw [nI_clamp (show rgN o (c i) 0 < 2 ^ 31 by omega), f1.i (show ¬ rRowS _ 625 _ by unfold rRowS; omega), fab.i (show ¬ (643 ≤ 625 ∧ 625 ≤ 646) by omega), D1v.2.1, m3, nI_clamp (show mkN o (c i) < 2 ^ 31 by omega), f1.i (show ¬ rRowS _ 630 _ by unfold rRowS; omega), fab.i (show ¬ (643 ≤ 630 ∧ 630 ≤ 646) by omega), D3 _ m1, bit_is _ (show p < 32 by omega), show (32 : Int32) = nI 32 from rfl, nI_eq (show o < 2 ^ 31 by omega) (show 32 < 2 ^ 31 by decide), show nI 32 = (32 : Int32) from rfl, h69', e32, e32]
      refine ⟨v8p, fun z => absurd ((nI_leI (by omega) (by omega)).mp z) (by omega), fun _ => ⟨m2, vpN m1 (by decide), fun off => ?_, fun on => ⟨fun n32' => ⟨fun _ => ?_, fun z => absurd z n32'⟩, fun e32' => ⟨fun z => absurd e32' z, fun _ => ?_⟩⟩⟩⟩
      · rw [nI_1]
        exact ih (p + 1) (by omega) M1 g ct _ hW1 f1 (by omega) hg h69' (fun z => by have := hR2 z; rw [prun, iT_f off] at this; exact this) (fun z => by have := hR3 z; rw [srun, iT_f off] at this; exact this)
      · -- spread
        have e33 : o = 33 := by omega
        refine eX13_moves_288 hc hW1 Ss_643 ?_
        unfold q_X13_lay m_X13_lay
        rw [show (32 : Int32) = nI 32 from rfl, nI_eq (show o < 2 ^ 31 by omega) (show 32 < 2 ^ 31 by decide), h69', w4, nI_clamp (show 32 * rgN o (c i) 0 + p < 2 ^ 31 by omega), nI_1]
        have f3 : FrC (rRowS (rgN o (c i) 0)) M1 (uI (uD (uL M1 626 (32 * rgN o (c i) 0 + p) (gL M1 643 ct)) 627 (32 * rgN o (c i) 0 + p) (gD M1 644 ct)) 605 69 (gI (uD (uL M1 626 (32 * rgN o (c i) 0 + p) (gL M1 643 ct)) 627 (32 * rgN o (c i) 0 + p) (gD M1 644 ct)) 605 69 + (1 : Int32))) := ((FrC_uL (by unfold rRowS; omega)).tr (FrC_uD (by unfold rRowS; omega))).tr (FrC_uI (by unfold rRowS; omega))
        refine ⟨w3, fun _ => ⟨w3, ⟨vpN (by omega) (by decide), vpN (by omega) (by decide)⟩, ?_⟩, fun z => absurd z n32'⟩
        refine ih (p + 1) (by omega) _ (up1 g p (di d (2 * rgN o (c i) 1) ct)) (ct + 1) _ (f3.wf hW1) (f1.tr f3) (by omega) (fun j hj => ?_) ?_ (fun z => absurd z n32') (fun z => by have := hR3 z; rw [srun, iT_t on] at this; exact this)
        · unfold up1
          rw [gL_uI, gD_uI, gL_uD, gL_uL, gD_uD, gD_uL]
          by_cases e : j = p
          · rw [if_pos ⟨rfl, by omega⟩, if_pos ⟨rfl, by omega⟩, if_pos e, f1.l (by unfold rRowS; omega), f1.d (by unfold rRowS; omega)]
            exact LX ct (by omega)
          · rw [if_neg (fun z => e (by omega)), if_neg (fun z => e (by omega)), if_neg e]
            exact hg j hj
        · rw [gI_uI, if_pos ⟨rfl, rfl⟩, gI_uD, gI_uL, h69', nI_1]
      · -- pack
        refine eX13_moves_288 hc hW1 Ss_643 ?_
        unfold q_X13_lay m_X13_lay
        rw [show (32 : Int32) = nI 32 from rfl, nI_eq (show o < 2 ^ 31 by omega) (show 32 < 2 ^ 31 by decide), w2, nI_clamp (show 32 * rgN o (c i) 0 + ct < 2 ^ 31 by omega), nI_1]
        have f3 : FrC (rRowS (rgN o (c i) 0)) M1 (uI (uD (uL M1 626 (32 * rgN o (c i) 0 + ct) (gL M1 643 p)) 627 (32 * rgN o (c i) 0 + ct) (gD M1 644 p)) 605 69 (gI (uD (uL M1 626 (32 * rgN o (c i) 0 + ct) (gL M1 643 p)) 627 (32 * rgN o (c i) 0 + ct) (gD M1 644 p)) 605 69 + (1 : Int32))) := ((FrC_uL (by unfold rRowS; omega)).tr (FrC_uD (by unfold rRowS; omega))).tr (FrC_uI (by unfold rRowS; omega))
        refine ⟨w1, fun z => absurd e32' z, fun _ => ⟨w1, ⟨vpN (by omega) (by decide), vpN (by omega) (by decide)⟩, ?_⟩⟩
        refine ih (p + 1) (by omega) _ (up1 g ct (di d (2 * rgN o (c i) 1) p)) (ct + 1) _ (f3.wf hW1) (f1.tr f3) (by omega) (fun j hj => ?_) ?_ (fun z => by have := hR2 z; rw [prun, iT_t on] at this; exact this) (fun z => by omega)
        · unfold up1
          rw [gL_uI, gD_uI, gL_uD, gL_uL, gD_uD, gD_uL]
          by_cases e : j = ct
          · rw [if_pos ⟨rfl, by omega⟩, if_pos ⟨rfl, by omega⟩, if_pos e, f1.l (by unfold rRowS; omega), f1.d (by unfold rRowS; omega)]
            exact LX p (by omega)
          · rw [if_neg (fun z => e (by omega)), if_neg (fun z => e (by omega)), if_neg e]
            exact hg j hj
        · rw [gI_uI, if_pos ⟨rfl, rfl⟩, gI_uD, gI_uL, h69', nI_1]
  refine ⟨fun e23 => ?_, fun n23' => ⟨fun e => ?_, fun n32' => ⟨fun e => ?_, fun n33' => ⟨fun e38 => ⟨v8p, ?_⟩, fun n38' => ⟨fun e39 => ?_, fun n39' => ?_⟩⟩⟩⟩⟩
  · -- select
    rw [show insG o (c i) d = (0, -1, dn d (2 * rgN o (c i) 0), setIt d (2 * rgN o (c i) 0) (fun j => iT (onW (dm d (mkN o (c i))) j) (di d (2 * rgN o (c i) 1) j) (di d (2 * rgN o (c i) 2) j))) by rw [e23]; exact insG_23] at hb
    have loop : ∀ f p : Nat, p + f = dn d (2 * rgN o (c i) 0) → ∀ (M1 : Mem) (o5 : Option Value), Wf M1 → FrC (rRow0S (rgN o (c i) 0)) Mb M1 → (∀ j, j < p → VR (dk d (2 * rgN o (c i) 0)) (gL M1 626 (32 * rgN o (c i) 0 + j)) (gD M1 627 (32 * rgN o (c i) 0 + j)) (iT (onW (dm d (mkN o (c i))) j) (di d (2 * rgN o (c i) 1) j) (di d (2 * rgN o (c i) 2) j))) →
        G 103 [some (.ref 605), some (.int (nI i)), some (.int (nI o)), some (.int (nI (rgN o (c i) 0))), some (.int (nI p)), o5] [] M1 := by
      intro f
      induction f with
      | zero =>
        intro p hp M1 o5 hW1 f1 hg
        have hp' : p = dn d (2 * rgN o (c i) 0) := by omega
        subst hp'
        refine eX13_moves_103 hc hW1 ?_
        rw [nI_clamp (show rgN o (c i) 0 < 2 ^ 31 by omega), f1.i (by unfold rRow0S; omega), fab.i (show ¬ (643 ≤ 625 ∧ 625 ≤ 646) by omega), D1v.2.1]
        refine ⟨v8p, fun _ => ⟨v8p, ?_⟩, fun z => absurd (nI_le (by omega) (by omega)) z⟩
        have f2 : FrC (fun a j => rRow0S (rgN o (c i) 0) a j ∨ (a = 605 ∧ j = 69)) Mb (uI M1 605 69 (nI (dn d (2 * rgN o (c i) 0)))) := (f1.mono (fun a j z => Or.inl z)).tr (FrC_uI (Or.inr ⟨rfl, rfl⟩))
        have fM : FrC rinS Mb (uI M1 605 69 (nI (dn d (2 * rgN o (c i) 0)))) := f2.mono (fun a j z => by unfold rRow0S at z; unfold rinS; omega)
        refine hb _ (f2.wf hWb) fM ?_ (fun _ => ⟨?_, ?_⟩) (fun z => absurd rfl z)
        · exact RDc.row hd f2 (fun a j z q => by unfold rRow0S at z; omega) v8 hDb hg
        · rw [gI_uI, if_pos ⟨rfl, rfl⟩]
        · rw [gI_uI, if_neg (by decide), f1.i (by unfold rRow0S; omega)]
      | succ f ih =>
        intro p hp M1 o5 hW1 f1 hg
        obtain ⟨m1, m2, m3⟩ := mop (by omega) M1 (f1.mono (fun a j z => by unfold rRow0S at z; unfold prS; omega))
        obtain ⟨w1, w2⟩ := lane_vp (j := p) (by omega)
        refine eX13_moves_103 hc hW1 ?_
        rw [nI_clamp (show rgN o (c i) 0 < 2 ^ 31 by omega), f1.i (show ¬ rRow0S _ 625 _ by unfold rRow0S; omega), fab.i (show ¬ (643 ≤ 625 ∧ 625 ≤ 646) by omega), D1v.2.1, m3, nI_clamp (show mkN o (c i) < 2 ^ 31 by omega), f1.i (show ¬ rRow0S _ 630 _ by unfold rRow0S; omega), fab.i (show ¬ (643 ≤ 630 ∧ 630 ≤ 646) by omega), D3 _ m1, bit_is _ (show p < 32 by omega)]
        have step : ∀ (s0 : Int32) (W : Int64) (X : UInt64), VR (dk d (2 * rgN o (c i) 0)) W X (iT (onW (dm d (mkN o (c i))) p) (di d (2 * rgN o (c i) 1) p) (di d (2 * rgN o (c i) 2) p)) → G 103 [some (.ref 605), some (.int (nI i)), some (.int (nI o)), some (.int (nI (rgN o (c i) 0))), some (.int (nI (p + 1))), some (.int s0)] [] (uD (uL M1 626 (32 * rgN o (c i) 0 + p) W) 627 (32 * rgN o (c i) 0 + p) X) := by
          intro s0 W X hv2
          have f3 : FrC (rRow0S (rgN o (c i) 0)) M1 (uD (uL M1 626 (32 * rgN o (c i) 0 + p) W) 627 (32 * rgN o (c i) 0 + p) X) := (FrC_uL (by unfold rRow0S; omega)).tr (FrC_uD (by unfold rRow0S; omega))
          refine ih (p + 1) (by omega) _ _ (f3.wf hW1) (f1.tr f3) (fun j hj => ?_)
          rw [gL_uD, gL_uL, gD_uD, gD_uL]
          by_cases e : j = p
          · subst e
            rw [if_pos ⟨rfl, rfl⟩, if_pos ⟨rfl, rfl⟩]
            exact hv2
          · rw [if_neg (fun z => e (by omega)), if_neg (fun z => e (by omega))]
            exact hg j (by omega)
        refine ⟨v8p, fun z => absurd ((nI_leI (by omega) (by omega)).mp z) (by omega), fun _ => ⟨m2, vpN m1 (by decide), fun off => ?_, fun on => ?_⟩⟩
        · refine eX13_moves_139 hc hW1 ⟨fun _ => ⟨w1, eX13_moves_171 hc hW1 ⟨fun _ => ⟨w1, ?_⟩, fun z => absurd rfl z⟩⟩, fun z => absurd rfl z⟩
          unfold q_X13_lay m_X13_lay
          rw [e32, w2, nI_clamp (show 32 * rgN o (c i) 0 + p < 2 ^ 31 by omega), nI_1]
          refine ⟨⟨vpN (by omega) (by decide), vpN (by omega) (by decide)⟩, step _ _ _ ?_⟩
          rw [iT_f off, f1.l (by unfold rRow0S; omega), f1.d (by unfold rRow0S; omega)]
          exact LY e23 p (by omega)
        · refine eX13_moves_139 hc hW1 ⟨fun z => absurd z (by decide), fun _ => ⟨w1, eX13_moves_171 hc hW1 ⟨fun z => absurd z (by decide), fun _ => ⟨w1, ?_⟩⟩⟩⟩
          unfold q_X13_lay m_X13_lay
          rw [e32, w2, nI_clamp (show 32 * rgN o (c i) 0 + p < 2 ^ 31 by omega), nI_1]
          refine ⟨⟨vpN (by omega) (by decide), vpN (by omega) (by decide)⟩, step _ _ _ ?_⟩
          rw [iT_t on, f1.l (by unfold rRow0S; omega), f1.d (by unfold rRow0S; omega)]
          exact LX p (by omega)
    exact loop _ 0 (Nat.zero_add _) Mb _ hWb FrC.rf (fun j hj => absurd hj (Nat.not_lt_zero j))
  · exact pack (Or.inl e) _ 0 (Nat.zero_add _) Mb (di d (2 * rgN o (c i) 0)) 0 _ hWb FrC.rf (Nat.le_refl _) (hDb.1 _ v8).2.2 h69b (fun _ => rfl) (fun _ => rfl)
  · exact pack (Or.inr e) _ 0 (Nat.zero_add _) Mb (di d (2 * rgN o (c i) 0)) 0 _ hWb FrC.rf (Nat.le_refl _) (hDb.1 _ v8).2.2 h69b (fun _ => rfl) (fun _ => rfl)
  · -- sort
    rw [show insG o (c i) d = (0, -1, dn d (2 * rgN o (c i) 0), setIt d (2 * rgN o (c i) 0) (sortR (ltJ (dk d (2 * rgN o (c i) 0))) (di d (2 * rgN o (c i) 1)) (dn d (2 * rgN o (c i) 0)) 0 (di d (2 * rgN o (c i) 0)))) by rw [e38]; exact insG_38] at hb
    have okf : ∀ j, j < dn d (2 * rgN o (c i) 0) → okJ (dk d (2 * rgN o (c i) 0)) (di d (2 * rgN o (c i) 0) j) := (hd.1 (2 * rgN o (c i) 0) (by omega)).2
    refine c_sort13 hWb hk v8 hnn.2 (hDb.1 _ v8).1 LX okX (hDb.1 _ v8).2.2 okf (fun M2 hW2 f2 hg2 => rX13_moves_330_6 hc hW2 ?_)
    rw [nI_clamp (show rgN o (c i) 0 < 2 ^ 31 by omega), f2.i (by unfold rRow0S; omega), (hDb.1 _ v8).2.1]
    have f3 : FrC (fun a j => rRow0S (rgN o (c i) 0) a j ∨ (a = 605 ∧ j = 69)) Mb (uI M2 605 69 (nI (dn d (2 * rgN o (c i) 0)))) := (f2.mono (fun a j z => Or.inl z)).tr (FrC_uI (Or.inr ⟨rfl, rfl⟩))
    refine ⟨v8p, hb _ (f3.wf hWb) (f3.mono (fun a j z => by unfold rRow0S at z; unfold rinS; omega)) ?_ (fun _ => ⟨?_, ?_⟩) (fun z => absurd rfl z)⟩
    · exact RDc.row hd f3 (fun a j z q => by unfold rRow0S at z; omega) v8 hDb hg2
    · rw [gI_uI, if_pos ⟨rfl, rfl⟩]
    · rw [gI_uI, if_neg (by decide), f2.i (by unfold rRow0S; omega)]
  · -- scan
    subst e39
    exact c_scan13 hWb hCb eo hF hd hDb hOb h69b LX (fun M' a b e f g => rX13_moves_353_3 hc a (hb M' a b e f g))
  · -- half
    have e40 : o = 40 := by unfold MV at ho; omega
    subst e40
    rw [insG_40] at hb
    refine c_half13 hWb hk v8 hnn (hDb.1 _ v8).1 (hDb.1 _ v8).2.1 LX okX (fun z M2 hW2 f2 hv2 x1 x2 => rX13_moves_360_2 hc hW2 ?_) (fun z M2 hW2 f2 x1 => rX13_moves_360_2 hc hW2 ?_)
    · rw [if_pos z, if_pos z, z] at hb
      refine hb M2 hW2 (f2.mono (fun a j y => by unfold rHalS at y; unfold rinS; omega)) ?_ (fun _ => ⟨x1, x2⟩) (fun y => absurd rfl y)
      refine RDc.row hd f2 (fun a j y q => by unfold rHalS at y; omega) v8 hDb (fun j hj => ?_)
      unfold up1
      by_cases e : j = 0
      · subst e
        rw [if_pos rfl, Nat.add_zero]
        exact hv2
      · rw [if_neg e, f2.l (by unfold rHalS; omega), f2.d (by unfold rHalS; omega)]
        exact (hDb.1 _ v8).2.2 j hj
    · rw [if_neg z, if_neg z] at hb
      refine hb M2 hW2 (f2.mono (fun a j y => by unfold rHalS at y; unfold rinS; omega)) ?_ (fun y => absurd y z) (fun _ => x1)
      refine RDc.row hd f2 (fun a j y q => by unfold rHalS at y; omega) v8 hDb (fun j hj => ?_)
      rw [f2.l (by unfold rHalS; omega), f2.d (by unfold rHalS; omega)]
      exact (hDb.1 _ v8).2.2 j hj
end
end RMOVES
