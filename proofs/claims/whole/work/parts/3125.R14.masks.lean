section RMASKS
section
variable {M M' : Mem} {K : RT} {n i : Nat} {c : Nat → Nat → Int64}
theorem opQ (hC : RC M n c i) {k : Nat} (hk : k < 4) : q_X13_operandOf (nI i) (nI k) M ∧ f_X13_operandOf (nI i) (nI k) M = (c i (k + 1)).toInt32 := by
  obtain ⟨-, h2, h3, h4, -⟩ := hC
  unfold q_X13_operandOf f_X13_operandOf
  have e : (4 : Int32) * nI i + nI k = nI (4 * i + k) := by rw [show (4 : Int32) = nI 4 from rfl, pk_mul, nI_add]
  rw [e, nI_clamp (by omega), (h2 i h4).2.1 k hk]
  exact ⟨vpN (by omega) (by decide), rfl⟩
theorem opV (hC : RC M n c i) {k v : Nat} (hk : k < 4) (hv : c i (k + 1) = lN v) : f_X13_operandOf (nI i) (nI k) M = nI v := by rw [(opQ hC hk).2, hv, lN_toI]
theorem c_mask13 {d : DS} {o : Nat} (hW : Wf M) (hC : RC M n c i) (eo : cn (c i) 0 = o) (ho : 46 ≤ o ∧ o < 53) (hD : RDc M d) (h69 : gI M 605 69 = 0) (h : rinC M K (0, -1, 0, maD o (c i) d)) : sp_X13_maskStep [.ref 605, .int (nI i)] M K := by
  obtain ⟨L1, L2⟩ := op_let1 o (List.mem_range.mpr (by omega))
  obtain ⟨o1, o2, o3⟩ := opI hC
  rw [eo] at o2
  have hv := hC.2.2.2.2
  have hD' := hD
  obtain ⟨D1, D2, D3, D4⟩ := hD
  obtain ⟨q0, e0⟩ := opQ hC (k := 0) (by decide)
  obtain ⟨q1, e1⟩ := opQ hC (k := 1) (by decide)
  obtain ⟨q2, e2⟩ := opQ hC (k := 2) (by decide)
  have q0 : q_X13_operandOf (nI i) (0 : Int32) M := q0
  have q1 : q_X13_operandOf (nI i) (1 : Int32) M := q1
  have q2 : q_X13_operandOf (nI i) (2 : Int32) M := q2
  have e0 : f_X13_operandOf (nI i) (0 : Int32) M = (c i 1).toInt32 := e0
  have e1 : f_X13_operandOf (nI i) (1 : Int32) M = (c i 2).toInt32 := e1
  have e2 : f_X13_operandOf (nI i) (2 : Int32) M = (c i 3).toInt32 := e2
  -- a mask is laid
  have setm : ∀ (a : Nat) (x : Int32), a < 4 → maD o (c i) d = setM d a x → K (some (.int 0)) (uI M 630 a x) := fun a x ha e => by
    rw [e] at h
    have fr : FrC rinS M (uI M 630 a x) := FrC_uI (by unfold rinS; omega)
    exact h _ (fr.wf hW) fr (RDc.mask (S := fun b j => b = 630 ∧ j = a) (FrC_uI ⟨rfl, rfl⟩) (fun b j z _ => z) hD' (by rw [gI_uI, if_pos ⟨rfl, rfl⟩])) (fun _ => ⟨h69, rfl⟩) (fun z => absurd rfl z)
  have sets : ∀ (a : Nat) (x : Int64), a < 8 → maD o (c i) d = setS d a x → K (some (.int 0)) (uL M 631 a x) := fun a x ha e => by
    rw [e] at h
    have fr : FrC rinS M (uL M 631 a x) := FrC_uL (by unfold rinS; omega)
    exact h _ (fr.wf hW) fr (RDc.scal (S := fun b j => b = 631 ∧ j = a) (FrC_uL ⟨rfl, rfl⟩) (fun b j z _ => z) hD' (by rw [gL_uL, if_pos ⟨rfl, rfl⟩])) (fun _ => ⟨h69, rfl⟩) (fun z => absurd rfl z)
  refine wX13_maskStep hW (fun {G} hc => ?_)
  rw [e0, e1, e2, o2, show (49 : Int32) = nI 49 from rfl, show (50 : Int32) = nI 50 from rfl, show (46 : Int32) = nI 46 from rfl, show (47 : Int32) = nI 47 from rfl, nI_leI (by omega) (by omega), nI_eq (by omega) (by omega), nI_eq (by omega) (by omega), nI_eq (by omega) (by omega), nI_eq (by omega) (by omega)]
  refine ⟨o1, q0, q1, fun g49 => ⟨fun n49 => ⟨fun n50 => ?_, fun e50 => ?_⟩, fun e49 => ?_⟩, fun l49 => ?_⟩
  · -- count, first
    have hcs : o = 51 ∨ o = 52 := by omega
    have hlt : letN o 0 = 83 ∧ letN o 1 = 77 ∧ (opL o).length = 2 := by
      rcases hcs with rfl | rfl <;> decide +kernel
    obtain ⟨l0, l1, l2⟩ := hlt
    obtain ⟨a1, a2⟩ := hv.s (k := 0) eo (by omega) l0
    obtain ⟨b1, b2⟩ := hv.m (k := 1) eo (by omega) l1
    have a2 : c i 1 = lN (cn (c i) 1) := a2
    have a1 : cn (c i) 1 < 8 := a1
    have b2 : c i 2 = lN (cn (c i) 2) := b2
    have b1 : cn (c i) 2 < 4 := b1
    rw [a2, b2, lN_toI, lN_toI]
    have loop : ∀ t : Nat, t ≤ 32 → ∀ x6 : Int32, x6.toInt64 = ffU (dm d (cn (c i) 2)) (32 - t) t → G 152 [some (.ref 605), some (.int (nI i)), some (.int (nI o)), some (.int (nI (cn (c i) 1))), some (.int (nI (cn (c i) 2))), some (.int (nI (fb_ct (fun q => bt (dm d (cn (c i) 2)) (t + q)) (32 - t)))), some (.int x6), some (.int (iI ((t : Int) - 1)))] [] M := by
      intro t
      induction t with
      | zero =>
        intro _ x6 hx
        refine eX13_maskStep_152 hc hW ⟨fun _ => ?_, fun z => absurd (by decide) z⟩
        rw [show (51 : Int32) = nI 51 from rfl, nI_eq (by omega) (by omega), nI_clamp (by omega)]
        refine ⟨fun n51 => ⟨vpN a1 (by decide), sets _ _ a1 ?_⟩, fun e51 => ⟨vpN a1 (by decide), sets _ _ a1 ?_⟩⟩
        · have : o = 52 := by omega
          subst this
          rw [hx]; rfl
        · subst e51
          have hle : fb_ct (fun q => bt (dm d (cn (c i) 2)) (0 + q)) (32 - 0) ≤ 32 := fb_ct_le _ _
          rw [nI_toL (by omega)]
          show setS d (cn (c i) 1) (lN (cntW (dm d (cn (c i) 2)))) = _
          have e0 : cntW (dm d (cn (c i) 2)) = fb_ct (fun q => bt (dm d (cn (c i) 2)) (0 + q)) (32 - 0) := fb_ct_cong (fun q hq => by rw [Nat.zero_add])
          rw [e0]
      | succ t ih =>
        intro ht x6 hx
        have ek : iI (((t + 1 : Nat) : Int) - 1) = nI t := by rw [show (((t + 1 : Nat) : Int) - 1) = (t : Int) by omega, iI_nat]
        rw [ek]
        have em : nI t + (-1 : Int32) = iI ((t : Int) - 1) := by
          rw [← iI_nat, show (-1 : Int32) = iI (-1) from rfl, iI_add]
          rfl
        refine eX13_maskStep_152 hc hW ⟨fun z => ?_, fun _ => ?_⟩
        · rw [show (0 : Int32) = nI 0 from rfl, nI_ltI (by omega) (by omega)] at z; omega
        · rw [nI_clamp (by omega), D3 _ b1, bit_is _ (show t < 32 by omega), em]
          refine ⟨vpN b1 (by decide), fun y3 hy3 => ⟨vpN b1 (by decide), ?_⟩⟩
          have hon := onW_bt (w := dm d (cn (c i) 2)) (show t < 32 by omega)
          have hbit := zand1 (dm d (cn (c i) 2) >>> (nI t &&& 31))
          have hsplit : fb_ct (fun q => bt (dm d (cn (c i) 2)) (t + q)) (32 - t) = (if bt (dm d (cn (c i) 2)) t then 1 else 0) + fb_ct (fun q => bt (dm d (cn (c i) 2)) (t + 1 + q)) (32 - (t + 1)) := by
            rw [show 32 - t = 1 + (32 - (t + 1)) by omega, fb_ct_split]
            have h1 : fb_ct (fun q => bt (dm d (cn (c i) 2)) (t + q)) 1 = (if bt (dm d (cn (c i) 2)) t then 1 else 0) := Nat.zero_add _
            have h2 : fb_ct (fun k => (fun q => bt (dm d (cn (c i) 2)) (t + q)) (1 + k)) (32 - (t + 1)) = fb_ct (fun q => bt (dm d (cn (c i) 2)) (t + 1 + q)) (32 - (t + 1)) := fb_ct_cong (fun q hq => by
              show bt _ (t + (1 + q)) = _
              rw [← Nat.add_assoc])
            rw [h1, h2]
          have hff : ffU (dm d (cn (c i) 2)) (32 - t) t = if bt (dm d (cn (c i) 2)) t = true then lN t else ffU (dm d (cn (c i) 2)) (32 - (t + 1)) (t + 1) := by
            rw [show 32 - t = (32 - (t + 1)) + 1 by omega]
            rfl
          refine ⟨fun off => ?_, fun on => ?_⟩
          · have nb : ¬ bt (dm d (cn (c i) 2)) t = true := fun z => off (hon.mpr z)
            have z0 : dm d (cn (c i) 2) >>> (nI t &&& 31) &&& 1 = 0 := hbit.resolve_right (fun z => off ((bit_is _ (by omega)).mp z))
            rw [hy3, z0, Int32.add_zero]
            have := ih (by omega) x6 (by rw [hff, if_neg nb]; exact hx)
            rw [hsplit, if_neg nb, Nat.zero_add] at this
            exact this
          · have yb : bt (dm d (cn (c i) 2)) t = true := hon.mp on
            have z1 : dm d (cn (c i) 2) >>> (nI t &&& 31) &&& 1 = 1 := (bit_is _ (by omega)).mpr on
            rw [hy3, z1, nI_1]
            have := ih (by omega) (nI t) (by rw [hff, if_pos yb, nI_toL (by omega)])
            rw [hsplit, if_pos yb, Nat.add_comm 1] at this
            exact this
    have := loop 32 (Nat.le_refl _) (-1) rfl
    exact this
  · -- mset
    subst e50
    obtain ⟨a1, a2⟩ := hv.m (k := 0) eo (by decide +kernel) (by decide +kernel)
    have a1 : cn (c i) 1 < 4 := a1
    have a2 : c i 1 = lN (cn (c i) 1) := a2
    have ei : (4 : Int32) * nI i + (1 : Int32) = nI (4 * i + 1) := by rw [show (4 : Int32) = nI 4 from rfl, pk_mul, nI_1]
    have h100 := hC.2.2.1
    have hi := hC.2.2.2.1
    rw [a2, lN_toI, ei, nI_clamp (by omega), nI_clamp (by omega), (hC.2.1 i hi).2.1 1 (by decide)]
    exact ⟨vpN (by omega) (by decide), vpN a1 (by decide), setm _ _ a1 rfl⟩
  · -- mnot
    subst e49
    obtain ⟨a1, a2⟩ := hv.m (k := 0) eo (by decide +kernel) (by decide +kernel)
    obtain ⟨b1, b2⟩ := hv.m (k := 1) eo (by decide +kernel) (by decide +kernel)
    have a1 : cn (c i) 1 < 4 := a1
    have a2 : c i 1 = lN (cn (c i) 1) := a2
    have b1 : cn (c i) 2 < 4 := b1
    have b2 : c i 2 = lN (cn (c i) 2) := b2
    rw [a2, b2, lN_toI, lN_toI, nI_clamp (by omega), nI_clamp (by omega), D3 _ b1]
    exact ⟨vpN b1 (by decide), vpN a1 (by decide), setm _ _ a1 rfl⟩
  · -- two masks
    have hcs : o = 46 ∨ o = 47 ∨ o = 48 := by omega
    obtain ⟨l0, l1, l2, l3⟩ := L1.1 (by omega) (by omega)
    obtain ⟨a1, a2⟩ := hv.m (k := 0) eo (by omega) l0
    obtain ⟨b1, b2⟩ := hv.m (k := 1) eo (by omega) l1
    obtain ⟨g1, g2⟩ := hv.m (k := 2) eo (by omega) l2
    have a1 : cn (c i) 1 < 4 := a1
    have a2 : c i 1 = lN (cn (c i) 1) := a2
    have b1 : cn (c i) 2 < 4 := b1
    have b2 : c i 2 = lN (cn (c i) 2) := b2
    have g1 : cn (c i) 3 < 4 := g1
    have g2 : c i 3 = lN (cn (c i) 3) := g2
    rw [a2, b2, g2, lN_toI, lN_toI, lN_toI, nI_clamp (show cn (c i) 1 < 2 ^ 31 by omega), nI_clamp (show cn (c i) 2 < 2 ^ 31 by omega), nI_clamp (show cn (c i) 3 < 2 ^ 31 by omega), D3 _ b1, D3 _ g1]
    refine ⟨vpN b1 (by decide), fun y1 hy1 => ⟨q2, vpN g1 (by decide), fun y2 hy2 => ?_⟩⟩
    subst hy1 hy2
    refine ⟨fun n46 => ⟨fun n47 => ⟨vpN a1 (by decide), setm _ _ a1 ?_⟩, fun e47 => ⟨vpN a1 (by decide), setm _ _ a1 ?_⟩⟩, fun e46 => ⟨vpN a1 (by decide), setm _ _ a1 ?_⟩⟩
    · have : o = 48 := by omega
      subst this; rfl
    · subst e47; rfl
    · subst e46; rfl
theorem c_scal13 {d : DS} {o : Nat} (hW : Wf M) (hC : RC M n c i) (eo : cn (c i) 0 = o) (ho : 53 ≤ o ∧ o < 59) (hD : RDc M d) (h69 : gI M 605 69 = 0) (h : rinC M K ((scD o (c i) d).1, -1, 0, (scD o (c i) d).2)) : sp_X13_scalarStep [.ref 605, .int (nI i)] M K := by
  obtain ⟨L1, L2⟩ := op_let2 o (List.mem_range.mpr (by omega))
  obtain ⟨o1, o2, o3⟩ := opI hC
  rw [eo] at o2
  have hv := hC.2.2.2.2
  have hD' := hD
  obtain ⟨D1, D2, D3, D4⟩ := hD
  obtain ⟨q0, e0⟩ := opQ hC (k := 0) (by decide)
  obtain ⟨q1, e1⟩ := opQ hC (k := 1) (by decide)
  obtain ⟨q2, e2⟩ := opQ hC (k := 2) (by decide)
  have q0 : q_X13_operandOf (nI i) (0 : Int32) M := q0
  have q1 : q_X13_operandOf (nI i) (1 : Int32) M := q1
  have q2 : q_X13_operandOf (nI i) (2 : Int32) M := q2
  have e0 : f_X13_operandOf (nI i) (0 : Int32) M = (c i 1).toInt32 := e0
  have e1 : f_X13_operandOf (nI i) (1 : Int32) M = (c i 2).toInt32 := e1
  have e2 : f_X13_operandOf (nI i) (2 : Int32) M = (c i 3).toInt32 := e2
  have sets : ∀ (a : Nat) (x : Int64), a < 8 → scD o (c i) d = (0, setS d a x) → K (some (.int 0)) (uL M 631 a x) := fun a x ha e => by
    rw [e] at h
    have fr : FrC rinS M (uL M 631 a x) := FrC_uL (by unfold rinS; omega)
    exact h _ (fr.wf hW) fr (RDc.scal (S := fun b j => b = 631 ∧ j = a) (FrC_uL ⟨rfl, rfl⟩) (fun b j z _ => z) hD' (by rw [gL_uL, if_pos ⟨rfl, rfl⟩])) (fun _ => ⟨h69, rfl⟩) (fun z => absurd rfl z)
  refine wX13_scalarStep hW (fun {G} hc => ?_)
  rw [e0, e1, e2, o2, show (53 : Int32) = nI 53 from rfl, show (56 : Int32) = nI 56 from rfl, nI_eq (by omega) (by omega), nI_leI (by omega) (by omega)]
  refine ⟨q0, o1, fun n53 => ?_, fun e53 => ?_⟩
  · obtain ⟨l0, l1, l2, l3⟩ := L1.2 (by omega) (by omega)
    obtain ⟨a1, a2⟩ := hv.s (k := 0) eo (by omega) l0
    obtain ⟨b1, b2⟩ := hv.s (k := 1) eo (by omega) l1
    obtain ⟨g1, g2⟩ := hv.s (k := 2) eo (by omega) l2
    have a1 : cn (c i) 1 < 8 := a1
    have a2 : c i 1 = lN (cn (c i) 1) := a2
    have b1 : cn (c i) 2 < 8 := b1
    have b2 : c i 2 = lN (cn (c i) 2) := b2
    have g1 : cn (c i) 3 < 8 := g1
    have g2 : c i 3 = lN (cn (c i) 3) := g2
    rw [a2, b2, g2, lN_toI, lN_toI, lN_toI, nI_clamp (show cn (c i) 2 < 2 ^ 31 by omega), nI_clamp (show cn (c i) 3 < 2 ^ 31 by omega), D4 _ b1, D4 _ g1]
    refine ⟨q1, vpN b1 (by decide), fun y1 hy1 => ⟨q2, vpN g1 (by decide), fun y2 hy2 => ⟨o1, ?_⟩⟩⟩
    subst hy1 hy2
    have go : (56 < o → ¬ dsc d (cn (c i) 3) = 0) → G 86 [some (.ref 605), some (.int (nI i)), some (.int (nI (cn (c i) 1))), some (.long (dsc d (cn (c i) 2))), none, some (.long (dsc d (cn (c i) 3))), none] [] M := by
      intro nz
      refine eX13_scalarStep_86 hc hW ?_
      have a8 : vp_in (nI (cn (c i) 1)) 8 := vpN a1 (by decide)
      rw [o2, show (54 : Int32) = nI 54 from rfl, show (55 : Int32) = nI 55 from rfl, show (56 : Int32) = nI 56 from rfl, show (57 : Int32) = nI 57 from rfl, nI_eq (by omega) (by omega), nI_eq (by omega) (by omega), nI_eq (by omega) (by omega), nI_eq (by omega) (by omega), nI_clamp (by omega)]
      refine ⟨o1, fun n54 => ⟨o1, fun n55 => ⟨o1, fun n56 => ⟨o1, fun n57 => ⟨nz (by omega), a8, sets _ _ a1 ?_⟩, fun e57 => ⟨nz (by omega), a8, sets _ _ a1 ?_⟩⟩, fun e56 => ⟨a8, sets _ _ a1 ?_⟩⟩, fun e55 => ⟨a8, sets _ _ a1 ?_⟩⟩, fun e54 => ⟨a8, sets _ _ a1 ?_⟩⟩
      · have : o = 58 := by omega
        subst this
        show (if dsc d (cn (c i) 3) = 0 then _ else _) = _
        rw [if_neg (nz (by omega))]
        rfl
      · subst e57
        show (if dsc d (cn (c i) 3) = 0 then _ else _) = _
        rw [if_neg (nz (by omega))]
        rfl
      · subst e56; rfl
      · subst e55; rfl
      · subst e54; rfl
    refine ⟨fun le => go (fun z => by omega), fun gt => ⟨fun nz => go (fun _ => nz), fun z => ?_⟩⟩
    have es : scD o (c i) d = (5, d) := by
      have hcs : o = 57 ∨ o = 58 := by omega
      rcases hcs with rfl | rfl
      · exact if_pos z
      · exact if_pos z
    rw [es] at h
    have fr : FrC rinS M (uI M 605 50 (-1)) := FrC_uI (by unfold rinS; omega)
    unfold m_X13_failed
    exact h _ (fr.wf hW) fr (RDc.same (S := fun a j => a = 605) (FrC_uI rfl) (fun a j z => by omega) hD') (fun y => absurd y (show ¬ (5 : Int32) = 0 by decide)) (fun _ => by rw [gI_uI, if_pos ⟨rfl, rfl⟩])
  · subst e53
    obtain ⟨a1, a2⟩ := hv.s (k := 0) eo (by decide +kernel) (by decide +kernel)
    have a1 : cn (c i) 1 < 8 := a1
    have a2 : c i 1 = lN (cn (c i) 1) := a2
    have ei : (4 : Int32) * nI i + (1 : Int32) = nI (4 * i + 1) := by rw [show (4 : Int32) = nI 4 from rfl, pk_mul, nI_1]
    have h100 := hC.2.2.1
    have hi := hC.2.2.2.1
    rw [a2, lN_toI, ei, nI_clamp (by omega), nI_clamp (by omega), (hC.2.1 i hi).2.1 1 (by decide)]
    exact ⟨vpN (by omega) (by decide), vpN a1 (by decide), sets _ _ a1 rfl⟩
end
end RMASKS
