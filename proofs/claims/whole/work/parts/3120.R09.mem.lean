section RMEM
section
variable {M M' : Mem} {K : RT} {n i : Nat} {c : Nat → Nat → Int64}
theorem in_m {v : Int64} {m : Nat} (hm : m ≤ 64) : P_X13_in v (0 : Int64) ((nI m).toInt64 - (1 : Int64)) ↔ inS v m := by
  rcases Nat.eq_zero_or_pos m with z | z
  · subst z
    unfold P_X13_in inS
    rw [show ((nI 0).toInt64 - (1 : Int64)) = -1 from by decide, Int64.lt_iff_toInt_lt, Int64.lt_iff_toInt_lt, Int64.le_iff_toInt_le, Int64.lt_iff_toInt_lt, l6_int (by omega), show (0 : Int64).toInt = 0 from by decide, show (-1 : Int64).toInt = -1 from by decide]
    omega
  · exact in_is ⟨z, hm⟩
theorem let26 : ∀ o ∈ List.range 46, 26 ≤ o ∧ o ≤ 29 → 0 < cntR o 4 ∧ posR o 0 = 0 ∧ usA o = true ∧ (o = 26 ∨ o = 27 → 1 < cntR o 4 ∧ posR o 1 = 2) ∧ (o = 28 ∨ o = 29 → usS o = true ∧ posS o = 2) := by decide +kernel
/-- the operands of a memory instruction -/
theorem memOps {o : Nat} (hC : RC M n c i) (eo : cn (c i) 0 = o) (ho : 26 ≤ o ∧ o ≤ 29) : (rgN o (c i) 0 < 8 ∧ q_X13_operandOf (nI i) (0 : Int32) M ∧ f_X13_operandOf (nI i) (0 : Int32) M = nI (rgN o (c i) 0)) ∧ (arN (c i) < 8 ∧ q_X13_operandOf (nI i) (1 : Int32) M ∧ f_X13_operandOf (nI i) (1 : Int32) M = nI (arN (c i))) ∧ (o = 26 ∨ o = 27 → rgN o (c i) 1 < 8 ∧ q_X13_operandOf (nI i) (2 : Int32) M ∧ f_X13_operandOf (nI i) (2 : Int32) M = nI (rgN o (c i) 1)) ∧ (o = 28 ∨ o = 29 → scN o (c i) < 8 ∧ q_X13_operandOf (nI i) (2 : Int32) M ∧ f_X13_operandOf (nI i) (2 : Int32) M = nI (scN o (c i))) := by
  have o46 : o < 46 := by omega
  obtain ⟨t1, t2, t3, t4, t5⟩ := let26 o (List.mem_range.mpr o46) ho
  have hv : VC o (c i) := by have := hC.2.2.2.2.vc; rw [eo] at this; exact this
  refine ⟨?_, ?_, fun z => ?_, fun z => ?_⟩
  · obtain ⟨r1, r2⟩ := rg_is o46 hv t1
    rw [t2] at r2
    have := opOf (k := 0) hC (by decide) r2
    exact ⟨r1, this.1, this.2⟩
  · obtain ⟨r1, r2⟩ := ar_is o46 hv t3
    have := opOf (k := 1) hC (by decide) r2
    exact ⟨r1, this.1, this.2⟩
  · obtain ⟨a1, a2⟩ := t4 z
    obtain ⟨r1, r2⟩ := rg_is o46 hv a1
    rw [a2] at r2
    have := opOf (k := 2) hC (by decide) r2
    exact ⟨r1, this.1, this.2⟩
  · obtain ⟨a1, a2⟩ := t5 z
    obtain ⟨r1, r2⟩ := sc_is o46 hv a1
    rw [a2] at r2
    have := opOf (k := 2) hC (by decide) r2
    exact ⟨r1, this.1, this.2⟩
def flB (o : Nat) : Int32 := if o = 26 ∨ o = 27 then 1 else 0
/-- up to the lanes -/
theorem mem_pre {d : DS} {o : Nat} (hW : Wf M) (hC : RC M n c i) (eo : cn (c i) 0 = o) (ho : 26 ≤ o ∧ o ≤ 29) (hD : RDc M d)
    (h1 : mfA o (dk d (2 * rgN o (c i) 0)) (dk d (2 * arN (c i) + 1)) ≠ 0 → ∀ M', Wf M' → FrC (fun a j => a = 605 ∧ j = 50) M M' → gI M' 605 50 = -1 → K (some (.int (mfA o (dk d (2 * rgN o (c i) 0)) (dk d (2 * arN (c i) + 1))))) M')
    (h2 : mfA o (dk d (2 * rgN o (c i) 0)) (dk d (2 * arN (c i) + 1)) = 0 → ∀ {G : Nat → KT}, cloX13_memoryStep G K wT → ∀ Mb, Wf Mb → FrC (fun a _ => a = 643 ∨ a = 644) M Mb → (o = 26 ∨ o = 27 → ∀ j, j < 32 → gL Mb 643 j = gL M 626 (32 * rgN o (c i) 1 + j)) → ∀ o7 o8 o9 o10 o11, G 112 [some (.ref 605), some (.int (nI i)), some (.int (nI o)), some (.int (nI (rgN o (c i) 0))), some (.int (nI (arN (c i)))), some (.int (flB o)), some (.int (nI 0)), o7, o8, o9, o10, o11] [] Mb) : sp_X13_memoryStep [.ref 605, .int (nI i)] M K := by
  obtain ⟨⟨v8, q0, e0⟩, ⟨a8, q1, e1⟩, hr, hs⟩ := memOps hC eo ho
  obtain ⟨o1, o2, o3⟩ := opI hC
  obtain ⟨D1, D2, D3, D4⟩ := hD
  refine wX13_memoryStep hW (fun {G} hc => ?_)
  have n26 : nI o = 26 ↔ o = 26 := nI_eq (b := 26) (by omega) (by decide)
  have n27 : nI o = 27 ↔ o = 27 := nI_eq (b := 27) (by omega) (by decide)
  rw [e0, e1, o2, eo, n26, n27, nI_clamp (by omega), nI_clamp (by omega), (D2 _ a8).1, (D1 _ v8).1]
  have em : mfA o (dk d (2 * rgN o (c i) 0)) (dk d (2 * arN (c i) + 1)) = (if dk d (2 * arN (c i) + 1) = -1 then 3 else if dk d (2 * arN (c i) + 1) = dk d (2 * rgN o (c i) 0) then 0 else 1) := by
    unfold mfA
    rw [if_pos ho]
  rw [em] at h1 h2
  refine ⟨o1, q0, q1, vpN a8 (by decide), fun na => ⟨vpN a8 (by decide), vpN v8 (by decide), fun e => ?_, fun ne => ?_⟩, fun an => ?_⟩
  · rw [if_neg na, if_pos e] at h2
    have h2 := h2 rfl hc
    have go : ∀ s0 : Int32, s0 = flB o → G 80 [some (.ref 605), some (.int (nI i)), some (.int (nI o)), some (.int (nI (rgN o (c i) 0))), some (.int (nI (arN (c i)))), none, none, none, none, none, none, none] [.int s0] M := by
      intro s0 es
      subst es
      refine eX13_memoryStep_80 hc hW ⟨fun z => ?_, fun z => ?_⟩
      · have nb : ¬ (o = 26 ∨ o = 27) := fun y => by unfold flB at z; rw [if_pos y] at z; exact absurd z (by decide)
        exact c_copyL hW (Or.inl ⟨rfl, rfl⟩) v8 (fun Mb hWb fb cb => rX13_memoryStep_98_4 hc hWb (h2 Mb hWb fb (fun y => absurd y nb) _ _ _ _ _))
      · have b : o = 26 ∨ o = 27 := Classical.byContradiction (fun y => z (by unfold flB; rw [if_neg y]))
        obtain ⟨r1, r2, r3⟩ := hr b
        rw [r3]
        exact ⟨r2, c_copyL hW (Or.inl ⟨rfl, rfl⟩) r1 (fun Mb hWb fb cb => rX13_memoryStep_98_4 hc hWb (h2 Mb hWb fb (fun _ j hj => (cb j hj).1) _ _ _ _ _))⟩
    refine ⟨fun z => go 1 (by unfold flB; rw [if_pos (Or.inl z)]), fun n26 => ⟨fun n27 => go 0 (by unfold flB; rw [if_neg (by omega)]), fun z => go 1 (by unfold flB; rw [if_pos (Or.inr z)])⟩⟩
  · rw [if_neg na, if_neg ne] at h1
    exact h1 (by decide) _ ((FrC_uI (S := fun a j => a = 605 ∧ j = 50) ⟨rfl, rfl⟩).wf hW) (FrC_uI ⟨rfl, rfl⟩) (by unfold m_X13_failed; rw [gI_uI, if_pos ⟨rfl, rfl⟩])
  · rw [if_pos an] at h1
    exact h1 (by decide) _ ((FrC_uI (S := fun a j => a = 605 ∧ j = 50) ⟨rfl, rfl⟩).wf hW) (FrC_uI ⟨rfl, rfl⟩) (by unfold m_X13_failed; rw [gI_uI, if_pos ⟨rfl, rfl⟩])
/-- a lane: which element -/
theorem mem_head {d : DS} {o p nn : Nat} {X : Nat → Int64} {G : Nat → KT} (hc : cloX13_memoryStep G K wT) (hW : Wf M) (hC : RC M n c i) (eo : cn (c i) 0 = o) (ho : 26 ≤ o ∧ o ≤ 29) (hO : gI M 605 70 = olR (c i) d) (hp : p < nn) (hn : nn ≤ 32) (hl : gI M 625 (rgN o (c i) 0) = nI nn) (hS : ∀ q, q < 8 → gL M 631 q = dsc d q) (hX : o = 26 ∨ o = 27 → gL M 643 p = X p) {o7 o8 o9 o10 o11 : Option Value}
    (hoff : ¬ onW (onS (nI nn) (c i) (dm d)) p → G 112 [some (.ref 605), some (.int (nI i)), some (.int (nI o)), some (.int (nI (rgN o (c i) 0))), some (.int (nI (arN (c i)))), some (.int (flB o)), some (.int (nI (p + 1))), o7, o8, o9, o10, o11] [] M)
    (hon : onW (onS (nI nn) (c i) (dm d)) p → ∀ o7, G 195 [some (.ref 605), some (.int (nI i)), some (.int (nI o)), some (.int (nI (rgN o (c i) 0))), some (.int (nI (arN (c i)))), some (.int (flB o)), some (.int (nI p)), o7, none, o9, o10, o11] [.long (elS o X (dsc d (scN o (c i))) p)] M) :
    G 112 [some (.ref 605), some (.int (nI i)), some (.int (nI o)), some (.int (nI (rgN o (c i) 0))), some (.int (nI (arN (c i)))), some (.int (flB o)), some (.int (nI p)), o7, o8, o9, o10, o11] [] M := by
  obtain ⟨⟨v8, -, -⟩, -, -, hs⟩ := memOps hC eo ho
  obtain ⟨n1, n2⟩ := isOn_is (d := d) (j := p) (nn := nn) hC hO hp hn
  obtain ⟨w1, w2⟩ := lane_vp (j := p) (by omega)
  refine eX13_memoryStep_112 hc hW ?_
  rw [nI_clamp (show rgN o (c i) 0 < 2 ^ 31 by omega), hl, n2, nI_1, w2]
  refine ⟨vpN v8 (by decide), fun z => absurd ((nI_leI (by omega) (by omega)).mp z) (by omega), fun _ => ⟨n1, fun on => ⟨fun z => ?_, fun z => ⟨w1, ?_⟩⟩, fun off => hoff off⟩⟩
  · have nb : ¬ (o = 26 ∨ o = 27) := fun y => by unfold flB at z; rw [if_pos y] at z; exact absurd z (by decide)
    obtain ⟨s1, s2, s3⟩ := hs (by omega)
    rw [s3, nI_clamp (by omega), hS _ s1]
    refine ⟨s2, vpN s1 (by decide), eX13_memoryStep_162 hc hW ⟨fun _ => ?_, fun y => absurd z y⟩⟩
    have h := hon on
    unfold elS at h
    rw [if_neg nb] at h
    rw [nI_toL (by omega)]
    refine ⟨fun a => ?_, fun a => ?_⟩
    · rw [if_neg (fun y => by rw [i64_lt] at y; exact y a)] at h; exact h _
    · rw [if_pos ((i64_lt _ _).mpr a)] at h; exact h _
  · have b : o = 26 ∨ o = 27 := Classical.byContradiction (fun y => z (by unfold flB; rw [if_neg y]))
    rw [hX b]
    refine eX13_memoryStep_162 hc hW ⟨fun y => absurd y z, fun _ => ?_⟩
    have h := hon on
    unfold elS at h
    rw [if_pos b] at h
    exact h _
end
end RMEM
