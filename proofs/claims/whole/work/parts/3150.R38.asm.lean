section RASM
section
variable {M M' : Mem} {K : RT} {t : Nat → Nat} {n : Nat} {st : PS} {s : SG} {Fr : Mem → Nat → (Nat → Nat → Int64) → Prop}
theorem nar_by (x : Int32) : vp_nar .byte (x.toInt8.toInt32) = x.toInt8.toInt32 := by
  show (x.toInt8.toInt32).toInt8.toInt32 = _
  rw [Int8.toInt8_toInt32]
theorem sh24 : ∀ k ∈ List.range 4, ((nI (24 - 8 * k) &&& 31).toBitVec.smod 32).toNat = 24 - 8 * k := by decide +kernel
theorem sg_f {w : Int32} {k : Nat} (hk : k < 4) : (w >>> (nI (24 - 8 * k) &&& 31)).toInt8.toInt32 = sgB (byF w k) := by
  unfold sgB
  have hs := sh24 k (List.mem_range.mpr hk)
  have e : (w >>> (nI (24 - 8 * k) &&& 31)).toInt8 = (nI (byF w k)).toInt8 := by
    apply Int8.toBitVec_inj.mp
    show (w >>> (nI (24 - 8 * k) &&& 31)).toBitVec.signExtend 8 = (nI (byF w k)).toBitVec.signExtend 8
    rw [Int32.toBitVec_shiftRight, BitVec.sshiftRight_eq', hs]
    apply BitVec.eq_of_getLsbD_eq
    intro i hi
    have a1 : (24 - 8 * k) + i < 32 := by omega
    have a2 : i < 32 := by omega
    rw [BitVec.getLsbD_signExtend, BitVec.getLsbD_signExtend, BitVec.getLsbD_sshiftRight]
    have hb : (nI (byF w k)).toBitVec.getLsbD i = (byF w k).testBit i := by
      show (BitVec.ofNat 32 (byF w k)).getLsbD i = _
      rw [BitVec.getLsbD_ofNat]
      simp [a2]
    rw [hb]
    unfold byF
    rw [show (256 : Nat) = 2 ^ 8 from rfl, Nat.testBit_mod_two_pow, Nat.testBit_div_two_pow, ← BitVec.getLsbD]
    have c1 : ¬ 32 ≤ i := by omega
    have c2 : i < 8 := hi
    have a3 : i + (24 - 8 * k) < 32 := by omega
    simp [a1, a2, a3, c1, c2, Nat.add_comm]
  rw [e]
/-- what is fed -/
def fdW (a b c d e : Int32) (k : Nat) : Int32 := if k < 4 then a else if k < 8 then b else if k < 12 then c else if k < 16 then d else e
theorem f24 : ∀ k ∈ List.range 20, (24 : Int32) - (8 : Int32) * (nI k - nI k / 4 * 4) = nI (24 - 8 * (k % 4)) := by decide +kernel
theorem b_feed {a b c d e : Int32} (hFr : FrOK Fr) (hW : Wf M) (hI : RI Fr M s) (h : ∀ M', Wf M' → FrC rfS M M' → RI Fr M' (sFeed a b c d e s).2 → gI M' 605 2 = 0 → K (some (.int (sFeed a b c d e s).1)) M') : sp_X13_feed [.ref 605, .int a, .int b, .int c, .int d, .int e] M K := by
  obtain ⟨k1, k2, k3, k4⟩ := hI.end0 hFr hW (x := 0)
  have hT := hI.1.1
  have hh := hT.1
  unfold sFeed at h
  generalize hH : (gTp s).1 = H at h hh
  have g4 : gI M 605 4 = nI H := by rw [← hH]; exact hT.2.1
  refine wX13_feed hW (fun {G} hc => ?_)
  rw [g4, show (20 : Int32) = nI 20 from rfl, nI_add, show (4000 : Int32) = nI 4000 from rfl, nI_leI (by omega) (by decide)]
  refine ⟨fun z => ?_, fun z => by rw [if_neg z] at h; exact h _ k1 k2 k3 k4⟩
  rw [if_pos z] at h
  have loop : ∀ f k : Nat, k + f = 20 → ∀ (M1 : Mem) (o7 : Option Value), FrC (fun a j => a = 608 ∨ (a = 605 ∧ j = 4)) (uI M 605 2 0) M1 → gI M1 605 4 = nI (H + k) → (∀ j, j < H → gI M1 608 j = gI M 608 j) → (∀ q, q < k → gI M1 608 (H + q) = sgB (byF (fdW a b c d e q) (q % 4))) → G 23 [some (.ref 605), some (.int a), some (.int b), some (.int c), some (.int d), some (.int e), some (.int (nI k)), o7] [] M1 := by
    intro f
    induction f with
    | zero =>
      intro k hk M1 o7 f1 h4 hlo hhi
      have hk : k = 20 := by omega
      subst hk
      refine eX13_feed_23 hc (f1.wf k1) ⟨fun _ => ?_, fun z => absurd (by decide) z⟩
      obtain ⟨⟨o1, o2, o3, o4, o5, o6⟩, hX⟩ := k3
      refine h M1 (f1.wf k1) (k2.tr (f1.mono (fun a j z => by unfold rfS; omega))) ⟨⟨⟨z, h4, fun j hj => ?_⟩, o2.fr f1 (fun a j z => by unfold rPgc prS; omega), o3.fr f1 (fun j => by omega), o4.fr f1 (fun j => by omega), o5.fr f1 (fun a j z => by unfold rKpc; omega), o6.fr hFr f1 (by omega) (fun a j z => by omega)⟩, hX.fr f1 (fun a j z => by unfold rXc; omega)⟩ (by rw [f1.i (by omega)]; exact k4)
      have hj : j < H + 20 := hj
      have lt : ∀ w k, byF w k < 256 := fun w k => Nat.mod_lt _ (by decide)
      show gI M1 608 j = sgB (if j < H then (gTp s).2 j else if j < H + 4 then byF a (j - H) else if j < H + 8 then byF b (j - H - 4) else if j < H + 12 then byF c (j - H - 8) else if j < H + 16 then byF d (j - H - 12) else byF e (j - H - 16)) ∧ (if j < H then (gTp s).2 j else if j < H + 4 then byF a (j - H) else if j < H + 8 then byF b (j - H - 4) else if j < H + 12 then byF c (j - H - 8) else if j < H + 16 then byF d (j - H - 12) else byF e (j - H - 16)) < 256
      by_cases g0 : j < H
      · rw [if_pos g0, hlo j g0]
        exact hT.2.2 j (by omega)
      rw [if_neg g0]
      have hq := hhi (j - H) (by omega)
      rw [show H + (j - H) = j by omega] at hq
      unfold fdW at hq
      by_cases g1 : j < H + 4
      · rw [if_pos g1]
        rw [if_pos (by omega), show (j - H) % 4 = j - H by omega] at hq
        exact ⟨hq, lt _ _⟩
      rw [if_neg g1]
      rw [if_neg (by omega)] at hq
      by_cases g2 : j < H + 8
      · rw [if_pos g2]
        rw [if_pos (by omega), show (j - H) % 4 = j - H - 4 by omega] at hq
        exact ⟨hq, lt _ _⟩
      rw [if_neg g2]
      rw [if_neg (by omega)] at hq
      by_cases g3 : j < H + 12
      · rw [if_pos g3]
        rw [if_pos (by omega), show (j - H) % 4 = j - H - 8 by omega] at hq
        exact ⟨hq, lt _ _⟩
      rw [if_neg g3]
      rw [if_neg (by omega)] at hq
      by_cases g5 : j < H + 16
      · rw [if_pos g5]
        rw [if_pos (by omega), show (j - H) % 4 = j - H - 12 by omega] at hq
        exact ⟨hq, lt _ _⟩
      rw [if_neg g5]
      rw [if_neg (by omega), show (j - H) % 4 = j - H - 16 by omega] at hq
      exact ⟨hq, lt _ _⟩
    | succ f ih =>
      intro k hk M1 o7 f1 h4 hlo hhi
      have byte : ∀ s0, s0 = fdW a b c d e k → G 76 [some (.ref 605), some (.int a), some (.int b), some (.int c), some (.int d), some (.int e), some (.int (nI k)), o7] [.int s0] M1 := by
        intro s0 e0
        refine eX13_feed_76 hc (f1.wf k1) ?_
        have e24 := f24 k (List.mem_range.mpr (by omega))
        rw [h4, nI_clamp (by omega), e24, nar_by, sg_f (Nat.mod_lt _ (by decide)), nI_1, nI_1]
        have f2 : FrC (fun a j => (a = 608 ∧ j = H + k) ∨ (a = 605 ∧ j = 4)) M1 (uI (uI M1 608 (H + k) (sgB (byF s0 (k % 4)))) 605 4 (nI (H + k + 1))) := (FrC_uI (by omega)).tr (FrC_uI (by omega))
        refine ⟨vpN (by omega) (by decide), ih (k + 1) (by omega) _ _ (f1.tr (f2.mono (fun a j z => by omega))) (by rw [gI_uI, if_pos ⟨rfl, rfl⟩]; rfl) (fun j hj => by rw [f2.i (by omega)]; exact hlo j hj) (fun q hq => ?_)⟩
        by_cases w : q = k
        · subst w
          rw [gI_uI, if_neg (by omega), gI_uI, if_pos ⟨rfl, rfl⟩, e0]
        · rw [f2.i (by omega)]; exact hhi q (by omega)
      refine eX13_feed_23 hc (f1.wf k1) ?_
      rw [show (20 : Int32) = nI 20 from rfl, show (4 : Int32) = nI 4 from rfl, show (8 : Int32) = nI 8 from rfl, show (12 : Int32) = nI 12 from rfl, show (16 : Int32) = nI 16 from rfl, nI_leI (by decide) (by omega), nI_leI (by decide) (by omega), nI_leI (by decide) (by omega), nI_leI (by decide) (by omega), nI_leI (by decide) (by omega)]
      unfold fdW at byte
      refine ⟨fun w => absurd w (by omega), fun _ => ⟨fun a4 => ⟨fun a8 => ⟨fun a12 => ⟨fun a16 => byte _ ?_, fun a16 => byte _ ?_⟩, fun a12 => byte _ ?_⟩, fun a8 => byte _ ?_⟩, fun a4 => byte _ ?_⟩⟩
      · rw [if_neg (by omega), if_neg (by omega), if_neg (by omega), if_neg (by omega)]
      · rw [if_neg (by omega), if_neg (by omega), if_neg (by omega), if_pos (by omega)]
      · rw [if_neg (by omega), if_neg (by omega), if_pos (by omega)]
      · rw [if_neg (by omega), if_pos (by omega)]
      · rw [if_pos (by omega)]
  exact loop 20 0 rfl _ _ FrC.rf (by rw [gI_uI, if_neg (by omega)]; exact g4) (fun j hj => by rw [gI_uI, if_neg (by omega)]) (fun q hq => absurd hq (Nat.not_lt_zero q))
end
end RASM
