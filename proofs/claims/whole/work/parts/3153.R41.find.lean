section RFLOW2
section
variable {M M' M'' : Mem} {K : RT} {n : Nat} {c : Nat → Nat → Int64}
/-- the place of a way -/
def wq (w : Nat) : Nat := if w = 0 then 224 else w - 1
/-- what the cells tell holds -/
def Snd (n : Nat) (c : Nat → Nat → Int64) (M : Mem) : Prop := (∀ j, j < 100 → gI M 649 j = 1 → Fa n c j 2048) ∧ ∀ i v w, i < 100 → v < 8 → w < 225 → gI M 648 (1800 * i + (225 * v + w)) = 1 → Fa n c i (v * 256 + wq w)
def CloR (M : Mem) (c : Nat → Nat → Int64) (i j : Nat) : Prop := gI M 649 j = 1 ∧ ∀ k, k < 1800 → isW M c i k → gI M 648 (1800 * j + k) = 1
theorem isW.same {i k : Nat} (hi : i < 100) (hk : k < 1800) (hs : ∀ a j, flC a j → gI M' a j = gI M a j) : isW M' c i k ↔ isW M c i k := by
  unfold isW
  rw [hs 648 _ (Or.inl ⟨rfl, by omega⟩)]
theorem CloR.same {i j : Nat} (hi : i < 100) (hj : j < 100) (hs : ∀ a j, flC a j → gI M' a j = gI M a j) (h : CloR M c i j) : CloR M' c i j :=
  ⟨by rw [hs 649 j (Or.inr ⟨rfl, hj⟩)]; exact h.1, fun k hk z => by rw [hs 648 _ (Or.inl ⟨rfl, by omega⟩)]; exact h.2 k hk ((isW.same hi hk hs).mp z)⟩
/-- a step keeps what holds -/
theorem Snd.step {i to : Nat} (hP : PQ M n c) (hi : i < n) (hto : to < n) (hS : Snd n c M) (hF : Fa n c i 2048) (hs : sucS n c i to) (hE : EXf M M' c i to) : Snd n c M' := by
  have n100 := hP.2.1
  refine ⟨fun j hj z => ?_, fun j v w hj hv hw z => ?_⟩
  · rcases (hE.1 j hj).mp z with y | y
    · exact hS.1 j hj y
    · subst y; exact hF.st hs (Or.inl ⟨rfl, rfl⟩)
  · rcases (hE.2 _ (by omega)).mp z with y | ⟨k, k1, k2, k3⟩
    · exact hS.2 j v w hj hv hw y
    · have ej : j = to := by omega
      subst ej
      have ek : k = 225 * v + w := by omega
      subst ek
      have e1 : (225 * v + w) / 225 = v := by omega
      have e2 : (225 * v + w) % 225 = w := by omega
      unfold isW at k3
      rw [e1, e2] at k3
      rcases k3 with ⟨a1, a2, a3⟩ | ⟨a1, a2⟩
      · obtain ⟨-, -, s5, s6, -⟩ := (hP.2.2.2 i hi).set a1
        have : v * 256 + wq w = setF c i := by
          unfold wq setF
          rw [if_neg (by omega), ← a2]
          omega
        rw [this]
        exact hF.st hs (Or.inr (Or.inl ⟨rfl, a1, rfl⟩))
      · have hg := hS.2 i v w (by omega) hv hw a2
        have wl : wq w ≤ 224 := by unfold wq; split <;> omega
        refine hg.st hs (Or.inr (Or.inr ⟨by omega, rfl, fun y => a1 ⟨y.1, ?_⟩⟩))
        have : (v * 256 + wq w) / 256 = v := by omega
        omega
theorem CloR.of {i to : Nat} (hi : i < 100) (hto : to < 100) (hg : GrW M M') (hE : EXf M M' c i to) (hz : gI M' 605 75 = 0) : CloR M' c i to := by
  have hs := (hg.2.2.2.1 hz).2
  refine ⟨(hE.1 to hto).mpr (Or.inr rfl), fun k hk z => (hE.2 _ (by omega)).mpr (Or.inr ⟨k, hk, rfl, (isW.same hi hk hs).mp z⟩)⟩
/-- what is known behind some steps from i: to the ones in D -/
def Aft (n : Nat) (c : Nat → Nat → Int64) (i : Nat) (D : Nat → Prop) (M M' : Mem) : Prop := GrW M M' ∧ Snd n c M' ∧ (gI M' 605 75 = 0 → ∀ j, D j → j < n → CloR M' c i j)
theorem c_stp13 {i to : Nat} {D : Nat → Prop} (hW : Wf M) (hB : B01 M) (hP : PQ M n c) (hi : i < n) (hto : to < 2 ^ 31) (hF : Fa n c i 2048) (hs : to < n → sucS n c i to) (hA : Aft n c i D M M') (h : ∀ M'', Aft n c i (fun j => D j ∨ j = to) M M'' → K none M'') : sp_X13_flowsTo [.ref 605, .int (nI i), .int (nI to)] M' K := by
  obtain ⟨g, s, d⟩ := hA
  have n100 := hP.2.1
  refine c_flowsTo13 (g.1.wf hW) g.2.1 (hP.gr g.1) hi hto (fun M2 g2 e2 n2 => h M2 ⟨g.tr hB g2, ?_, fun z j hj hjn => ?_⟩)
  · by_cases w : to < n
    · exact Snd.step (hP.gr g.1) hi w s hF (hs w) (e2 w)
    · rw [n2 w]; exact s
  · obtain ⟨z1, z2⟩ := g2.2.2.2.1 z
    rcases hj with hj | hj
    · exact (d z1 j hj hjn).same (by omega) (by omega) z2
    · subst hj
      exact CloR.of (by omega) (by omega) g2 (e2 hjn) z
theorem Aft.rf {i : Nat} (hB : B01 M) (hS : Snd n c M) : Aft n c i (fun _ => False) M M := ⟨GrW.rf hB, hS, fun _ _ hj => hj.elim⟩
theorem Aft.mono {i : Nat} {D E : Nat → Prop} (h : Aft n c i D M M') (hs : ∀ j, j < n → E j → D j) : Aft n c i E M M' := ⟨h.1, h.2.1, fun z j hj hn => h.2.2 z j (hs j hn hj) hn⟩
theorem c_flowsOn13 {i : Nat} (hW : Wf M) (hB : B01 M) (hP : PQ M n c) (hi : i < n) (hF : Fa n c i 2048) (hS : Snd n c M) (h : ∀ M', Aft n c i (fun j => sucS n c i j) M M' → K none M') : sp_X13_flowsOn [.ref 605, .int (nI i)] M K := by
  have n100 := hP.2.1
  have hv := hP.2.2.2 i hi
  have o68 := hv.o.1
  refine wX13_flowsOn hW (fun {G} hc => ?_)
  rw [nI_clamp (by omega), (hP.1 i hi).1, lead_tab _ (List.mem_range.mpr o68)]
  have iq : ∀ q, q < 68 → (nI (cn (c i) 0) = nI q ↔ cn (c i) 0 = q) := fun q hq => nI_eq (by omega) (by omega)
  have i66 : (nI (cn (c i) 0) = 66) ↔ cn (c i) 0 = 66 := iq 66 (by decide)
  have i59 : (nI (cn (c i) 0) = 59) ↔ cn (c i) 0 = 59 := iq 59 (by decide)
  have i65 : (nI (cn (c i) 0) = 65) ↔ cn (c i) 0 = 65 := iq 65 (by decide)
  have i67 : (nI (cn (c i) 0) = 67) ↔ cn (c i) 0 = 67 := iq 67 (by decide)
  -- behind the lead
  have on : ∀ (M1 : Mem) (o2 o3 : Option Value), Aft n c i (fun j => 0 < leadN (cn (c i) 0) ∧ j = ldV (c i)) M M1 → G 25 [some (.ref 605), some (.int (nI i)), o2, o3] [] M1 := by
    intro M1 o2 o3 hA
    have hP1 := hP.gr hA.1.1
    have vp : vp_in (nI i) 100 := vpN (by omega) (by decide)
    refine eX13_flowsOn_25 hc (hA.1.1.wf hW) ?_
    rw [nI_clamp (by omega), (hP1.1 i hi).1, i66, i59, i65, i67]
    refine ⟨vp, fun n66 => ⟨vp, fun y59 => h M1 (hA.mono (fun j _ hj => ?_)), fun n59 => ⟨vp, fun y65 => h M1 (hA.mono (fun j _ hj => ?_)), fun n65 => ⟨vp, fun y67 => h M1 (hA.mono (fun j _ hj => ?_)), fun n67 => ?_⟩⟩⟩, fun y66 => ?_⟩
    · unfold sucS at hj
      rcases hj.2.2 with z | z | z
      · exact z
      · omega
      · omega
    · unfold sucS at hj
      rcases hj.2.2 with z | z | z
      · exact z
      · omega
      · omega
    · unfold sucS at hj
      rcases hj.2.2 with z | z | z
      · exact z
      · omega
      · omega
    · rw [nI_1]
      refine c_stp13 hW hB hP hi (by omega) hF (fun hn => ⟨hi, hn, Or.inr (Or.inl ⟨n59, n65, n66, n67, rfl⟩)⟩) hA (fun M2 hA2 => rX13_flowsOn_107_5 hc (hA2.1.1.wf hW) (h M2 (hA2.mono (fun j _ hj => ?_))))
      unfold sucS at hj
      rcases hj.2.2 with z | z | z
      · exact Or.inl z
      · exact Or.inr z.2.2.2.2
      · omega
    · have loop : ∀ f p : Nat, p + f = n → ∀ (M2 : Mem) (o2 : Option Value), Aft n c i (fun j => (0 < leadN (cn (c i) 0) ∧ j = ldV (c i)) ∨ ∃ k, k < p ∧ cn (c k) 0 = 65 ∧ j = k + 1) M M2 → G 38 [some (.ref 605), some (.int (nI i)), o2, some (.int (nI p))] [] M2 := by
        intro f
        induction f with
        | zero =>
          intro p hp M2 o2 hA2
          have hP2 := hP.gr hA2.1.1
          refine eX13_flowsOn_38 hc (hA2.1.1.wf hW) ⟨fun _ => h M2 (hA2.mono (fun j _ hj => ?_)), fun z => absurd (by rw [hP2.2.2.1]; exact nI_le (by omega) (by omega)) z⟩
          unfold sucS at hj
          rcases hj.2.2 with z | z | z
          · exact Or.inl z
          · omega
          · obtain ⟨-, k, k1, k2, k3⟩ := z
            exact Or.inr ⟨k, by omega, k2, k3⟩
        | succ f ih =>
          intro p hp M2 o2 hA2
          have hP2 := hP.gr hA2.1.1
          have hpn : p < n := by omega
          have p68 := (hP.2.2.2 p hpn).o.1
          have e65 : nI (cn (c p) 0) = 65 ↔ cn (c p) 0 = 65 := nI_eq (b := 65) (by omega) (by decide)
          refine eX13_flowsOn_38 hc (hA2.1.1.wf hW) ?_
          rw [hP2.2.2.1, nI_leI (by omega) (by omega), nI_clamp (by omega), (hP2.1 p hpn).1, e65, nI_1]
          refine ⟨fun z => absurd z (by omega), fun _ => ⟨vpN (by omega) (by decide), ?_⟩⟩
          refine ⟨fun z => ih (p + 1) (by omega) M2 _ (hA2.mono (fun j _ hj => ?_)), fun z => ?_⟩
          · rcases hj with hj | ⟨k, k1, k2, k3⟩
            · exact Or.inl hj
            · refine Or.inr ⟨k, ?_, k2, k3⟩
              by_cases e : k = p
              · subst e; exact absurd k2 z
              · omega
          · refine c_stp13 hW hB hP hi (by omega) hF (fun hn => ⟨hi, hn, Or.inr (Or.inr ⟨y66, p, hpn, z, rfl⟩)⟩) hA2 (fun M3 hA3 => rX13_flowsOn_57_5 hc (hA3.1.1.wf hW) ?_)
            rw [nI_1]
            refine ih (p + 1) (by omega) M3 _ (hA3.mono (fun j _ hj => ?_))
            rcases hj with hj | ⟨k, k1, k2, k3⟩
            · exact Or.inl (Or.inl hj)
            · by_cases e : k = p
              · subst e; exact Or.inr k3
              · exact Or.inl (Or.inr ⟨k, by omega, k2, k3⟩)
      exact loop n 0 (by omega) M1 _ (hA.mono (fun j _ hj => hj.elim id (fun ⟨k, k1, _⟩ => absurd k1 (Nat.not_lt_zero k))))
  refine ⟨vpN (by omega) (by decide), fun y1 hy => ?_⟩
  by_cases hl : 0 < leadN (cn (c i) 0)
  · rw [if_pos hl] at hy
    subst hy
    obtain ⟨q1, q2, q3⟩ := opL_ hP hi hl
    have l3 := leadN_le (o := cn (c i) 0)
    refine ⟨fun y => absurd y (nI_pos (by omega)), fun _ => ⟨q1, ?_⟩⟩
    rw [q2]
    exact c_stp13 hW hB hP hi (by omega) hF (fun hn => ⟨hi, hn, Or.inl ⟨hl, rfl⟩⟩) (Aft.rf hB hS) (fun M2 hA2 => rX13_flowsOn_14_6 hc (hA2.1.1.wf hW) (on M2 _ _ (hA2.mono (fun j _ hj => Or.inr hj.2))))
  · rw [if_neg hl] at hy
    subst hy
    exact ⟨fun _ => on M _ _ ((Aft.rf hB hS).mono (fun j _ hj => absurd hj.1 hl)), fun y => absurd (by decide) y⟩
end
end RFLOW2
