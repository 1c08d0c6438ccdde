section RGOOD2
section
variable {M M' : Mem} {K : RT} {n i : Nat} {c : Nat → Nat → Int64}
def isShB (L : Nat) : Bool := L == 107 || L == 119 || L == 114
def fitB (o s j k : Nat) : Bool := if j < cntR o 4 then kdB (letN o (posR o j)) k && (!isShB (letN o (posR o j)) || k == s) else true
def rg7 (o j : Nat) : List Nat := if j < cntR o 4 then List.range 7 else [8]
theorem gs_tab : ∀ o ∈ List.range 46, o ≠ 0 → ∀ k0 ∈ rg7 o 0, ∀ k1 ∈ rg7 o 1, ∀ k2 ∈ rg7 o 2, (gdN o k0 0 k0 && gdN o k0 1 k1 && gdN o k0 2 k2) = (List.range 7).any (fun s => fitB o s 0 k0 && fitB o s 1 k1 && fitB o s 2 k2) := by decide +kernel
theorem g2_tab : ∀ o ∈ List.range 46, o ≠ 0 → 2 < cntR o 4 → ∀ k0 ∈ List.range 7, ∀ k2 ∈ List.range 7, gdN o k0 2 k2 = true → k2 = if o = 34 then 3 else k0 := by decide +kernel
theorem p80_tab : ∀ o ∈ List.range 46, o ≠ 0 → ∀ q ∈ List.range (opL o).length, (letN o q = 80 ↔ (o = 44 ∧ q = 2) ∨ (o = 45 ∧ q = 1)) ∧ (97 ≤ letN o q ∧ letN o q ≤ 122 → cntR o q < cntR o 4 ∧ posR o (cntR o q) = q) := by decide +kernel
theorem p46_tab : ∀ o ∈ List.range 68, (o = 0 ∨ 46 ≤ o) → ∀ q ∈ List.range (opL o).length, letN o q ≠ 80 ∧ (o = 0 ∨ ¬ (97 ≤ letN o q ∧ letN o q ≤ 122)) := by decide +kernel
theorem isSh_i {L : Nat} : isShB L = true ↔ isSh L := by
  unfold isShB isSh
  simp only [Bool.or_eq_true, beq_iff_eq]
  omega
theorem fit_i {o s j k : Nat} (hj : j < cntR o 4) : fitB o s j k = true ↔ kdL (letN o (posR o j)) k ∧ (isSh (letN o (posR o j)) → k = s) := by
  unfold fitB
  rw [if_pos hj, Bool.and_eq_true, kdB_is, Bool.or_eq_true, Bool.not_eq_true', beq_iff_eq]
  refine and_congr_right (fun _ => ?_)
  rw [← isSh_i]
  cases isShB (letN o (posR o j)) <;> simp
theorem fit_n {o s j k : Nat} (hj : ¬ j < cntR o 4) : fitB o s j k = true := by unfold fitB; rw [if_neg hj]
/-- the reference's way to say it -/
def goodR (n : Nat) (c : Nat → Nat → Int64) (i : Nat) : Prop := ∃ p q, 1 ≤ p ∧ p < 225 ∧ 1 ≤ q ∧ q < 225 ∧ mayW n c i (rgN (cn (c i) 0) (c i) 0) p ∧ (1 < cntR (cn (c i) 0) 4 → mayW n c i (rgN (cn (c i) 0) (c i) 1) q) ∧ (¬ 1 < cntR (cn (c i) 0) 4 → q = 224) ∧ gby n c i p q
theorem may_i {v k b : Nat} : mayW n c i v (1 + 32 * k + b) ↔ Fa n c i (v * 256 + k * 32 + b) := by
  unfold mayW wq
  rw [if_neg (by omega), show v * 256 + (1 + 32 * k + b - 1) = v * 256 + k * 32 + b by omega]
theorem good_lr (h46 : cn (c i) 0 < 46) (h0 : cn (c i) 0 ≠ 0) (h : goodS n c i) : goodR n c i := by
  obtain ⟨s, b, hs, hb, hall⟩ := h
  obtain ⟨pa, m1, m2⟩ := pos_all (cn (c i) 0) (List.mem_range.mpr h46)
  have m2 := m2.1
  have tb := p80_tab (cn (c i) 0) (List.mem_range.mpr h46) h0
  unfold goodR gby
  -- a kind for each register
  have one : ∀ j, j < cntR (cn (c i) 0) 4 → ∃ k, k < 7 ∧ okK (c i) s (rgN (cn (c i) 0) (c i) j) k ∧ Fa n c i (rgN (cn (c i) 0) (c i) j * 256 + k * 32 + b) := fun j hj => by
    obtain ⟨a1, a2, a3⟩ := pa j (List.mem_range.mpr (by omega)) hj
    exact (hall _ a1).1 ⟨a2, h0⟩
  have fit : ∀ j k, j < cntR (cn (c i) 0) 4 → okK (c i) s (rgN (cn (c i) 0) (c i) j) k → fitB (cn (c i) 0) s j k = true := fun j k hj hk => by
    obtain ⟨a1, a2, a3⟩ := pa j (List.mem_range.mpr (by omega)) hj
    exact (fit_i hj).mpr (hk _ a1 a2 rfl)
  have g44 : cn (c i) 0 = 44 → cn (c i) 3 ≤ b := fun z => by
    have l := l44P
    exact (hall 2 (by rw [z]; exact l.1)).2 (by rw [z]; exact l.2.1)
  have g45 : cn (c i) 0 = 45 → cn (c i) 2 ≤ b := fun z => by
    have l := l44P
    exact (hall 1 (by rw [z]; exact l.2.2.1)).2 (by rw [z]; exact l.2.2.2)
  have gs := gs_tab (cn (c i) 0) (List.mem_range.mpr h46) h0
  have g2 := g2_tab (cn (c i) 0) (List.mem_range.mpr h46) h0
  generalize cn (c i) 0 = o at *
  generalize hR : rgN o (c i) = R at *
  obtain ⟨k0, a0, b0, c0⟩ := one 0 (by omega)
  -- the second
  obtain ⟨k1, a1, b1, c1⟩ : ∃ k1, (1 < cntR o 4 → k1 < 7 ∧ okK (c i) s (R 1) k1 ∧ Fa n c i (R 1 * 256 + k1 * 32 + b)) ∧ (¬ 1 < cntR o 4 → k1 = 8) ∧ (1 < cntR o 4 → R 1 = R 0 → k1 = k0) := by
    by_cases w : 1 < cntR o 4
    · by_cases e : R 1 = R 0
      · exact ⟨k0, fun _ => ⟨a0, by rw [e]; exact b0, by rw [e]; exact c0⟩, fun y => absurd w y, fun _ _ => rfl⟩
      · obtain ⟨k, x1, x2, x3⟩ := one 1 w
        exact ⟨k, fun _ => ⟨x1, x2, x3⟩, fun y => absurd w y, fun _ y => absurd y e⟩
    · exact ⟨8, fun y => absurd y w, fun _ => rfl, fun y => absurd y w⟩
  obtain ⟨k2, a2, b2, c2⟩ : ∃ k2, (2 < cntR o 4 → k2 < 7 ∧ okK (c i) s (R 2) k2 ∧ Fa n c i (R 2 * 256 + k2 * 32 + b)) ∧ (¬ 2 < cntR o 4 → k2 = 8) ∧ (2 < cntR o 4 → (R 2 = R 0 → k2 = k0) ∧ (R 2 = R 1 → k2 = k1)) := by
    by_cases w : 2 < cntR o 4
    · by_cases e : R 2 = R 0
      · refine ⟨k0, fun _ => ⟨a0, by rw [e]; exact b0, by rw [e]; exact c0⟩, fun y => absurd w y, fun _ => ⟨fun _ => rfl, fun y => ?_⟩⟩
        exact (c1 (by omega) (by rw [← y, e])).symm
      · by_cases e1 : R 2 = R 1
        · obtain ⟨x1, x2, x3⟩ := a1 (by omega)
          exact ⟨k1, fun _ => ⟨x1, by rw [e1]; exact x2, by rw [e1]; exact x3⟩, fun y => absurd w y, fun _ => ⟨fun y => absurd y e, fun _ => rfl⟩⟩
        · obtain ⟨k, x1, x2, x3⟩ := one 2 w
          exact ⟨k, fun _ => ⟨x1, x2, x3⟩, fun y => absurd w y, fun _ => ⟨fun y => absurd y e, fun y => absurd y e1⟩⟩
    · exact ⟨8, fun y => absurd y w, fun _ => rfl, fun y => absurd y w⟩
  have r0 : k0 ∈ rg7 o 0 := by unfold rg7; rw [if_pos (by omega)]; exact List.mem_range.mpr a0
  have r1 : k1 ∈ rg7 o 1 := by
    unfold rg7
    by_cases w : 1 < cntR o 4
    · rw [if_pos w]; exact List.mem_range.mpr (a1 w).1
    · rw [if_neg w, b1 w]; exact List.mem_singleton.mpr rfl
  have r2 : k2 ∈ rg7 o 2 := by
    unfold rg7
    by_cases w : 2 < cntR o 4
    · rw [if_pos w]; exact List.mem_range.mpr (a2 w).1
    · rw [if_neg w, b2 w]; exact List.mem_singleton.mpr rfl
  have tg := gs k0 r0 k1 r1 k2 r2
  have f1 : fitB o s 1 k1 = true := by
    by_cases w : 1 < cntR o 4
    · exact fit 1 k1 w (a1 w).2.1
    · exact fit_n w
  have f2 : fitB o s 2 k2 = true := by
    by_cases w : 2 < cntR o 4
    · exact fit 2 k2 w (a2 w).2.1
    · exact fit_n w
  have hgd : (gdN o k0 0 k0 && gdN o k0 1 k1 && gdN o k0 2 k2) = true := by
    rw [tg, List.any_eq_true]
    exact ⟨s, List.mem_range.mpr hs, by rw [fit 0 k0 (by omega) b0, f1, f2]; rfl⟩
  rw [Bool.and_eq_true, Bool.and_eq_true] at hgd
  have e3 : 2 < cntR o 4 → rw3 o (1 + 32 * k0 + b) = 1 + 32 * k2 + b := fun w => by
    have := g2 w k0 (List.mem_range.mpr a0) k2 (List.mem_range.mpr (a2 w).1) hgd.2
    unfold rw3
    by_cases y : o = 34
    · rw [if_pos y] at this ⊢; omega
    · rw [if_neg y] at this ⊢; omega
  have d0 : (1 + 32 * k0 + b - 1) / 32 = k0 ∧ (1 + 32 * k0 + b - 1) % 32 = b := by omega
  refine ⟨1 + 32 * k0 + b, if 1 < cntR o 4 then 1 + 32 * k1 + b else 224, by omega, by omega, ?_, ?_, may_i.mpr c0, fun w => ?_, fun w => if_neg w, fun w e => ?_, fun w => ?_, fun z => ?_, fun z => ?_, ?_, ?_, ?_, fun w => ?_⟩
  · split
    · omega
    · omega
  · by_cases w : 1 < cntR o 4
    · rw [if_pos w]; have := (a1 w).1; omega
    · rw [if_neg w]; omega
  · rw [if_pos w]; exact may_i.mpr (a1 w).2.2
  · rw [if_pos w, c1 w e]
  · rw [e3 w, if_pos (by omega)]
    refine ⟨may_i.mpr (a2 w).2.2, fun y => ?_, fun y => ?_⟩
    · rw [(c2 w).1 y]
    · rw [(c2 w).2 y]
  · rw [d0.2]; have := g44 z; omega
  · rw [d0.2]; have := g45 z; omega
  · rw [d0.1]; exact hgd.1.1
  · rw [d0.1]
    by_cases w : 1 < cntR o 4
    · rw [if_pos w, if_pos w, show (1 + 32 * k1 + b - 1) / 32 = k1 by omega]; exact hgd.1.2
    · rw [if_neg w, ← b1 w]; exact hgd.1.2
  · rw [d0.1]
    by_cases w : 2 < cntR o 4
    · rw [if_pos w, e3 w, show (1 + 32 * k2 + b - 1) / 32 = k2 by omega]; exact hgd.2
    · rw [if_neg w, ← b2 w]; exact hgd.2
  · rw [if_pos w]; omega
theorem good_rl (h46 : cn (c i) 0 < 46) (h0 : cn (c i) 0 ≠ 0) (h : goodR n c i) : goodS n c i := by
  obtain ⟨p, q, p1, p2, q1, q2, hp, hq, hq2, hg⟩ := h
  obtain ⟨pa, m1, m2⟩ := pos_all (cn (c i) 0) (List.mem_range.mpr h46)
  have m2 := m2.1
  have tb := p80_tab (cn (c i) 0) (List.mem_range.mpr h46) h0
  have gs := gs_tab (cn (c i) 0) (List.mem_range.mpr h46) h0
  unfold gby at hg
  unfold goodS okK
  have hcn : ∀ q', q' < (opL (cn (c i) 0)).length → isRL (letN (cn (c i) 0) q') → cn (c i) (q' + 1) = rgN (cn (c i) 0) (c i) (cntR (cn (c i) 0) q') := fun q' hq' hr => by
    have := ((tb q' (List.mem_range.mpr hq')).2 hr).2
    unfold rgN
    rw [this]
  generalize cn (c i) 0 = o at *
  generalize hR : rgN o (c i) = R at *
  obtain ⟨g1, g2, g3, g4, g5, g6, g7, g8⟩ := hg
  have rr := rw3_lt (o := o) p1 p2
  -- the kinds
  have r0 : (p - 1) / 32 ∈ rg7 o 0 := by unfold rg7; rw [if_pos (by omega)]; exact List.mem_range.mpr (by omega)
  have r1 : (if 1 < cntR o 4 then (q - 1) / 32 else 8) ∈ rg7 o 1 := by
    unfold rg7
    by_cases w : 1 < cntR o 4
    · rw [if_pos w, if_pos w]; exact List.mem_range.mpr (by omega)
    · rw [if_neg w, if_neg w]; exact List.mem_singleton.mpr rfl
  have r2 : (if 2 < cntR o 4 then (rw3 o p - 1) / 32 else 8) ∈ rg7 o 2 := by
    unfold rg7
    by_cases w : 2 < cntR o 4
    · rw [if_pos w, if_pos w]; exact List.mem_range.mpr (by omega)
    · rw [if_neg w, if_neg w]; exact List.mem_singleton.mpr rfl
  have tg := gs _ r0 _ r1 _ r2
  rw [g5, g6, g7] at tg
  have tg := tg.symm
  rw [show (true && true && true) = true from rfl, List.any_eq_true] at tg
  obtain ⟨s, s7, fs⟩ := tg
  rw [Bool.and_eq_true, Bool.and_eq_true] at fs
  have s7 := List.mem_range.mp s7
  -- register j has the kind kk j
  have kk : ∃ kk : Nat → Nat, (∀ j, j < cntR o 4 → kk j < 7 ∧ fitB o s j (kk j) = true ∧ Fa n c i (R j * 256 + kk j * 32 + (p - 1) % 32)) ∧ ∀ j j', j < cntR o 4 → j' < cntR o 4 → R j = R j' → kk j = kk j' := by
    refine ⟨fun j => if j = 0 then (p - 1) / 32 else if j = 1 then (q - 1) / 32 else (rw3 o p - 1) / 32, fun j hj => ?_, fun j j' hj hj' e => ?_⟩
    · have hc : j = 0 ∨ j = 1 ∨ j = 2 := by omega
      rcases hc with rfl | rfl | rfl
      · show (p - 1) / 32 < 7 ∧ fitB o s 0 ((p - 1) / 32) = true ∧ Fa n c i (R 0 * 256 + (p - 1) / 32 * 32 + (p - 1) % 32)
        refine ⟨by omega, fs.1.1, ?_⟩
        have := may_i (n := n) (c := c) (i := i) (v := R 0) (k := (p - 1) / 32) (b := (p - 1) % 32)
        rw [show 1 + 32 * ((p - 1) / 32) + (p - 1) % 32 = p by omega] at this
        exact this.mp hp
      · show (q - 1) / 32 < 7 ∧ fitB o s 1 ((q - 1) / 32) = true ∧ Fa n c i (R 1 * 256 + (q - 1) / 32 * 32 + (p - 1) % 32)
        have f := fs.1.2
        rw [if_pos hj] at f
        refine ⟨by omega, f, ?_⟩
        have := may_i (n := n) (c := c) (i := i) (v := R 1) (k := (q - 1) / 32) (b := (p - 1) % 32)
        rw [show 1 + 32 * ((q - 1) / 32) + (p - 1) % 32 = q by have := g8 hj; omega] at this
        exact this.mp (hq hj)
      · show (rw3 o p - 1) / 32 < 7 ∧ fitB o s 2 ((rw3 o p - 1) / 32) = true ∧ Fa n c i (R 2 * 256 + (rw3 o p - 1) / 32 * 32 + (p - 1) % 32)
        have f := fs.2
        rw [if_pos hj] at f
        refine ⟨by omega, f, ?_⟩
        have := may_i (n := n) (c := c) (i := i) (v := R 2) (k := (rw3 o p - 1) / 32) (b := (p - 1) % 32)
        rw [show 1 + 32 * ((rw3 o p - 1) / 32) + (p - 1) % 32 = rw3 o p by omega] at this
        exact this.mp (g2 hj).1
    · have hc : j = 0 ∨ j = 1 ∨ j = 2 := by omega
      have hc' : j' = 0 ∨ j' = 1 ∨ j' = 2 := by omega
      rcases hc with rfl | rfl | rfl <;> rcases hc' with rfl | rfl | rfl
      · rfl
      · have := g1 hj' e.symm
        simp; omega
      · have := (g2 hj').2.1 e.symm
        simp; omega
      · have := g1 hj e
        simp; omega
      · rfl
      · have := (g2 hj').2.2 e.symm
        simp; omega
      · have := (g2 hj).2.1 e
        simp; omega
      · have := (g2 hj).2.2 e
        simp; omega
      · rfl
  obtain ⟨kk, k1, k2⟩ := kk
  refine ⟨s, (p - 1) % 32, s7, Nat.mod_lt _ (by decide), fun q' hq' => ⟨fun ⟨hr, _⟩ => ?_, fun h80 => ?_⟩⟩
  · obtain ⟨j1, j2⟩ := (tb q' (List.mem_range.mpr hq')).2 hr
    obtain ⟨x1, x2, x3⟩ := k1 _ j1
    refine ⟨kk (cntR o q'), x1, fun q'' hq'' hr'' e => ?_, ?_⟩
    · obtain ⟨i1, i2⟩ := (tb q'' (List.mem_range.mpr hq'')).2 hr''
      rw [hcn q'' hq'' hr'', hcn q' hq' hr] at e
      rw [← k2 _ _ i1 j1 e]
      have := (fit_i i1).mp (k1 _ i1).2.1
      rw [i2] at this
      exact this
    · rw [hcn q' hq' hr]; exact x3
  · rcases ((tb q' (List.mem_range.mpr hq')).1.mp h80) with ⟨z1, z2⟩ | ⟨z1, z2⟩
    · subst z2
      have := g3 z1
      show cn (c i) 3 ≤ _
      omega
    · subst z2
      have := g4 z1
      show cn (c i) 2 ≤ _
      omega
theorem good_no (hv : VI n (c i)) (h : cn (c i) 0 = 0 ∨ 46 ≤ cn (c i) 0) : goodS n c i := by
  have tb := p46_tab (cn (c i) 0) (List.mem_range.mpr hv.o.1) h
  refine ⟨0, 0, by decide, by decide, fun q hq => ⟨fun z => ?_, fun z => absurd z (tb q (List.mem_range.mpr hq)).1⟩⟩
  rcases (tb q (List.mem_range.mpr hq)).2 with y | y
  · exact absurd y z.2
  · exact absurd z.1 y
theorem c_isGood13 (hW : Wf M) (hC : RC M n c i) (hF : FlR M n c) (h : K (some (.int (pI (goodS n c i)))) M) : sp_X13_isGood [.ref 605, .int (nI i)] M K := by
  have n100 := hC.2.2.1
  have hi := hC.2.2.2.1
  have hv := hC.2.2.2.2
  obtain ⟨o1, o2, o3⟩ := opI hC
  refine wX13_isGood hW (fun {G} hc => ?_)
  refine c_regOf (k := 0) hW hC (by decide) (rX13_isGood_0_3 hc hW (c_regOf (k := 1) hW hC (by decide) (rX13_isGood_0_8 hc hW ?_)))
  have i0 : nI (cn (c i) 0) = 0 ↔ cn (c i) 0 = 0 := nI_eq (b := 0) (by omega) (by decide)
  rw [o2, i0]
  refine ⟨o1, fun z => ?_, fun n0 => ?_⟩
  · rw [pI_t (good_no hv (Or.inl z))] at h; exact h
  by_cases h46 : cn (c i) 0 < 46
  rotate_left
  · have e0 : regI (cn (c i) 0) (c i) 0 = -1 := by unfold regI; rw [if_neg (fun y => h46 y.1)]
    rw [e0]
    refine ⟨fun z => absurd z (by decide), fun _ => ?_⟩
    rw [pI_t (good_no hv (Or.inr (by omega)))] at h; exact h
  obtain ⟨-, m1, m2⟩ := pos_all (cn (c i) 0) (List.mem_range.mpr h46)
  have m2 := m2.1
  have rl := fun j (hj : j < cntR (cn (c i) 0) 4) => (rg_is h46 hv.vc hj).1
  have heq : goodS n c i ↔ goodR n c i := ⟨good_lr h46 n0, good_rl h46 n0⟩
  rw [pI_congr heq] at h
  have e0 : regI (cn (c i) 0) (c i) 0 = nI (rgN (cn (c i) 0) (c i) 0) := by unfold regI; rw [if_pos ⟨h46, by omega⟩]
  have e1 : regI (cn (c i) 0) (c i) 1 = if 1 < cntR (cn (c i) 0) 4 then nI (rgN (cn (c i) 0) (c i) 1) else -1 := by
    unfold regI
    by_cases w : 1 < cntR (cn (c i) 0) 4
    · rw [if_pos ⟨h46, w⟩, if_pos w]
    · rw [if_neg (fun y => w y.2), if_neg w]
  have b0 := rl 0 (by omega)
  rw [e0]
  refine ⟨fun _ => ?_, fun y => absurd (nI_pos' (by omega)) y⟩
  have yes : ∀ p q, 1 ≤ p → p < 225 → 1 ≤ q → q < 225 → mayW n c i (rgN (cn (c i) 0) (c i) 0) p → (1 < cntR (cn (c i) 0) 4 → mayW n c i (rgN (cn (c i) 0) (c i) 1) q) → (¬ 1 < cntR (cn (c i) 0) 4 → q = 224) → gby n c i p q → K (some (.int (1 : Int32))) M := fun p q a1 a2 a3 a4 a5 a6 a7 a8 => by
    rw [pI_t ⟨p, q, a1, a2, a3, a4, a5, a6, a7, a8⟩] at h; exact h
  have loop : ∀ f p : Nat, p + f = 225 → 1 ≤ p → (∀ p', 1 ≤ p' → p' < p → ¬ ∃ q, 1 ≤ q ∧ q < 225 ∧ mayW n c i (rgN (cn (c i) 0) (c i) 0) p' ∧ (1 < cntR (cn (c i) 0) 4 → mayW n c i (rgN (cn (c i) 0) (c i) 1) q) ∧ (¬ 1 < cntR (cn (c i) 0) 4 → q = 224) ∧ gby n c i p' q) → ∀ o5, G 32 [some (.ref 605), some (.int (nI i)), some (.int (nI (rgN (cn (c i) 0) (c i) 0))), some (.int (regI (cn (c i) 0) (c i) 1)), some (.int (nI p)), o5] [] M := by
    intro f
    induction f with
    | zero =>
      intro p hp hp1 hno o5
      have hp : p = 225 := by omega
      subst hp
      refine eX13_isGood_32 hc hW ⟨fun _ => ?_, fun z => absurd (by decide) z⟩
      rw [pI_f (fun ⟨p, q, a1, a2, a3, a4, a5⟩ => hno p a1 a2 ⟨q, a3, a4, a5⟩)] at h
      exact h
    | succ f ih =>
      intro p hp hp1 hno o5
      obtain ⟨y1, y2⟩ := mb_is (w := p) hF (show i < 100 by omega) b0 (by omega)
      have next : (¬ ∃ q, 1 ≤ q ∧ q < 225 ∧ mayW n c i (rgN (cn (c i) 0) (c i) 0) p ∧ (1 < cntR (cn (c i) 0) 4 → mayW n c i (rgN (cn (c i) 0) (c i) 1) q) ∧ (¬ 1 < cntR (cn (c i) 0) 4 → q = 224) ∧ gby n c i p q) → ∀ o5, G 32 [some (.ref 605), some (.int (nI i)), some (.int (nI (rgN (cn (c i) 0) (c i) 0))), some (.int (regI (cn (c i) 0) (c i) 1)), some (.int (nI (p + 1))), o5] [] M := fun z o5 =>
        ih (p + 1) (by omega) (by omega) (fun p' h1 h2 => by
          by_cases e : p' = p
          · subst e; exact z
          · exact hno p' h1 (by omega)) o5
      -- over the second register's ways
      have inner : mayW n c i (rgN (cn (c i) 0) (c i) 0) p → ∀ f q : Nat, q + f = 225 → 1 ≤ q → (¬ 1 < cntR (cn (c i) 0) 4 → 224 ≤ q) → (∀ q', 1 ≤ q' → q' < q → ¬ ((1 < cntR (cn (c i) 0) 4 → mayW n c i (rgN (cn (c i) 0) (c i) 1) q') ∧ (¬ 1 < cntR (cn (c i) 0) 4 → q' = 224) ∧ gby n c i p q')) → G 67 [some (.ref 605), some (.int (nI i)), some (.int (nI (rgN (cn (c i) 0) (c i) 0))), some (.int (regI (cn (c i) 0) (c i) 1)), some (.int (nI p)), some (.int (nI q))] [] M := by
        intro hpm f
        induction f with
        | zero =>
          intro q hq hq1 hq2 hnq
          have hq : q = 225 := by omega
          subst hq
          refine eX13_isGood_67 hc hW ⟨fun _ => ?_, fun z => absurd (by decide) z⟩
          rw [nI_1]
          exact next (fun ⟨q, a1, a2, a3, a4, a5, a6⟩ => hnq q a1 a2 ⟨a4, a5, a6⟩) _
        | succ f ih2 =>
          intro q hq hq1 hq2 hnq
          have step : (¬ ((1 < cntR (cn (c i) 0) 4 → mayW n c i (rgN (cn (c i) 0) (c i) 1) q) ∧ (¬ 1 < cntR (cn (c i) 0) 4 → q = 224) ∧ gby n c i p q)) → G 67 [some (.ref 605), some (.int (nI i)), some (.int (nI (rgN (cn (c i) 0) (c i) 0))), some (.int (regI (cn (c i) 0) (c i) 1)), some (.int (nI p)), some (.int (nI (q + 1)))] [] M := fun z =>
            ih2 (q + 1) (by omega) (by omega) (fun y => by have := hq2 y; omega) (fun q' h1 h2 => by
              by_cases e : q' = q
              · subst e; exact z
              · exact hnq q' h1 (by omega))
          have try1 : (1 < cntR (cn (c i) 0) 4 → mayW n c i (rgN (cn (c i) 0) (c i) 1) q) → (¬ 1 < cntR (cn (c i) 0) 4 → q = 224) → sp_X13_isGoodBy [.ref 605, .int (nI i), .int (nI p), .int (nI q)] M (fun v M' => RX13_isGood_90_4 G K [some (.ref 605), some (.int (nI i)), some (.int (nI (rgN (cn (c i) 0) (c i) 0))), some (.int (regI (cn (c i) 0) (c i) 1)), some (.int (nI p)), some (.int (nI q))] (v.toList ++ []) M') := fun z1 z2 => by
            refine c_goodBy13 hW hC hF h46 hp1 (by omega) hq1 (by omega) (rX13_isGood_90_4 hc hW ?_)
            rw [pI_0, nI_1]
            exact ⟨fun y => step (fun w => y w.2.2), fun y => yes p q hp1 (by omega) hq1 (by omega) hpm z1 z2 (Classical.not_not.mp y)⟩
          refine eX13_isGood_67 hc hW ⟨fun z => absurd ((nI_leI (a := 225) (by decide) (by omega)).mp z) (by omega), fun _ => ?_⟩
          by_cases w : 1 < cntR (cn (c i) 0) 4
          · have b1 := rl 1 w
            have ee : regI (cn (c i) 0) (c i) 1 = nI (rgN (cn (c i) 0) (c i) 1) := by rw [e1, if_pos w]
            obtain ⟨u1, u2⟩ := mb_is (w := q) hF (show i < 100 by omega) b1 (by omega)
            rw [ee] at try1 step ⊢
            rw [u2, nI_1]
            refine ⟨fun y => absurd y (nI_pos (by omega)), fun _ => ⟨u1, fun y => step (fun x => y (x.1 w)), fun y => try1 (fun _ => Classical.not_not.mp y) (fun x => absurd w x)⟩⟩
          · have ee : regI (cn (c i) 0) (c i) 1 = -1 := by rw [e1, if_neg w]
            rw [ee] at try1 ⊢
            exact ⟨fun _ => try1 (fun x => absurd x w) (fun _ => by have := hq2 w; omega), fun y => absurd (by decide) y⟩
      refine eX13_isGood_32 hc hW ⟨fun z => absurd ((nI_leI (a := 225) (by decide) (by omega)).mp z) (by omega), fun _ => ⟨y1, ?_⟩⟩
      rw [y2, nI_1]
      refine ⟨fun z => ?_, fun z => next (fun ⟨q, _, _, x, _⟩ => z x) _⟩
      have z := Classical.not_not.mp z
      by_cases w : 1 < cntR (cn (c i) 0) 4
      · have b1 := rl 1 w
        have ee : regI (cn (c i) 0) (c i) 1 = nI (rgN (cn (c i) 0) (c i) 1) := by rw [e1, if_pos w]
        refine ⟨fun _ => inner z 224 1 rfl (Nat.le_refl _) (fun x => absurd w x) (fun q' h1 h2 => by omega), fun y => absurd ?_ y⟩
        rw [ee]; exact nI_pos' (by omega)
      · have ee : regI (cn (c i) 0) (c i) 1 = -1 := by rw [e1, if_neg w]
        refine ⟨fun y => absurd y (by rw [ee]; decide), fun _ => inner z 1 224 rfl (by decide) (fun _ => Nat.le_refl _) (fun q' h1 h2 x => ?_)⟩
        have := x.2.1 w
        omega
  exact loop 224 1 rfl (Nat.le_refl _) (fun p' h1 h2 => by omega) _
end
end RGOOD2
