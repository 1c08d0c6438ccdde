section SCAL
section
variable {n : Nat} {c : Nat → Int64} {d : DS} {M : Mem}
theorem op_let1 : ∀ o ∈ List.range 68, ((46 ≤ o → o ≤ 48 → letN o 0 = 77 ∧ letN o 1 = 77 ∧ letN o 2 = 77 ∧ (opL o).length = 3) ∧ (o = 49 → letN o 0 = 77 ∧ letN o 1 = 77 ∧ (opL o).length = 2)) ∧ ((o = 50 → letN o 0 = 77 ∧ letN o 1 = 85 ∧ (opL o).length = 2) ∧ (51 ≤ o → o ≤ 52 → letN o 0 = 83 ∧ letN o 1 = 77 ∧ (opL o).length = 2)) := by decide +kernel
theorem op_let2 : ∀ o ∈ List.range 68, ((o = 53 → letN o 0 = 83 ∧ letN o 1 = 78 ∧ (opL o).length = 2) ∧ (54 ≤ o → o ≤ 58 → letN o 0 = 83 ∧ letN o 1 = 83 ∧ letN o 2 = 83 ∧ (opL o).length = 3)) ∧ ((o = 59 ∨ o = 65 → letN o 0 = 76 ∧ (opL o).length = 1) ∧ (60 ≤ o → o ≤ 63 → letN o 0 = 83 ∧ letN o 1 = 83 ∧ letN o 2 = 76 ∧ (opL o).length = 3)) := by decide +kernel
theorem op_let3 : ∀ o ∈ List.range 68, (o = 64 → letN o 0 = 83 ∧ letN o 1 = 76 ∧ (opL o).length = 2) ∧ (66 ≤ o → (opL o).length = 0) := by decide +kernel
/-- a mask's, a scalar's, a place's operand -/
theorem VI.m {o k : Nat} (h : VI n c) (ho : cn c 0 = o) (hk : k < (opL o).length) (hl : letN o k = 77) : cn c (k + 1) < 4 ∧ c (k + 1) = lN (cn c (k + 1)) := by
  obtain ⟨-, h2, -⟩ := h.at ho
  obtain ⟨v, v1, v2⟩ := (h2 k hk).2.1 hl
  have e : cn c (k + 1) = v := cn_lN v2 (by omega)
  rw [e]
  exact ⟨v1, v2⟩
theorem VI.s {o k : Nat} (h : VI n c) (ho : cn c 0 = o) (hk : k < (opL o).length) (hl : letN o k = 83) : cn c (k + 1) < 8 ∧ c (k + 1) = lN (cn c (k + 1)) := by
  obtain ⟨-, h2, -⟩ := h.at ho
  obtain ⟨v, v1, v2⟩ := (h2 k hk).1 (Or.inr (Or.inr hl))
  have e : cn c (k + 1) = v := cn_lN v2 (by omega)
  rw [e]
  exact ⟨v1, v2⟩
theorem VI.l {o k : Nat} (hn : n ≤ 100) (h : VI n c) (ho : cn c 0 = o) (hk : k < (opL o).length) (hl : letN o k = 76) : cn c (k + 1) ≤ n ∧ c (k + 1) = lN (cn c (k + 1)) := by
  obtain ⟨-, h2, -⟩ := h.at ho
  obtain ⟨v, v1, v2⟩ := (h2 k hk).2.2.2.2.2.2 hl
  have e : cn c (k + 1) = v := cn_lN v2 (by omega)
  rw [e]
  exact ⟨v1, v2⟩
theorem mI {k v : Nat} (hc6 : ∀ k, k < 6 → gL M 442 k = c k) (hk : k < 6) (h : v < 4 ∧ c k = lN v) : (gL M 442 k).toInt32 &&& (3 : Int32) = nI v := by rw [hc6 k hk, h.2, lN_toI, and3 h.1]
theorem sI8 {k v : Nat} (hc6 : ∀ k, k < 6 → gL M 442 k = c k) (hk : k < 6) (h : v < 8 ∧ c k = lN v) : (gL M 442 k).toInt32 &&& (7 : Int32) = nI v := by rw [hc6 k hk, h.2, lN_toI, and7 h.1]
theorem vp3 (x : Int32) : vp_in (x &&& 3) 4 := by obtain ⟨v, v1, v2⟩ := and3' x; rw [v2]; exact vpN v1 (by decide)
theorem vp7 (x : Int32) : vp_in (x &&& 7) 8 := by obtain ⟨v, v1, v2⟩ := and7' x; rw [v2]; exact vpN v1 (by decide)
theorem q_masks (o : Nat) : q_X5_useMasks o M := by
  unfold q_X5_useMasks
  refine ⟨vp3 _, vp3 _, fun _ => vp3 _, fun _ => ⟨fun _ => vp3 _, fun _ => ⟨fun _ => vp3 _, fun _ => ⟨fun _ => vp3 _, fun _ => ⟨fun _ => vp3 _, fun _ => ⟨fun _ => vp7 _, fun _ => ⟨fun _ => vp7 _, fun _ => vp7 _⟩⟩⟩⟩⟩⟩⟩
theorem q_scal (o : Nat) : q_X5_useScalars o M := by
  unfold q_X5_useScalars
  refine ⟨vp7 _, vp7 _, fun _ => vp7 _, fun _ => ⟨fun _ => vp7 _, fun _ => ⟨fun _ => vp7 _, fun _ => ⟨fun _ => vp7 _, fun _ z => ⟨fun _ => ⟨z, vp7 _⟩, fun _ => ⟨z, vp7 _⟩⟩⟩⟩⟩⟩
theorem msk_cases {o : Nat} (h : 46 ≤ o ∧ o < 53) : o = 46 ∨ o = 47 ∨ o = 48 ∨ o = 49 ∨ o = 50 ∨ o = 51 ∨ o = 52 := by omega
theorem swI {o a : Nat} (h : Int32.ofNat (swT.getD o 0) = Int32.ofNat a) : Int32.ofNat (swT.getD (100000 + o - 100000) 0) = Int32.ofNat a := by rw [op_c]; exact h
/-- the masks' instructions: the data -/
theorem use_masks {o : Nat} (h : 46 ≤ o ∧ o < 53) (ho : cn c 0 = o) (hv : VI n c) (hc6 : ∀ k, k < 6 → gL M 442 k = c k) (hr : RD M 405 d) : RD (m_X5_useMasks (100000 + o) M) 405 (maD o c d) ∧ ((∃ q x, q < 4 ∧ m_X5_useMasks (100000 + o) M = uI M 408 q x) ∨ ∃ q x, q < 8 ∧ m_X5_useMasks (100000 + o) M = uL M 409 q x) ∧ OT (tgX c).1 (tgX c).2 d (maD o c d) := by
  have l1 := op_let1 o (List.mem_range.mpr (by omega))
  have tn := tgN_all o (List.mem_range.mpr (by omega))
  have rdm : ∀ k, cn c k < 4 ∧ c k = lN (cn c k) → k < 6 → gI M 408 ((gL M 442 k).toInt32 &&& 3).toNatClampNeg = dm d (cn c k) := fun k hk h6 => by rw [mI hc6 h6 hk, nI_clamp (by omega)]; exact hr.2.1 _ hk.1
  have wm : ∀ x, cn c 1 < 4 ∧ c 1 = lN (cn c 1) → tgN o = 77 → RD (uI M 408 ((gL M 442 1).toInt32 &&& 3).toNatClampNeg x) 405 (setM d (cn c 1) x) ∧ ((∃ q y, q < 4 ∧ uI M 408 ((gL M 442 1).toInt32 &&& 3).toNatClampNeg x = uI M 408 q y) ∨ ∃ q y, q < 8 ∧ uI M 408 ((gL M 442 1).toInt32 &&& 3).toNatClampNeg x = uL M 409 q y) ∧ OT (tgX c).1 (tgX c).2 d (setM d (cn c 1) x) := fun x hk ht => by
    rw [mI hc6 (by decide) hk, nI_clamp (by omega)]
    have e1 : (tgX c).1 = 77 := by show tgN (cn c 0) = 77; rw [ho]; exact ht
    have e2 : (tgX c).2 = cn c 1 := tgX_v (by omega) (by rw [if_neg (by omega)]; exact hk.2)
    rw [e1, e2]
    exact ⟨RD.wm hk.1 hr, Or.inl ⟨_, _, hk.1, rfl⟩, OT.m⟩
  have ws : ∀ x, cn c 1 < 8 ∧ c 1 = lN (cn c 1) → tgN o = 83 → RD (uL M 409 ((gL M 442 1).toInt32 &&& 7).toNatClampNeg x) 405 (setS d (cn c 1) x) ∧ ((∃ q y, q < 4 ∧ uL M 409 ((gL M 442 1).toInt32 &&& 7).toNatClampNeg x = uI M 408 q y) ∨ ∃ q y, q < 8 ∧ uL M 409 ((gL M 442 1).toInt32 &&& 7).toNatClampNeg x = uL M 409 q y) ∧ OT (tgX c).1 (tgX c).2 d (setS d (cn c 1) x) := fun x hk ht => by
    rw [sI8 hc6 (by decide) hk, nI_clamp (by omega)]
    have e1 : (tgX c).1 = 83 := by show tgN (cn c 0) = 83; rw [ho]; exact ht
    have e2 : (tgX c).2 = cn c 1 := tgX_v (by omega) (by rw [if_neg (by omega)]; exact hk.2)
    rw [e1, e2]
    exact ⟨RD.ws hk.1 hr, Or.inr ⟨_, _, hk.1, rfl⟩, OT.s⟩
  rcases msk_cases h with rfl | rfl | rfl | rfl | rfl | rfl | rfl
  · obtain ⟨a, b, e, g⟩ := l1.1.1 (by decide) (by decide)
    have e0 : m_X5_useMasks (100000 + 46) M = uI M 408 ((gL M 442 1).toInt32 &&& 3).toNatClampNeg (gI M 408 ((gL M 442 2).toInt32 &&& 3).toNatClampNeg &&& gI M 408 ((gL M 442 3).toInt32 &&& 3).toNatClampNeg) := by
      unfold m_X5_useMasks
      rw [if_neg (by decide +kernel), if_neg (by decide +kernel), if_pos (by decide +kernel)]
    rw [e0, rdm 2 (hv.m ho (by omega) b) (by decide), rdm 3 (hv.m ho (by omega) e) (by decide)]
    exact wm _ (hv.m ho (by omega) a) (tn.1.2 (by decide) (by decide)).1
  · obtain ⟨a, b, e, g⟩ := l1.1.1 (by decide) (by decide)
    have e0 : m_X5_useMasks (100000 + 47) M = uI M 408 ((gL M 442 1).toInt32 &&& 3).toNatClampNeg (gI M 408 ((gL M 442 2).toInt32 &&& 3).toNatClampNeg ||| gI M 408 ((gL M 442 3).toInt32 &&& 3).toNatClampNeg) := by
      unfold m_X5_useMasks
      rw [if_neg (by decide +kernel), if_neg (by decide +kernel), if_neg (by decide +kernel), if_pos (by decide +kernel)]
    rw [e0, rdm 2 (hv.m ho (by omega) b) (by decide), rdm 3 (hv.m ho (by omega) e) (by decide)]
    exact wm _ (hv.m ho (by omega) a) (tn.1.2 (by decide) (by decide)).1
  · obtain ⟨a, b, e, g⟩ := l1.1.1 (by decide) (by decide)
    have e0 : m_X5_useMasks (100000 + 48) M = uI M 408 ((gL M 442 1).toInt32 &&& 3).toNatClampNeg (gI M 408 ((gL M 442 2).toInt32 &&& 3).toNatClampNeg ^^^ gI M 408 ((gL M 442 3).toInt32 &&& 3).toNatClampNeg) := by
      unfold m_X5_useMasks
      rw [if_neg (by decide +kernel), if_neg (by decide +kernel), if_neg (by decide +kernel), if_neg (by decide +kernel), if_pos (by decide +kernel)]
    rw [e0, rdm 2 (hv.m ho (by omega) b) (by decide), rdm 3 (hv.m ho (by omega) e) (by decide)]
    exact wm _ (hv.m ho (by omega) a) (tn.1.2 (by decide) (by decide)).1
  · obtain ⟨a, b, g⟩ := l1.1.2 rfl
    have e0 : m_X5_useMasks (100000 + 49) M = uI M 408 ((gL M 442 1).toInt32 &&& 3).toNatClampNeg (gI M 408 ((gL M 442 2).toInt32 &&& 3).toNatClampNeg ^^^ (-1 : Int32)) := by
      unfold m_X5_useMasks
      rw [if_neg (by decide +kernel), if_pos (by decide +kernel)]
    rw [e0, rdm 2 (hv.m ho (by omega) b) (by decide)]
    exact wm _ (hv.m ho (by omega) a) (tn.1.2 (by decide) (by decide)).1
  · obtain ⟨a, b, g⟩ := l1.2.1 rfl
    have e0 : m_X5_useMasks (100000 + 50) M = uI M 408 ((gL M 442 1).toInt32 &&& 3).toNatClampNeg (gL M 442 2).toInt32 := by
      unfold m_X5_useMasks
      rw [if_pos (by decide +kernel)]
    rw [e0, hc6 2 (by decide)]
    exact wm _ (hv.m ho (by omega) a) (tn.1.2 (by decide) (by decide)).1
  · obtain ⟨a, b, g⟩ := l1.2.2 (by decide) (by decide)
    have e0 : m_X5_useMasks (100000 + 51) M = uL M 409 ((gL M 442 1).toInt32 &&& 7).toNatClampNeg (f_J6_bitCount_0f7a4 (gI M 408 ((gL M 442 2).toInt32 &&& 3).toNatClampNeg)).toInt64 := by
      unfold m_X5_useMasks
      rw [if_neg (by decide +kernel), if_neg (by decide +kernel), if_neg (by decide +kernel), if_neg (by decide +kernel), if_neg (by decide +kernel), if_pos (by decide +kernel)]
    have hcnt : ∀ w, cntW w < 2 ^ 31 := fun w => by
      have : ∀ (f : Nat → Bool) m, fb_ct f m ≤ m := fun f m => fb_ct_le f m
      have := this (fun i => bt w i) 32
      unfold cntW; omega
    rw [e0, rdm 2 (hv.m ho (by omega) b) (by decide), bitCount_w, nI_toL (hcnt _)]
    exact ws _ (hv.s ho (by omega) a) (tn.2.1 (by decide) (Or.inl (by decide))).1
  · obtain ⟨a, b, g⟩ := l1.2.2 (by decide) (by decide)
    have e0 : m_X5_useMasks (100000 + 52) M = (if (gI M 408 ((gL M 442 2).toInt32 &&& 3).toNatClampNeg) = 0 then uL M 409 ((gL M 442 1).toInt32 &&& 7).toNatClampNeg (-1 : Int64) else uL M 409 ((gL M 442 1).toInt32 &&& 7).toNatClampNeg (f_J6_numberOfTrailingZeros_0f7a4 (gI M 408 ((gL M 442 2).toInt32 &&& 3).toNatClampNeg)).toInt64) := by
      unfold m_X5_useMasks
      rw [if_neg (by decide +kernel), if_neg (by decide +kernel), if_neg (by decide +kernel), if_neg (by decide +kernel), if_neg (by decide +kernel), if_neg (by decide +kernel)]
    rw [e0, rdm 2 (hv.m ho (by omega) b) (by decide)]
    have em : maD 52 c d = setS d (cn c 1) (ffU (dm d (cn c 2)) 32 0) := rfl
    rw [em]
    by_cases z : dm d (cn c 2) = 0
    · rw [if_pos z, z, ffU_0]
      exact ws _ (hv.s ho (by omega) a) (tn.2.1 (by decide) (Or.inl (by decide))).1
    · rw [if_neg z, ntz_w z]
      exact ws _ (hv.s ho (by omega) a) (tn.2.1 (by decide) (Or.inl (by decide))).1
/-- the scalars' instructions: fault and data -/
theorem use_scal {o : Nat} (h : 53 ≤ o ∧ o < 59) (ho : cn c 0 = o) (hv : VI n c) (hc6 : ∀ k, k < 6 → gL M 442 k = c k) (hr : RD M 405 d) : f_X5_useScalars (100000 + o) M = (scD o c d).1 ∧ RD (m_X5_useScalars (100000 + o) M) 405 (scD o c d).2 ∧ (m_X5_useScalars (100000 + o) M = M ∨ ∃ q x, q < 8 ∧ m_X5_useScalars (100000 + o) M = uL M 409 q x) ∧ OT (tgX c).1 (tgX c).2 d (scD o c d).2 := by
  have l2 := op_let2 o (List.mem_range.mpr (by omega))
  have tn := (tgN_all o (List.mem_range.mpr (by omega))).2.1
  have rds : ∀ k, cn c k < 8 ∧ c k = lN (cn c k) → k < 6 → gL M 409 ((gL M 442 k).toInt32 &&& 7).toNatClampNeg = dsc d (cn c k) := fun k hk h6 => by rw [sI8 hc6 h6 hk, nI_clamp (by omega)]; exact hr.2.2 _ hk.1
  have ws : ∀ x, cn c 1 < 8 ∧ c 1 = lN (cn c 1) → tgN o = 83 → RD (uL M 409 ((gL M 442 1).toInt32 &&& 7).toNatClampNeg x) 405 (setS d (cn c 1) x) ∧ (uL M 409 ((gL M 442 1).toInt32 &&& 7).toNatClampNeg x = M ∨ ∃ q y, q < 8 ∧ uL M 409 ((gL M 442 1).toInt32 &&& 7).toNatClampNeg x = uL M 409 q y) ∧ OT (tgX c).1 (tgX c).2 d (setS d (cn c 1) x) := fun x hk ht => by
    rw [sI8 hc6 (by decide) hk, nI_clamp (by omega)]
    have e1 : (tgX c).1 = 83 := by show tgN (cn c 0) = 83; rw [ho]; exact ht
    have e2 : (tgX c).2 = cn c 1 := tgX_v (by omega) (by rw [if_neg (by omega)]; exact hk.2)
    rw [e1, e2]
    exact ⟨RD.ws hk.1 hr, Or.inr ⟨_, _, hk.1, rfl⟩, OT.s⟩
  have hc : o = 53 ∨ o = 54 ∨ o = 55 ∨ o = 56 ∨ o = 57 ∨ o = 58 := by omega
  rcases hc with rfl | rfl | rfl | rfl | rfl | rfl
  · obtain ⟨a, b, g⟩ := l2.1.1 rfl
    have ef : f_X5_useScalars (100000 + 53) M = 0 := by
      unfold f_X5_useScalars
      rw [if_pos (by decide +kernel)]
    have em : m_X5_useScalars (100000 + 53) M = uL M 409 ((gL M 442 1).toInt32 &&& 7).toNatClampNeg (gL M 442 2) := by
      unfold m_X5_useScalars
      rw [if_pos (by decide +kernel)]
    rw [ef, em, hc6 2 (by decide)]
    exact ⟨rfl, ws _ (hv.s ho (by omega) a) (tn (by decide) (Or.inl (by decide))).1⟩
  · obtain ⟨a, b, e, g⟩ := l2.1.2 (by decide) (by decide)
    have ef : f_X5_useScalars (100000 + 54) M = 0 := by
      unfold f_X5_useScalars
      rw [if_neg (by decide +kernel), if_pos (by decide +kernel)]
    have em : m_X5_useScalars (100000 + 54) M = uL M 409 ((gL M 442 1).toInt32 &&& 7).toNatClampNeg ((gL M 409 ((gL M 442 2).toInt32 &&& 7).toNatClampNeg) + (gL M 409 ((gL M 442 3).toInt32 &&& 7).toNatClampNeg)) := by
      unfold m_X5_useScalars
      rw [if_neg (by decide +kernel), if_pos (by decide +kernel)]
    rw [ef, em, rds 2 (hv.s ho (by omega) b) (by decide), rds 3 (hv.s ho (by omega) e) (by decide)]
    exact ⟨rfl, ws _ (hv.s ho (by omega) a) (tn (by decide) (Or.inl (by decide))).1⟩
  · obtain ⟨a, b, e, g⟩ := l2.1.2 (by decide) (by decide)
    have ef : f_X5_useScalars (100000 + 55) M = 0 := by
      unfold f_X5_useScalars
      rw [if_neg (by decide +kernel), if_neg (by decide +kernel), if_pos (by decide +kernel)]
    have em : m_X5_useScalars (100000 + 55) M = uL M 409 ((gL M 442 1).toInt32 &&& 7).toNatClampNeg ((gL M 409 ((gL M 442 2).toInt32 &&& 7).toNatClampNeg) - (gL M 409 ((gL M 442 3).toInt32 &&& 7).toNatClampNeg)) := by
      unfold m_X5_useScalars
      rw [if_neg (by decide +kernel), if_neg (by decide +kernel), if_pos (by decide +kernel)]
    rw [ef, em, rds 2 (hv.s ho (by omega) b) (by decide), rds 3 (hv.s ho (by omega) e) (by decide)]
    exact ⟨rfl, ws _ (hv.s ho (by omega) a) (tn (by decide) (Or.inl (by decide))).1⟩
  · obtain ⟨a, b, e, g⟩ := l2.1.2 (by decide) (by decide)
    have ef : f_X5_useScalars (100000 + 56) M = 0 := by
      unfold f_X5_useScalars
      rw [if_neg (by decide +kernel), if_neg (by decide +kernel), if_neg (by decide +kernel), if_pos (by decide +kernel)]
    have em : m_X5_useScalars (100000 + 56) M = uL M 409 ((gL M 442 1).toInt32 &&& 7).toNatClampNeg ((gL M 409 ((gL M 442 2).toInt32 &&& 7).toNatClampNeg) * (gL M 409 ((gL M 442 3).toInt32 &&& 7).toNatClampNeg)) := by
      unfold m_X5_useScalars
      rw [if_neg (by decide +kernel), if_neg (by decide +kernel), if_neg (by decide +kernel), if_pos (by decide +kernel)]
    rw [ef, em, rds 2 (hv.s ho (by omega) b) (by decide), rds 3 (hv.s ho (by omega) e) (by decide)]
    exact ⟨rfl, ws _ (hv.s ho (by omega) a) (tn (by decide) (Or.inl (by decide))).1⟩
  · obtain ⟨a, b, e, g⟩ := l2.1.2 (by decide) (by decide)
    have r2 := rds 2 (hv.s ho (by omega) b) (by decide)
    have r3 := rds 3 (hv.s ho (by omega) e) (by decide)
    have ef : f_X5_useScalars (100000 + 57) M = if (gL M 409 ((gL M 442 3).toInt32 &&& 7).toNatClampNeg) = 0 then 5 else 0 := by
      unfold f_X5_useScalars
      rw [if_neg (by decide +kernel), if_neg (by decide +kernel), if_neg (by decide +kernel), if_neg (by decide +kernel)]
    have em : m_X5_useScalars (100000 + 57) M = if (gL M 409 ((gL M 442 3).toInt32 &&& 7).toNatClampNeg) = 0 then M else uL M 409 ((gL M 442 1).toInt32 &&& 7).toNatClampNeg ((gL M 409 ((gL M 442 2).toInt32 &&& 7).toNatClampNeg) / (gL M 409 ((gL M 442 3).toInt32 &&& 7).toNatClampNeg)) := by
      unfold m_X5_useScalars
      rw [if_neg (by decide +kernel), if_neg (by decide +kernel), if_neg (by decide +kernel), if_neg (by decide +kernel), if_pos (by decide : (100000 + 57 : Nat) = 100057)]
    have es : scD 57 c d = if dsc d (cn c 3) = 0 then (5, d) else (0, setS d (cn c 1) (dsc d (cn c 2) / dsc d (cn c 3))) := rfl
    rw [ef, em, es, r3, r2]
    by_cases z : dsc d (cn c 3) = 0
    · rw [if_pos z, if_pos z, if_pos z]
      exact ⟨rfl, hr, Or.inl rfl, OT.rf⟩
    · rw [if_neg z, if_neg z, if_neg z]
      exact ⟨rfl, ws _ (hv.s ho (by omega) a) (tn (by decide) (Or.inl (by decide))).1⟩
  · obtain ⟨a, b, e, g⟩ := l2.1.2 (by decide) (by decide)
    have r2 := rds 2 (hv.s ho (by omega) b) (by decide)
    have r3 := rds 3 (hv.s ho (by omega) e) (by decide)
    have ef : f_X5_useScalars (100000 + 58) M = if (gL M 409 ((gL M 442 3).toInt32 &&& 7).toNatClampNeg) = 0 then 5 else 0 := by
      unfold f_X5_useScalars
      rw [if_neg (by decide +kernel), if_neg (by decide +kernel), if_neg (by decide +kernel), if_neg (by decide +kernel)]
    have em : m_X5_useScalars (100000 + 58) M = if (gL M 409 ((gL M 442 3).toInt32 &&& 7).toNatClampNeg) = 0 then M else uL M 409 ((gL M 442 1).toInt32 &&& 7).toNatClampNeg ((gL M 409 ((gL M 442 2).toInt32 &&& 7).toNatClampNeg) - (gL M 409 ((gL M 442 2).toInt32 &&& 7).toNatClampNeg) / (gL M 409 ((gL M 442 3).toInt32 &&& 7).toNatClampNeg) * (gL M 409 ((gL M 442 3).toInt32 &&& 7).toNatClampNeg)) := by
      unfold m_X5_useScalars
      rw [if_neg (by decide +kernel), if_neg (by decide +kernel), if_neg (by decide +kernel), if_neg (by decide +kernel), if_neg (by decide : ¬ (100000 + 58 : Nat) = 100057)]
    have es : scD 58 c d = if dsc d (cn c 3) = 0 then (5, d) else (0, setS d (cn c 1) (dsc d (cn c 2) - dsc d (cn c 2) / dsc d (cn c 3) * dsc d (cn c 3))) := rfl
    rw [ef, em, es, r3, r2]
    by_cases z : dsc d (cn c 3) = 0
    · rw [if_pos z, if_pos z, if_pos z]
      exact ⟨rfl, hr, Or.inl rfl, OT.rf⟩
    · rw [if_neg z, if_neg z, if_neg z]
      exact ⟨rfl, ws _ (hv.s ho (by omega) a) (tn (by decide) (Or.inl (by decide))).1⟩
end
end SCAL
