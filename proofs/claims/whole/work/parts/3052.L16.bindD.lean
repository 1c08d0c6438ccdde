section BINDD
theorem RD.reg {M : Mem} {d : DS} {v : Nat} (h : RD M 405 d) (hv : v < 8) : RowIs M (410 + 4 * v) (dk d (2 * v)) (dn d (2 * v)) (di d (2 * v)) := by
  have := h.1 (2 * v) (by omega)
  rw [show 405 + 5 + 2 * (2 * v) = 410 + 4 * v by omega] at this
  exact this
theorem RD.arr {M : Mem} {d : DS} {a : Nat} (h : RD M 405 d) (hv : a < 8) : RowIs M (412 + 4 * a) (dk d (2 * a + 1)) (dn d (2 * a + 1)) (di d (2 * a + 1)) := by
  have := h.1 (2 * a + 1) (by omega)
  rw [show 405 + 5 + 2 * (2 * a + 1) = 412 + 4 * a by omega] at this
  exact this
/-- bound: what the lanes' object holds of an instruction that fits -/
def LnB (o : Nat) (c : Nat → Int64) (d : DS) (M : Mem) : Prop :=
  Wf M ∧ RD M 405 d ∧ LnOK M ∧ NM o c (opL o).length M ∧ gI M 404 9 = 0 ∧ gI M 404 8 = onS (nI (dn d (2 * rgN o c 0))) c (dm d)
  ∧ (1 < cntR o 4 → ∀ j, j < dn d (2 * rgN o c 0) → gL M 444 j = di d (2 * rgN o c 1) j) ∧ (2 < cntR o 4 → ∀ j, j < dn d (2 * rgN o c 0) → gL M 445 j = di d (2 * rgN o c 2) j)
theorem onS_cg {len : Int32} {c : Nat → Int64} {ms ms' : Nat → Int32} (h5 : c 5 = -1 ∨ ∃ v, v < 4 ∧ c 5 = lN v) (h : ∀ v, v < 4 → ms v = ms' v) : onS len c ms = onS len c ms' := by
  unfold onS
  rcases h5 with h5 | ⟨v, v1, v2⟩
  · rw [h5, if_pos (by decide), if_pos (by decide)]
  · have e : (c 5).toInt.toNat = v := by rw [v2, l6_int (by omega)]; rfl
    rw [e, h v v1]
theorem c_bindD {o : Nat} {c : Nat → Int64} {d : DS} {M : Mem} {K : RT} (hW : Wf M) (ho : o < 46) (hl : LnOK M) (hr : RD M 405 d) (hd : WD d) (hc6 : ∀ k, k < 6 → gL M 442 k = c k) (hv : VC o c)
    (h : ∀ M', Wf M' → Mo (fun b => b = 404 ∨ b = 443 ∨ b = 444 ∨ b = 445) M M' → RD M' 405 d → LnOK M' → gI M' 404 2 = gI M 404 2 → gI M' 404 3 = gI M 404 3 → (mfD o c d = 0 → LnB o c d M') → K (some (.int (mfD o c d))) M') : sp_X2_bind [.ref 404, .ref (100000 + o)] M K := by
  refine c_bind hW ho hl hc6 hv (fun M' hB K' hK => ?_)
  obtain ⟨hW', hl', hN, hMo, ⟨h2, h3, h9⟩, h8, hL, hR, hgR⟩ := hB
  have hr' : RD M' 405 d := hr.mo hMo (fun b hb => by rcases hb with z | z | z | z <;> omega)
  have rgs : ∀ j, j < cntR o 4 → rR M' 443 j = 410 + 4 * rgN o c j ∧ rgN o c j < 8 := fun j hj => ⟨rR_of (hN.rg ho hv hj), (rg_is ho hv hj).1⟩
  have p1 := (pos_all o (List.mem_range.mpr ho)).2.1
  obtain ⟨e0, l0⟩ := rgs 0 (by omega)
  have row0 := hr'.reg l0
  have em : mfS o (fun j => gI M' (rR M' 443 j) 0) (fun j => decide (gI M' (rR M' 443 j) 1 = gI M' (rR M' 443 0) 1)) (gI M' (rR M' 404 5) 0) = mfD o c d := by
    refine mfS_cg ho (fun j hj => ?_) (fun u => ?_)
    · obtain ⟨ej, lj⟩ := rgs j hj
      have row := hr'.reg lj
      refine ⟨?_, ?_⟩
      · show gI M' (rR M' 443 j) 0 = _
        rw [ej]
        exact row.1
      · show decide (gI M' (rR M' 443 j) 1 = gI M' (rR M' 443 0) 1) = decide _
        rw [ej, e0, row.2.1, row0.2.1]
        exact decide_eq_decide.mpr (nI_eq (by have := row.2.2.1; omega) (by have := row0.2.2.1; omega))
    · have := hr'.arr (ar_is ho hv u).1
      rw [rR_of (hN.ar ho hv u)]
      exact this.1
  refine c_misfit (kd := fun j => gI M' (rR M' 443 j) 0) (eqL := fun j => decide (gI M' (rR M' 443 j) 1 = gI M' (rR M' 443 0) 1)) (ek := gI M' (rR M' 404 5) 0) hW' ho hl' (fun _ _ => rfl) (fun _ _ => decide_eq_true_iff.symm) rfl ?_
  rw [em]
  refine hK _ _ hW' (h M' hW' hMo hr' hl' h2 h3 (fun z => ?_))
  have hlen : ∀ j, j < cntR o 4 → dn d (2 * rgN o c j) = dn d (2 * rgN o c 0) ∨ o = 0 := by
    intro j hj
    by_cases q : o = 0
    · exact Or.inr q
    · exact Or.inl ((fit_of ho q hv hd z).1 j hj).2.1
  have c0 : o = 0 → cntR o 4 = 1 := fun q => by subst q; decide +kernel
  have n32 : dn d (2 * rgN o c 0) ≤ 32 ∨ o = 0 := by
    by_cases q : o = 0
    · exact Or.inr q
    · exact Or.inl (fit_of ho q hv hd z).2.1.2
  refine ⟨hW', hr', hl', hN, h9, ?_, fun q j hj => ?_, fun q j hj => ?_⟩
  · rw [h8, e0, row0.2.1]
    exact onS_cg hv.2 (fun v hv => hr.2.1 v hv)
  · have n0 : ¬ o = 0 := fun w => by have := c0 w; omega
    obtain ⟨ej, lj⟩ := rgs 1 q
    rw [hL j (by have := n32.resolve_right n0; omega), ej]
    exact (hr'.reg lj).2.2.2 j (by rw [(hlen 1 q).resolve_right n0]; exact hj)
  · have n0 : ¬ o = 0 := fun w => by have := c0 w; omega
    obtain ⟨ej, lj⟩ := rgs 2 q
    rw [hR j (by have := n32.resolve_right n0; omega), ej]
    exact (hr'.reg lj).2.2.2 j (by rw [(hlen 2 q).resolve_right n0]; exact hj)
theorem LnB.mo {o : Nat} {c : Nat → Int64} {d : DS} {S : Nat → Prop} {M M' : Mem} (hm : Mo S M M') (hW' : Wf M') (hS : ∀ b, S b → ¬ (404 ≤ b ∧ b ≤ 445)) (h : LnB o c d M) : LnB o c d M' := by
  obtain ⟨hW, hr, hl, hN, h9, h8, hL, hR⟩ := h
  have nI : ∀ {a k : Nat}, 404 ≤ a → a ≤ 445 → gI M' a k = gI M a k := fun h1 h2 => hm.I (fun q => hS _ q ⟨h1, h2⟩)
  have nL : ∀ {a k : Nat}, 404 ≤ a → a ≤ 445 → gL M' a k = gL M a k := fun h1 h2 => hm.L (fun q => hS _ q ⟨h1, h2⟩)
  have nR : ∀ {a k : Nat}, 404 ≤ a → a ≤ 445 → gR M' a k = gR M a k := fun h1 h2 => hm.R (fun q => hS _ q ⟨h1, h2⟩)
  refine ⟨hW', hr.mo hm (fun b hb q => hS b hb (by omega)), ⟨fun j hj => ?_, ?_, ?_, ?_⟩, fun k hk v v1 v2 => ?_, ?_, ?_, fun q j hj => ?_, fun q j hj => ?_⟩
  · obtain ⟨q, q1, q2⟩ := hl.1 j hj
    exact ⟨q, q1, by rw [nR (by decide) (by decide)]; exact q2⟩
  · obtain ⟨q, q1, q2⟩ := hl.2.1
    exact ⟨q, q1, by rw [nR (by decide) (by decide)]; exact q2⟩
  · obtain ⟨q, q1, q2⟩ := hl.2.2.1
    exact ⟨q, q1, by rw [nI (by decide) (by decide)]; exact q2⟩
  · obtain ⟨q, q1, q2⟩ := hl.2.2.2
    exact ⟨q, q1, by rw [nI (by decide) (by decide)]; exact q2⟩
  · obtain ⟨a1, a2, a3, a4⟩ := hN k hk v v1 v2
    exact ⟨fun z => by rw [nR (by decide) (by decide)]; exact a1 z, fun z => by rw [nR (by decide) (by decide)]; exact a2 z, fun z y => by rw [nI (by decide) (by decide)]; exact a3 z y, fun z => by rw [nI (by decide) (by decide)]; exact a4 z⟩
  · rw [nI (by decide) (by decide)]; exact h9
  · rw [nI (by decide) (by decide)]; exact h8
  · rw [nL (by decide) (by decide)]; exact hL q j hj
  · rw [nL (by decide) (by decide)]; exact hR q j hj
end BINDD
