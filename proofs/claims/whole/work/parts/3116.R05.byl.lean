section RBYL2
section
variable {M M' : Mem} {K : RT} {n i : Nat} {c : Nat → Nat → Int64}
theorem c_copyR {k w x : Nat} (hW : Wf M) (hC : RC M n c i) (hs : (w = 643 ∧ x = 644) ∨ (w = 645 ∧ x = 646)) (hk : k < 3) (h : ∀ M', Wf M' → FrC (fun a _ => a = w ∨ a = x) M M' → (cn (c i) 0 < 46 ∧ k < cntR (cn (c i) 0) 4 → ∀ j, j < 32 → gL M' w j = gL M 626 (32 * rgN (cn (c i) 0) (c i) k + j) ∧ gD M' x j = gD M 627 (32 * rgN (cn (c i) 0) (c i) k + j)) → K none M') : sp_X13_copyLanes [.ref 605, .int (regI (cn (c i) 0) (c i) k), .ref w, .ref x] M K := by
  unfold regI
  by_cases hh : cn (c i) 0 < 46 ∧ k < cntR (cn (c i) 0) 4
  · rw [if_pos hh]
    obtain ⟨r1, -⟩ := rg_is hh.1 hC.2.2.2.2.vc hh.2
    exact c_copyL hW hs r1 (fun M' a b e => h M' a b (fun _ => e))
  · rw [if_neg hh]
    exact c_copyN hW hs (h M hW FrC.rf (fun z => absurd z hh))
theorem cnt_below {w : Int32} {nn : Nat} (hn : nn ≤ 32) (h : ∀ q, nn ≤ q → q < 32 → bt w q = false) : fb_ct (fun q => bt w q) nn = cntW w := by
  unfold cntW
  obtain ⟨e, he⟩ : ∃ e, 32 = nn + e := ⟨32 - nn, by omega⟩
  rw [he, fb_ct_split]
  have : ∀ m, m ≤ e → fb_ct (fun q => (fun q => bt w q) (nn + q)) m = 0 := by
    intro m
    induction m with
    | zero => intro _; rfl
    | succ m ih =>
      intro hm
      rw [fb_ct_succ, ih (by omega)]
      have := h (nn + m) (by omega) (by omega)
      simp [this]
  rw [this e (Nat.le_refl e)]
  rfl
theorem rOnS_hi {d : DS} {r : Nat → Int64} {nn q : Nat} (hn : nn ≤ 32) (h1 : nn ≤ q) (h2 : q < 32) : bt (onS (nI nn) r (dm d)) q = false := by
  unfold onS
  split
  · rw [below_bt hn h2]; simp; omega
  · rw [bt_and, below_bt hn h2]; simp; omega
/-- one row's cells and the counters -/
def rRowS (v a j : Nat) : Prop := (a = 605 ∧ (j = 63 ∨ j = 64 ∨ j = 69)) ∨ ((a = 626 ∨ a = 627) ∧ 32 * v ≤ j ∧ j < 32 * v + 32)
theorem rInsG_mk {o : Nat} {r : Nat → Int64} {d : DS} (h : BYL o ∨ o = 26 ∨ o = 28 ∨ o = 39) : insG o r d = ((lrun (mkS o (dk d (2 * rgN o r 0)) (dk d (2 * rgN o r 1)) (dn d (2 * rgN o r 0)) (di d (2 * rgN o r 1)) (di d (2 * rgN o r 2)) (dsc d (scN o r)) (dn d (2 * arN r + 1)) (di d (2 * arN r + 1))) (onW (onS (nI (dn d (2 * rgN o r 0))) r (dm d))) (dn d (2 * rgN o r 0)) 0 none (di d (2 * rgN o r 0))).1, if (lrun (mkS o (dk d (2 * rgN o r 0)) (dk d (2 * rgN o r 1)) (dn d (2 * rgN o r 0)) (di d (2 * rgN o r 1)) (di d (2 * rgN o r 2)) (dsc d (scN o r)) (dn d (2 * arN r + 1)) (di d (2 * arN r + 1))) (onW (onS (nI (dn d (2 * rgN o r 0))) r (dm d))) (dn d (2 * rgN o r 0)) 0 none (di d (2 * rgN o r 0))).1 = 0 then -1 else nI (lrun (mkS o (dk d (2 * rgN o r 0)) (dk d (2 * rgN o r 1)) (dn d (2 * rgN o r 0)) (di d (2 * rgN o r 1)) (di d (2 * rgN o r 2)) (dsc d (scN o r)) (dn d (2 * arN r + 1)) (di d (2 * arN r + 1))) (onW (onS (nI (dn d (2 * rgN o r 0))) r (dm d))) (dn d (2 * rgN o r 0)) 0 none (di d (2 * rgN o r 0))).2.1, cntW (onS (nI (dn d (2 * rgN o r 0))) r (dm d)), setIt d (2 * rgN o r 0) (lrun (mkS o (dk d (2 * rgN o r 0)) (dk d (2 * rgN o r 1)) (dn d (2 * rgN o r 0)) (di d (2 * rgN o r 1)) (di d (2 * rgN o r 2)) (dsc d (scN o r)) (dn d (2 * arN r + 1)) (di d (2 * arN r + 1))) (onW (onS (nI (dn d (2 * rgN o r 0))) r (dm d))) (dn d (2 * rgN o r 0)) 0 none (di d (2 * rgN o r 0))).2.2) := by
  unfold BYL at h
  unfold insG
  dsimp only
  rw [if_neg (by omega), if_neg (by omega), if_neg (by omega), if_neg (by omega), if_neg (by omega), if_neg (by omega), if_neg (by omega), if_neg (by omega), if_neg (by omega), if_neg (by omega), if_neg (by omega)]
theorem posR0 : ∀ o ∈ List.range 46, ¬ ((17 ≤ o ∧ o ≤ 22) ∨ (41 ≤ o ∧ o ≤ 44)) → 0 < cntR o 4 ∧ posR o 0 = 0 := by decide +kernel
/-- the row that an instruction writes -/
theorem rRow0 (hC : RC M n c i) {o : Nat} (eo : cn (c i) 0 = o) (o46 : o < 46) (h : ¬ ((17 ≤ o ∧ o ≤ 22) ∨ (41 ≤ o ∧ o ≤ 44))) : rgN o (c i) 0 < 8 ∧ q_X13_operandOf (nI i) (0 : Int32) M ∧ f_X13_operandOf (nI i) (0 : Int32) M = nI (rgN o (c i) 0) := by
  obtain ⟨p1, p2⟩ := posR0 o (List.mem_range.mpr o46) h
  have hv : VC o (c i) := by have := hC.2.2.2.2.vc; rw [eo] at this; exact this
  obtain ⟨r1, r2⟩ := rg_is o46 hv p1
  rw [p2] at r2
  have := opOf (k := 0) hC (by decide) r2
  exact ⟨r1, this.1, this.2⟩
theorem inf_cd (k : Int32) (v : Int64) : infJ k v = 0 ∨ 0 < infJ k v := by
  unfold infJ
  by_cases z : P_X3_isInfinite k v
  · rw [iT_t z]; exact Or.inr (by decide)
  · rw [iT_f z]; exact Or.inl rfl
theorem iT_cd {P : Prop} {x y : Int32 × Int64} (hx : x.1 = 0 ∨ 0 < x.1) (hy : y.1 = 0 ∨ 0 < y.1) : (iT P x y).1 = 0 ∨ 0 < (iT P x y).1 := by
  by_cases z : P
  · rw [iT_t z]; exact hx
  · rw [iT_f z]; exact hy
theorem if_cd {P : Prop} [Decidable P] {x y : Int32 × Int64} (hx : x.1 = 0 ∨ 0 < x.1) (hy : y.1 = 0 ∨ 0 < y.1) : (if P then x else y).1 = 0 ∨ 0 < (if P then x else y).1 := by
  split
  · exact hx
  · exact hy
theorem rea_cd (o : Nat) (k : Int32) (x y : Int64) : (reaS o k x y).1 = 0 ∨ 0 < (reaS o k x y).1 := by
  unfold reaS
  split
  · exact inf_cd _ _
  · exact inf_cd _ _
  · exact inf_cd _ _
  · exact iT_cd (Or.inr (show (0 : Int32) < 5 by decide)) (inf_cd _ _)
  · exact iT_cd (Or.inr (show (0 : Int32) < 5 by decide)) (Or.inl rfl)
  · exact Or.inl rfl
  · exact Or.inl rfl
theorem who_cd (o : Nat) (k : Int32) (x y : Int64) : (whoS o k x y).1 = 0 ∨ 0 < (whoS o k x y).1 := by
  unfold whoS
  split
  · exact Or.inl rfl
  · exact Or.inl rfl
  · exact Or.inl rfl
  · exact if_cd (Or.inr (show (0 : Int32) < 5 by decide)) (Or.inl rfl)
  · exact if_cd (Or.inr (show (0 : Int32) < 5 by decide)) (Or.inl rfl)
  all_goals exact Or.inl rfl
theorem made_cd {o : Nat} {k k1 : Int32} {n : Nat} {X Y : Nat → Int64} {S : Int64} {m : Nat} {E : Nat → Int64} {i : Nat} : (madeS o k k1 n X Y S m E i).1 = 0 ∨ 0 < (madeS o k k1 n X Y S m E i).1 := by
  unfold madeS
  exact if_cd (iT_cd (rea_cd ..) (who_cd ..)) (if_cd (Or.inl rfl) (if_cd (Or.inl rfl) (if_cd (Or.inl rfl) (if_cd (if_cd (Or.inl rfl) (Or.inr (show (0 : Int32) < 6 by decide))) (if_cd (inf_cd _ _) (if_cd (Or.inl rfl) (if_cd (iT_cd (Or.inl rfl) (Or.inr (show (0 : Int32) < 4 by decide))) (if_cd (Or.inl rfl) (if_cd (Or.inl rfl) (if_cd (iT_cd (Or.inl rfl) (Or.inr (show (0 : Int32) < 4 by decide))) (if_cd (Or.inl rfl) (if_cd (Or.inl rfl) (Or.inl rfl)))))))))))))
theorem cd_le {x : Int32} (h : x = 0 ∨ 0 < x) (z : x ≤ 0) : x = 0 := by
  rcases h with h | h
  · exact h
  · rw [Int32.lt_iff_toInt_lt] at h
    rw [Int32.le_iff_toInt_le] at z
    omega
theorem c_byLanes13 {d : DS} {o : Nat} (hW : Wf M) (hC : RC M n c i) (eo : cn (c i) 0 = o) (ho : BYL o) (hF : FIT o (c i) d) (hd : WD d) (hD : RDc M d) (hO : gI M 605 70 = olR (c i) d) (h69 : gI M 605 69 = 0) (h : rinC M K (insG o (c i) d)) : sp_X13_byLanes [.ref 605, .int (nI i)] M K := by
  have o46 : o < 46 := by unfold BYL at ho; omega
  obtain ⟨v8, q0, e0⟩ := rRow0 hC eo o46 (by unfold BYL at ho; omega)
  rw [rInsG_mk (Or.inl ho)] at h
  have hnn := hF.2.1
  obtain ⟨D1, D2, D3, D4⟩ := hD
  refine wX13_byLanes hW (fun {G} hc => ⟨q0, c_regOf (k := 1) hW hC (by decide) (rX13_byLanes_0_9 hc hW ?_)⟩)
  rw [e0]
  refine c_copyR hW hC (Or.inl ⟨rfl, rfl⟩) (by decide) (fun Ma hWa fa ca => rX13_byLanes_0_14 hc hWa ?_)
  have hCa := hC.fr fa (fun a j z => by unfold prS; omega)
  refine c_regOf (k := 2) hWa hCa (by decide) (rX13_byLanes_0_19 hc hWa ?_)
  refine c_copyR hWa hCa (Or.inr ⟨rfl, rfl⟩) (by decide) (fun Mb hWb fb cb => rX13_byLanes_0_24 hc hWb ?_)
  have fab : FrC (fun a _ => 643 ≤ a ∧ a ≤ 646) M Mb := (fa.mono (fun a j z => by omega)).tr (fb.mono (fun a j z => by omega))
  have hCb := hC.fr fab (fun a j z => by unfold prS; omega)
  rw [eo] at ca cb
  -- the operands' lanes
  have LX : 1 < cntR o 4 → LR Mb 643 644 (dk d (2 * rgN o (c i) 1)) (dn d (2 * rgN o (c i) 0)) (di d (2 * rgN o (c i) 1)) := by
    intro h1 j hj
    have hv : VC o (c i) := by have := hC.2.2.2.2.vc; rw [eo] at this; exact this
    obtain ⟨r1, -⟩ := rg_is o46 hv h1
    obtain ⟨a1, a2⟩ := ca ⟨o46, h1⟩ j (by omega)
    rw [fb.l (by omega), fb.d (by omega), a1, a2]
    exact (D1 _ r1).2.2 j (by rw [(hF.1 1 h1).2.1]; exact hj)
  have LY : 2 < cntR o 4 → LR Mb 645 646 (dk d (2 * rgN o (c i) 2)) (dn d (2 * rgN o (c i) 0)) (di d (2 * rgN o (c i) 2)) := by
    intro h2 j hj
    have hv : VC o (c i) := by have := hC.2.2.2.2.vc; rw [eo] at this; exact this
    obtain ⟨r1, -⟩ := rg_is o46 hv h2
    obtain ⟨a1, a2⟩ := cb ⟨o46, h2⟩ j (by omega)
    rw [a1, a2, fa.l (by omega), fa.d (by omega)]
    exact (D1 _ r1).2.2 j (by rw [(hF.1 2 h2).2.1]; exact hj)
  have c1 : ¬ (o = 30 ∨ o = 31) → 1 < cntR o 4 := by
    have : ∀ o ∈ List.range 46, BYL o → ¬ (o = 30 ∨ o = 31) → 1 < cntR o 4 := by unfold BYL; decide +kernel
    exact this o (List.mem_range.mpr o46) ho
  have c2 : o ≤ 10 ∨ o = 34 ∨ o = 37 → 2 < cntR o 4 := by
    have : ∀ o ∈ List.range 46, BYL o → (o ≤ 10 ∨ o = 34 ∨ o = 37) → 2 < cntR o 4 := by unfold BYL; decide +kernel
    exact this o (List.mem_range.mpr o46) ho
  have mkE : ∀ t j, mkS o (dk d (2 * rgN o (c i) 0)) (dk d (2 * rgN o (c i) 1)) (dn d (2 * rgN o (c i) 0)) (di d (2 * rgN o (c i) 1)) (di d (2 * rgN o (c i) 2)) (dsc d (scN o (c i))) (dn d (2 * arN (c i) + 1)) (di d (2 * arN (c i) + 1)) t j = madeS o (dk d (2 * rgN o (c i) 0)) (dk d (2 * rgN o (c i) 1)) (dn d (2 * rgN o (c i) 0)) (di d (2 * rgN o (c i) 1)) (di d (2 * rgN o (c i) 2)) (dsc d (scN o (c i))) (dn d (2 * arN (c i) + 1)) (di d (2 * arN (c i) + 1)) j := fun t j => by
    unfold mkS
    rw [if_neg (by unfold BYL at ho; omega)]
  have D1v := D1 _ v8
  -- lane by lane
  have loop : ∀ f p : Nat, p + f = dn d (2 * rgN o (c i) 0) → ∀ (M1 : Mem) (g : Nat → Int64) (t : Option Int64) (o4 : Option Value), Wf M1 → FrC (rRowS (rgN o (c i) 0)) Mb M1 → (∀ j, j < dn d (2 * rgN o (c i) 0) → VR (dk d (2 * rgN o (c i) 0)) (gL M1 626 (32 * rgN o (c i) 0 + j)) (gD M1 627 (32 * rgN o (c i) 0 + j)) (g j)) → gI M1 605 69 = nI (fb_ct (fun q => bt (onS (nI (dn d (2 * rgN o (c i) 0))) (c i) (dm d)) q) p) →
      lrun (mkS o (dk d (2 * rgN o (c i) 0)) (dk d (2 * rgN o (c i) 1)) (dn d (2 * rgN o (c i) 0)) (di d (2 * rgN o (c i) 1)) (di d (2 * rgN o (c i) 2)) (dsc d (scN o (c i))) (dn d (2 * arN (c i) + 1)) (di d (2 * arN (c i) + 1))) (onW (onS (nI (dn d (2 * rgN o (c i) 0))) (c i) (dm d))) f p t g = lrun (mkS o (dk d (2 * rgN o (c i) 0)) (dk d (2 * rgN o (c i) 1)) (dn d (2 * rgN o (c i) 0)) (di d (2 * rgN o (c i) 1)) (di d (2 * rgN o (c i) 2)) (dsc d (scN o (c i))) (dn d (2 * arN (c i) + 1)) (di d (2 * arN (c i) + 1))) (onW (onS (nI (dn d (2 * rgN o (c i) 0))) (c i) (dm d))) (dn d (2 * rgN o (c i) 0)) 0 none (di d (2 * rgN o (c i) 0)) →
      G 45 [some (.ref 605), some (.int (nI i)), some (.int (nI (rgN o (c i) 0))), some (.int (nI p)), o4] [] M1 := by
    intro f
    induction f with
    | zero =>
      intro p hp M1 g t o4 hW1 f1 hg h69' hR
      have e : lrun (mkS o (dk d (2 * rgN o (c i) 0)) (dk d (2 * rgN o (c i) 1)) (dn d (2 * rgN o (c i) 0)) (di d (2 * rgN o (c i) 1)) (di d (2 * rgN o (c i) 2)) (dsc d (scN o (c i))) (dn d (2 * arN (c i) + 1)) (di d (2 * arN (c i) + 1))) (onW (onS (nI (dn d (2 * rgN o (c i) 0))) (c i) (dm d))) 0 p t g = (0, p, g) := rfl
      rw [e] at hR
      rw [← hR] at h
      have fM : FrC rinS M M1 := (fab.mono (fun a j z => by unfold rinS; omega)).tr (f1.mono (fun a j z => by unfold rRowS at z; unfold rinS; omega))
      refine eX13_byLanes_45 hc hW1 ?_
      rw [nI_clamp (by omega), f1.i (by unfold rRowS; omega), fab.i (by omega), D1v.2.1]
      refine ⟨vpN v8 (by decide), fun _ => ?_, fun z => absurd (nI_le (by omega) (by omega)) z⟩
      have hp' : p = dn d (2 * rgN o (c i) 0) := by omega
      refine h M1 hW1 fM ?_ (fun _ => ⟨?_, ?_⟩) (fun z => absurd rfl z)
      · exact RDc.row hd (fab.mono (T := fun a j => (643 ≤ a ∧ a ≤ 646) ∨ rRowS (rgN o (c i) 0) a j) (fun a j z => Or.inl z) |>.tr (f1.mono (fun a j z => Or.inr z))) (fun a j z q => by unfold rRowS at z; omega) v8 ⟨D1, D2, D3, D4⟩ hg
      · show gI M1 605 69 = nI (cntW _)
        rw [h69', hp', cnt_below hnn.2 (fun q a b => rOnS_hi hnn.2 a b)]
      · rw [f1.i (by unfold rRowS; omega), fab.i (by omega)]
    | succ f ih =>
      intro p hp M1 g t o4 hW1 f1 hg h69' hR
      have fM : FrC rinS M M1 := (fab.mono (fun a j z => by unfold rinS; omega)).tr (f1.mono (fun a j z => by unfold rRowS at z; unfold rinS; omega))
      have hC1 := hC.fr fM (fun a j z => rinS_pr z)
      have hO1 : gI M1 605 70 = olR (c i) d := by rw [f1.i (by unfold rRowS; omega), fab.i (by omega)]; exact hO
      obtain ⟨n1, n2⟩ := isOn_is (d := d) (j := p) (nn := dn d (2 * rgN o (c i) 0)) hC1 hO1 (by omega) hnn.2
      refine eX13_byLanes_45 hc hW1 ?_
      rw [nI_clamp (by omega), f1.i (show ¬ rRowS _ 625 _ by unfold rRowS; omega), fab.i (show ¬ (643 ≤ 625 ∧ 625 ≤ 646) by omega), D1v.2.1, f1.i (show ¬ rRowS _ 624 _ by unfold rRowS; omega), fab.i (show ¬ (643 ≤ 624 ∧ 624 ≤ 646) by omega), D1v.1, n2]
      have ctS : fb_ct (fun q => bt (onS (nI (dn d (2 * rgN o (c i) 0))) (c i) (dm d)) q) (p + 1) = fb_ct (fun q => bt (onS (nI (dn d (2 * rgN o (c i) 0))) (c i) (dm d)) q) p + (if bt (onS (nI (dn d (2 * rgN o (c i) 0))) (c i) (dm d)) p then 1 else 0) := rfl
      have eR : lrun (mkS o (dk d (2 * rgN o (c i) 0)) (dk d (2 * rgN o (c i) 1)) (dn d (2 * rgN o (c i) 0)) (di d (2 * rgN o (c i) 1)) (di d (2 * rgN o (c i) 2)) (dsc d (scN o (c i))) (dn d (2 * arN (c i) + 1)) (di d (2 * arN (c i) + 1))) (onW (onS (nI (dn d (2 * rgN o (c i) 0))) (c i) (dm d))) (f + 1) p t g = iT (onW (onS (nI (dn d (2 * rgN o (c i) 0))) (c i) (dm d)) p) (if (mkS o (dk d (2 * rgN o (c i) 0)) (dk d (2 * rgN o (c i) 1)) (dn d (2 * rgN o (c i) 0)) (di d (2 * rgN o (c i) 1)) (di d (2 * rgN o (c i) 2)) (dsc d (scN o (c i))) (dn d (2 * arN (c i) + 1)) (di d (2 * arN (c i) + 1)) t p).1 = 0 then lrun (mkS o (dk d (2 * rgN o (c i) 0)) (dk d (2 * rgN o (c i) 1)) (dn d (2 * rgN o (c i) 0)) (di d (2 * rgN o (c i) 1)) (di d (2 * rgN o (c i) 2)) (dsc d (scN o (c i))) (dn d (2 * arN (c i) + 1)) (di d (2 * arN (c i) + 1))) (onW (onS (nI (dn d (2 * rgN o (c i) 0))) (c i) (dm d))) f (p + 1) (some (mkS o (dk d (2 * rgN o (c i) 0)) (dk d (2 * rgN o (c i) 1)) (dn d (2 * rgN o (c i) 0)) (di d (2 * rgN o (c i) 1)) (di d (2 * rgN o (c i) 2)) (dsc d (scN o (c i))) (dn d (2 * arN (c i) + 1)) (di d (2 * arN (c i) + 1)) t p).2) (up1 g p (mkS o (dk d (2 * rgN o (c i) 0)) (dk d (2 * rgN o (c i) 1)) (dn d (2 * rgN o (c i) 0)) (di d (2 * rgN o (c i) 1)) (di d (2 * rgN o (c i) 2)) (dsc d (scN o (c i))) (dn d (2 * arN (c i) + 1)) (di d (2 * arN (c i) + 1)) t p).2) else ((mkS o (dk d (2 * rgN o (c i) 0)) (dk d (2 * rgN o (c i) 1)) (dn d (2 * rgN o (c i) 0)) (di d (2 * rgN o (c i) 1)) (di d (2 * rgN o (c i) 2)) (dsc d (scN o (c i))) (dn d (2 * arN (c i) + 1)) (di d (2 * arN (c i) + 1)) t p).1, p, g)) (lrun (mkS o (dk d (2 * rgN o (c i) 0)) (dk d (2 * rgN o (c i) 1)) (dn d (2 * rgN o (c i) 0)) (di d (2 * rgN o (c i) 1)) (di d (2 * rgN o (c i) 2)) (dsc d (scN o (c i))) (dn d (2 * arN (c i) + 1)) (di d (2 * arN (c i) + 1))) (onW (onS (nI (dn d (2 * rgN o (c i) 0))) (c i) (dm d))) f (p + 1) t g) := rfl
      rw [eR, mkE] at hR
      refine ⟨vpN v8 (by decide), fun z => absurd ((nI_leI (by omega) (by omega)).mp z) (by omega), fun _ => ⟨n1, fun on => ⟨vpN v8 (by decide), vpN v8 (by decide), ?_⟩, fun off => ?_⟩⟩
      · rw [iT_t on] at hR
        refine c_laneMade13 (d := d) (o := o) (m := dn d (2 * arN (c i) + 1)) (E := di d (2 * arN (c i) + 1)) hW1 hC1 eo ho hF (fun q hq => ?_) (fun u hu => ?_) (fun z j hj => ?_) (fun z j hj => ?_) (by omega) (fun M2 hW2 f2 hv2 => rX13_byLanes_67_11 hc hW2 ?_)
        · rw [f1.l (by unfold rRowS; omega), fab.l (by omega)]; exact D4 q hq
        · rw [f1.i (by unfold rRowS; omega), fab.i (by omega)]; exact (D1 u hu).1
        · rw [f1.l (by unfold rRowS; omega), f1.d (by unfold rRowS; omega)]; exact LX (c1 z) j hj
        · rw [f1.l (by unfold rRowS; omega), f1.d (by unfold rRowS; omega)]; exact LY (c2 z) j hj
        generalize hr : madeS o (dk d (2 * rgN o (c i) 0)) (dk d (2 * rgN o (c i) 1)) (dn d (2 * rgN o (c i) 0)) (di d (2 * rgN o (c i) 1)) (di d (2 * rgN o (c i) 2)) (dsc d (scN o (c i))) (dn d (2 * arN (c i) + 1)) (di d (2 * arN (c i) + 1)) p = r at hR hv2
        refine ⟨fun le => ?_, fun gt => ?_⟩
        · have r0 : r.1 = 0 := cd_le (by rw [← hr]; exact made_cd) le
          rw [if_pos r0] at hR
          have hv2 := hv2 r0
          have ea : (32 : Int32) * nI (rgN o (c i) 0) + nI p = nI (32 * rgN o (c i) 0 + p) := by rw [show (32 : Int32) = nI 32 from rfl, pk_mul, nI_add]
          have ec : (nI (32 * rgN o (c i) 0 + p)).toNatClampNeg = 32 * rgN o (c i) 0 + p := nI_clamp (by omega)
          unfold q_X13_lay m_X13_lay
          rw [ea, ec, nI_1]
          refine ⟨⟨vpN (by omega) (by decide), vpN (by omega) (by decide)⟩, ?_⟩
          have f3 : FrC (rRowS (rgN o (c i) 0)) M1 (uI (uD (uL M2 626 (32 * rgN o (c i) 0 + p) (gL M2 605 63)) 627 (32 * rgN o (c i) 0 + p) (gD M2 605 64)) 605 69 (gI (uD (uL M2 626 (32 * rgN o (c i) 0 + p) (gL M2 605 63)) 627 (32 * rgN o (c i) 0 + p) (gD M2 605 64)) 605 69 + (1 : Int32))) :=
            (f2.mono (fun a j z => by unfold rwS at z; unfold rRowS; omega)).tr (((FrC_uL (by unfold rRowS; omega)).tr (FrC_uD (by unfold rRowS; omega))).tr (FrC_uI (by unfold rRowS; omega)))
          refine ih (p + 1) (by omega) _ (up1 g p r.2) (some r.2) _ (f3.wf hW1) (f1.tr f3) (fun j hj => ?_) ?_ hR
          · unfold up1
            rw [gL_uI, gD_uI, gL_uD, gL_uL, gD_uD, gD_uL]
            by_cases e : j = p
            · rw [if_pos ⟨rfl, by omega⟩, if_pos ⟨rfl, by omega⟩, if_pos e]
              exact hv2
            · rw [if_neg (fun z => e (by omega)), if_neg (fun z => e (by omega)), if_neg e, f2.l (by unfold rwS; omega), f2.d (by unfold rwS; omega)]
              exact hg j hj
          · rw [gI_uI, if_pos ⟨rfl, rfl⟩, gI_uD, gI_uL, f2.i (by unfold rwS; omega), h69', nI_1, ctS, if_pos ((onW_bt (by omega)).mp on)]
        · have r1 : r.1 ≠ 0 := fun z => gt (by rw [z]; decide)
          rw [if_neg r1] at hR
          rw [← hR] at h
          have f3 : FrC rinS M (uI M2 605 50 (nI p)) := (fM.tr (f2.mono (fun a j z => by unfold rwS at z; unfold rinS; omega))).tr (FrC_uI (by unfold rinS; omega))
          unfold m_X13_failed
          refine h _ (f3.wf hW) f3 ?_ (fun z => absurd z r1) (fun _ => ?_)
          · refine RDc.row hd (S := fun a j => (643 ≤ a ∧ a ≤ 646) ∨ rRowS (rgN o (c i) 0) a j ∨ (a = 605)) (((fab.mono (fun a j z => Or.inl z)).tr (f1.mono (fun a j z => Or.inr (Or.inl z)))).tr ((f2.mono (fun a j z => Or.inr (Or.inr z.1))).tr (FrC_uI (Or.inr (Or.inr rfl))))) (fun a j z q => by unfold rRowS at z; omega) v8 ⟨D1, D2, D3, D4⟩ (fun j hj => ?_)
            rw [gL_uI, gD_uI, f2.l (by unfold rwS; omega), f2.d (by unfold rwS; omega)]
            exact hg j hj
          · rw [gI_uI, if_pos ⟨rfl, rfl⟩]
            exact (if_neg r1).symm
      · rw [iT_f off] at hR
        rw [nI_1]
        refine ih (p + 1) (by omega) M1 g t _ hW1 f1 hg ?_ hR
        rw [h69', ctS, if_neg (fun z => off ((onW_bt (by omega)).mpr z)), Nat.add_zero]
  refine loop _ 0 (Nat.zero_add _) Mb (di d (2 * rgN o (c i) 0)) none _ hWb FrC.rf (fun j hj => ?_) ?_ rfl
  · rw [fab.l (by omega), fab.d (by omega)]; exact D1v.2.2 j hj
  · rw [fab.i (by omega)]; exact h69
end
end RBYL2
