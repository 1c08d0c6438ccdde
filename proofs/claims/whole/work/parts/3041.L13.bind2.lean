section BIND2
theorem uI_uI {M : Mem} {a k : Nat} {x y : Int32} : uI (uI M a k x) a k y = uI M a k y := by
  have e : up2 (up2 M.2.1 a k x) a k y = up2 M.2.1 a k y := by
    funext b j
    unfold up2
    by_cases h : b = a
    · by_cases q : j = k
      · simp [h, q]
      · simp [h, q]
    · simp [h]
  show (M.1, up2 (up2 M.2.1 a k x) a k y, M.2.2.1, M.2.2.2.1, M.2.2.2.2) = _
  rw [e]
  rfl
/-- which lanes are on -/
noncomputable def onS (len : Int32) (c : Nat → Int64) (ms : Nat → Int32) : Int32 := if c 5 < 0 then f_X2_below len else f_X2_below len &&& ms (c 5).toInt.toNat
/-- bound -/
def BD (o : Nat) (c : Nat → Int64) (M M' : Mem) : Prop :=
  Wf M' ∧ LnOK M' ∧ NM o c (opL o).length M' ∧ Mo (fun b => b = 404 ∨ b = 443 ∨ b = 444 ∨ b = 445) M M' ∧ (gI M' 404 2 = gI M 404 2 ∧ gI M' 404 3 = gI M 404 3 ∧ gI M' 404 9 = 0) ∧ gI M' 404 8 = onS (gI M' (rR M' 443 0) 1) c (gI M 408) ∧ (∀ j, j < 32 → gL M' 444 j = gL M' (rR M' 443 1 + 1) j) ∧ (∀ j, j < 32 → gL M' 445 j = gL M' (rR M' 443 2 + 1) j) ∧ ∀ a k, ¬ (a = 443 ∨ a = 404 ∧ k = 5) → gR M' a k = gR M a k
theorem Bk.Mo {M M' : Mem} (h : Bk M M') : Mo (fun b => b = 404 ∨ b = 443 ∨ b = 444 ∨ b = 445) M M' := ⟨h.2.2.1, fun a ha => ⟨funext fun k => h.2.2.2.1 a k (by omega), congrFun h.1 a, congrFun h.2.1 a, funext fun k => h.2.2.2.2 a k (by omega)⟩⟩
theorem cell_row {M : Mem} {j : Nat} (h : LnOK M) (hj : j < 3) : ∃ q, q < 8 ∧ rR M 443 j = 410 + 4 * q := by
  obtain ⟨q, q1, q2⟩ := h.1 j hj
  exact ⟨q, q1, rR_of q2⟩
theorem tail_bind {o : Nat} {c : Nat → Int64} {M M2 M3 : Mem} (h : bInv o c M (opL o).length M2) (e3 : M3 = uI M2 404 8 (onS (gI M2 (rR M2 443 0) 1) c (gI M 408))) :
    BD o c M (uI (bL (bL M3 444 (va_cpy (gL M3 ((rR M3 443 1) + 1)) (gL M3 444) 0 0 32)) 445 (va_cpy (gL (bL M3 444 (va_cpy (gL M3 ((rR M3 443 1) + 1)) (gL M3 444) 0 0 32)) ((rR M3 443 2) + 1)) (gL (bL M3 444 (va_cpy (gL M3 ((rR M3 443 1) + 1)) (gL M3 444) 0 0 32)) 445) 0 0 32)) 404 9 (0 : Int32)) := by
  obtain ⟨g1, g2, g3, g4⟩ := h
  have hR3 : gR M3 = gR M2 := by rw [e3]; rfl
  have hI3 : ∀ a k, ¬ (a = 404 ∧ k = 8) → gI M3 a k = gI M2 a k := fun a k q => by rw [e3]; exact uI_else q
  obtain ⟨p0, p01, p02⟩ := cell_row g3 (j := 0) (by decide)
  obtain ⟨p1, p11, p12⟩ := cell_row g3 (j := 1) (by decide)
  obtain ⟨p2, p21, p22⟩ := cell_row g3 (j := 2) (by decide)
  have r1 : rR M3 443 1 = 410 + 4 * p1 := by unfold rR; rw [hR3]; exact p12
  have r2 : rR M3 443 2 = 410 + 4 * p2 := by unfold rR; rw [hR3]; exact p22
  generalize hM4 : (uI (bL (bL M3 444 (va_cpy (gL M3 ((rR M3 443 1) + 1)) (gL M3 444) 0 0 32)) 445 (va_cpy (gL (bL M3 444 (va_cpy (gL M3 ((rR M3 443 1) + 1)) (gL M3 444) 0 0 32)) ((rR M3 443 2) + 1)) (gL (bL M3 444 (va_cpy (gL M3 ((rR M3 443 1) + 1)) (gL M3 444) 0 0 32)) 445) 0 0 32)) 404 9 (0 : Int32)) = M4
  have hW3 : Wf M3 := by rw [e3]; exact Wf_uI g1
  have hW4 : Wf M4 := by rw [← hM4]; exact Wf_uI (Wf_bL (Wf_bL hW3))
  have hR4 : gR M4 = gR M2 := by rw [← hM4]; exact hR3
  have hI4 : ∀ a k, ¬ (a = 404 ∧ (k = 8 ∨ k = 9)) → gI M4 a k = gI M2 a k := by
    intro a k q
    rw [← hM4]
    exact (uI_else (M := bL (bL M3 444 _) 445 _) (by omega)).trans (hI3 a k (by omega))
  have hm4 : Mo (fun b => b = 404 ∨ b = 443 ∨ b = 444 ∨ b = 445) M M4 := by
    refine g2.Mo.tr ?_
    rw [← hM4, e3]
    exact (((Mo_uI (Or.inl rfl)).tr (Mo_bL (Or.inr (Or.inr (Or.inl rfl))))).tr (Mo_bL (Or.inr (Or.inr (Or.inr rfl))))).tr (Mo_uI (Or.inl rfl))
  have hL4 : ∀ a j, ¬ a = 444 → ¬ a = 445 → gL M4 a j = gL M3 a j := by
    intro a j q1 q2
    rw [← hM4]
    show gL (bL (bL M3 444 _) 445 _) a j = _
    rw [gL_bL, if_neg q2, gL_bL, if_neg q1]
  have e0 : rR M4 443 0 = rR M2 443 0 := by unfold rR; rw [hR4]
  have e1 : rR M4 443 1 = 410 + 4 * p1 := by unfold rR; rw [hR4]; exact p12
  have e2 : rR M4 443 2 = 410 + 4 * p2 := by unfold rR; rw [hR4]; exact p22
  refine ⟨hW4, ⟨fun j hj => ?_, ?_, ?_, ?_⟩, fun k' hk v hv e => ?_, hm4, ⟨?_, ?_, ?_⟩, ?_, fun j hj => ?_, fun j hj => ?_, fun a k q => ?_⟩
  · rw [hR4]; exact g3.1 j hj
  · rw [hR4]; exact g3.2.1
  · rw [hI4 _ _ (by decide)]; exact g3.2.2.1
  · rw [hI4 _ _ (by decide)]; exact g3.2.2.2
  · rw [hR4, hI4 _ _ (by decide), hI4 _ _ (by decide)]; exact g4 k' hk v hv e
  · rw [hI4 _ _ (by decide)]; exact g2.2.2.2.1 _ _ (by decide)
  · rw [hI4 _ _ (by decide)]; exact g2.2.2.2.1 _ _ (by decide)
  · rw [← hM4, rI_eq]
  · rw [e0, hI4 (rR M2 443 0) 1 (by omega)]
    rw [← hM4, rI_k (by decide)]
    show gI M3 404 8 = _
    rw [e3, rI_eq]
  · rw [e1, hL4 (410 + 4 * p1 + 1) j (by omega) (by omega)]
    rw [← hM4]
    show gL (bL (bL M3 444 _) 445 _) 444 j = _
    rw [gL_bL, if_neg (by decide), gL_bL, if_pos rfl, pk_cpy_in (by omega) (by omega), r1, Nat.zero_add, Nat.sub_zero]
  · rw [e2, hL4 (410 + 4 * p2 + 1) j (by omega) (by omega)]
    rw [← hM4]
    show gL (bL (bL M3 444 _) 445 _) 445 j = _
    rw [gL_bL, if_pos rfl, pk_cpy_in (by omega) (by omega), r2, gL_bL, if_neg (by omega), Nat.zero_add, Nat.sub_zero]
  · rw [hR4]; exact g2.2.2.2.2 a k q
set_option maxRecDepth 100000 in
theorem c_bind {o : Nat} {c : Nat → Int64} {M : Mem} {K : RT} (hW : Wf M) (ho : o < 46) (hl : LnOK M) (hc6 : ∀ k, k < 6 → gL M 442 k = c k) (hv : VC o c)
    (h : ∀ M', BD o c M M' → ∀ K' : RT, (∀ y M'', Wf M'' → K (some (.int y)) M'' → K' (some (.int y)) M'') → sp_X2_misfit [.ref 404, .ref (100000 + o)] M' K') : sp_X2_bind [.ref 404, .ref (100000 + o)] M K := by
  have ho68 : o < 68 := by omega
  have hx := isOp_n ho68
  have hlen := opLen4 ho68
  refine wX2_bind hW hx (fun {G} hc => ?_)
  have tail : ∀ M3, (∃ M2, bInv o c M (opL o).length M2 ∧ M3 = uI M2 404 8 (onS (gI M2 (rR M2 443 0) 1) c (gI M 408))) → ∀ {o2 o3 o4 o5 : Option Value}, G 189 [some (.ref 404), some (.ref (100000 + o)), o2, o3, o4, o5] [] M3 := by
    intro M3 ⟨M2, hi, e3⟩ o2 o3 o4 o5
    have hW3 : Wf M3 := by rw [e3]; exact Wf_uI hi.1
    refine eX2_bind_189 hc hW3 hx ?_
    exact h _ (tail_bind hi e3) _ (fun y M'' hW'' hy => rX2_bind_189_27 hc hW'' hy)
  have loop : ∀ j k M1, k + j = (opL o).length → bInv o c M k M1 → ∀ {o4 o5 : Option Value}, G 4 [some (.ref 404), some (.ref (100000 + o)), some (.int (nI (cntR o k))), some (.int (nI k)), o4, o5] [] M1 := by
    intro j
    induction j with
    | zero =>
      intro k M1 hk hi o4 o5
      have hk : k = (opL o).length := by omega
      have hi' : bInv o c M (opL o).length M1 := hk ▸ hi
      refine eX2_bind_4 hc hi.1 hx ?_
      have h5 : gL M1 442 5 = c 5 := (congrFun (congrFun hi.2.1.1 442) 5).trans (hc6 5 (by decide))
      rw [opLen_f ho68, ← hk, h5]
      refine ⟨fun _ => ⟨fun q => tail _ ⟨M1, hi', ?_⟩, fun q => ?_⟩, fun q => absurd (nI_le (Nat.le_refl _) (by omega)) q⟩
      · unfold onS; rw [if_pos q]
      · rcases hv.2 with e | ⟨v, v1, v2⟩
        · rw [e] at q; exact absurd (by decide) q
        · rw [v2, lN_toI, and3 v1, nI_clamp (by omega)]
          refine ⟨vpN v1 (by decide), tail _ ⟨M1, hi', ?_⟩⟩
          have e1 : onS (gI M1 (rR M1 443 0) 1) c (gI M 408) = f_X2_below (gI M1 (rR M1 443 0) 1) &&& gI M1 408 v := by
            unfold onS
            rw [if_neg q, v2, l6_int (by omega), Int.toNat_natCast]
            congr 1
            exact (hi.2.1.2.2.2.1 408 v (by omega)).symm
          rw [e1]
          exact uI_uI
    | succ j ih =>
      intro k M1 hk hi o4 o5
      have hk4 : k < 4 := by omega
      have hlt := letN_lt (k := k) ho68
      have hcell : gL M1 442 (k + 1) = c (k + 1) := (congrFun (congrFun hi.2.1.1 442) (k + 1)).trans (hc6 (k + 1) (by omega))
      have hvk := hv.1 k (by omega)
      have e0 : isRg o k → cntR o (k + 1) = cntR o k + 1 := fun z => by show cntR o k + (if 97 ≤ letN o k ∧ letN o k ≤ 122 then 1 else 0) = _; rw [if_pos (show 97 ≤ letN o k ∧ letN o k ≤ 122 from z)]
      have e1 : ¬ isRg o k → cntR o (k + 1) = cntR o k := fun z => by show cntR o k + (if 97 ≤ letN o k ∧ letN o k ≤ 122 then 1 else 0) = _; rw [if_neg (show ¬ (97 ≤ letN o k ∧ letN o k ≤ 122) from z)]; rfl
      refine eX2_bind_4 hc hi.1 hx ?_
      rw [opLen_f ho68]
      refine ⟨fun q => absurd ((nI_leI (by omega) (by omega)).mp q) (by omega), fun _ => c_letter hi.1 ho68 (by omega) (rX2_bind_15_2 hc hi.1 hx ?_)⟩
      rw [nI_1, nI_clamp (by omega), hcell, isReg_n hlt]
      refine ⟨vpN (by omega) (by decide), fun y ey => ⟨fun q => ?_, fun q => ?_⟩⟩
      · obtain ⟨v', v1', v2'⟩ := and7' (c (k + 1)).toInt32
        refine eX2_bind_75 hc hi.1 hx ?_
        rw [show (65 : Int32) = nI 65 from rfl, show (77 : Int32) = nI 77 from rfl, show (83 : Int32) = nI 83 from rfl, nI_eq (by omega) (by decide), nI_eq (by omega) (by decide), nI_eq (by omega) (by decide), nI_1]
        refine ⟨fun q1 => ⟨fun q2 => ⟨fun q3 => ?_, fun q3 => ?_⟩, fun q2 => ?_⟩, fun q1 => ?_⟩
        · have := ih (k + 1) M1 (by omega) (hi.none q q1 q2 q3) (o4 := some (.int (nI (letN o k)))) (o5 := some (.int y))
          rw [e1 q] at this
          exact this
        · obtain ⟨v, v1, v2⟩ := hvk.1 (Or.inr (Or.inr q3))
          have := ih (k + 1) _ (by omega) (hi.Sc ho hk4 q3 v1 v2) (o4 := some (.int (nI (letN o k)))) (o5 := some (.int y))
          rw [e1 q] at this
          rw [ey, v2, lN_toI, and7 v1]
          rw [ey, v2, lN_toI, and7 v1] at this
          exact this
        · obtain ⟨v, v1, v2⟩ := hvk.2 q2
          have := ih (k + 1) _ (by omega) (hi.Mk ho hk4 q2 v1 v2) (o4 := some (.int (nI (letN o k)))) (o5 := some (.int y))
          rw [e1 q] at this
          rw [ey, v2, lN_toI, and7 (by omega), and3 v1]
          rw [ey, v2, lN_toI, and7 (by omega)] at this
          exact this
        · obtain ⟨v, v1, v2⟩ := hvk.1 (Or.inr (Or.inl q1))
          rw [ey, v2, lN_toI, and7 v1, nI_clamp (by omega)]
          refine ⟨vpN v1 (by decide), ?_⟩
          have := ih (k + 1) _ (by omega) (hi.A ho hk4 q1 v1 v2 (Wf_uR hi.1 (by decide) (by decide +kernel) (SstAN (a := 405) (s := 412) rfl Sk_405 v1))) (o4 := some (.int (nI (letN o k)))) (o5 := some (.int (nI v)))
          rw [e1 q] at this
          exact this
      · obtain ⟨v, v1, v2⟩ := hvk.1 (Or.inl q)
        have h3 := (cnt_all o (List.mem_range.mpr ho) k (List.mem_range.mpr hk4)).1 q
        rw [ey, v2, lN_toI, and7 v1, nI_clamp (by omega), nI_clamp (by omega), nI_1, show (3 : Int32) = nI 3 from rfl, nI_leI (by omega) (by omega)]
        refine ⟨fun z => absurd z (by omega), fun _ => ⟨vpN v1 (by decide), vpN h3 (by decide), ?_⟩⟩
        have := ih (k + 1) _ (by omega) (hi.Rg ho hk4 q v1 v2 (Wf_uR hi.1 (mx_rows h3) (fx_rows _) (SstRN (a := 405) (s := 410) rfl Sk_405 v1))) (o4 := some (.int (nI (letN o k)))) (o5 := some (.int (nI v)))
        rw [e0 q] at this
        exact this
  exact loop (opL o).length 0 M (by omega) ⟨hW, Bk.rf, hl, fun k' hk => absurd hk (by omega)⟩
end BIND2
