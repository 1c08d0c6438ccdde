section RINSL
section
variable {M M' : Mem} {K : RT} {t : Nat → Nat} {n : Nat} {x : TK} {st : PS}
def ldB (c : Nat → Nat → Int64) (i : Nat) : Bool := decide (0 < leadN (cn (c i) 0))
/-- draft i, whose LABEL, if it has one, is use u -/
def DrW (M : Mem) (t : Nat → Nat) (n i u : Nat) (r : Nat → Int64) : Prop := gI M 609 i = nI (cn r 0) ∧ gI M 611 i = (r 5).toInt32 ∧ (∀ k, k < 4 → k + 1 ≠ leadN (cn r 0) → gL M 610 (4 * i + k) = r (k + 1)) ∧ (0 < leadN (cn r 0) → gI M 615 u = nI (ldV r) ∧ gI M 616 u = nI (scF t n isWd (ldV r)) ∧ gI M 617 u = nI (4 * i + (leadN (cn r 0) - 1)) ∧ ldV r < n)
def DrA (M : Mem) (t : Nat → Nat) (n d : Nat) (c : Nat → Nat → Int64) : Prop := ∀ i, i < d → DrW M t n i (fb_ct (ldB c) i) (c i)
def DrR (M : Mem) (t : Nat → Nat) (n d : Nat) (c : Nat → Nat → Int64) : Prop := gI M 605 11 = nI d ∧ d ≤ 100 ∧ gI M 605 19 = nI (fb_ct (ldB c) d) ∧ DrA M t n d c
theorem DrA.fr {S : Nat → Nat → Prop} {d : Nat} {c : Nat → Nat → Int64} (hf : FrC S M M') (h1 : ∀ i, i < d → ¬ S 609 i ∧ ¬ S 611 i ∧ (∀ k, k < 4 → ¬ S 610 (4 * i + k))) (h2 : ∀ u, u < fb_ct (ldB c) d → ¬ S 615 u ∧ ¬ S 616 u ∧ ¬ S 617 u) (h : DrA M t n d c) : DrA M' t n d c := fun i hi => by
  obtain ⟨a1, a2, a3, a4⟩ := h i hi
  obtain ⟨b1, b2, b3⟩ := h1 i hi
  refine ⟨by rw [hf.i b1]; exact a1, by rw [hf.i b2]; exact a2, fun k hk hk2 => by rw [hf.l (b3 k hk)]; exact a3 k hk hk2, fun hl => ?_⟩
  obtain ⟨c1, c2, c3⟩ := a4 hl
  have hm : fb_ct (ldB c) (i + 1) ≤ fb_ct (ldB c) d := fb_ct_mono _ (by omega)
  rw [fb_ct_succ, show ldB c i = true from decide_eq_true hl, if_pos rfl] at hm
  obtain ⟨d1, d2, d3⟩ := h2 (fb_ct (ldB c) i) (by omega)
  exact ⟨by rw [hf.i d1]; exact c1, by rw [hf.i d2]; exact c2, by rw [hf.i d3]; exact c3.1, c3.2⟩
theorem DrA.up {d : Nat} {c : Nat → Nat → Int64} {r : Nat → Int64} (h : DrA M t n d c) : DrA M t n d (up1 c d r) := fun i hi => by
  have e : fb_ct (ldB (up1 c d r)) i = fb_ct (ldB c) i := fb_ct_cong (fun k hk => by unfold ldB; rw [up1_ne (show k ≠ d by omega)])
  rw [e, up1_ne (show i ≠ d by omega)]
  exact h i hi
theorem DrA.dn {d : Nat} {c : Nat → Nat → Int64} {r : Nat → Int64} (h : DrA M t n d (up1 c d r)) : DrA M t n d c := fun i hi => by
  have e : fb_ct (ldB (up1 c d r)) i = fb_ct (ldB c) i := fb_ct_cong (fun k hk => by unfold ldB; rw [up1_ne (show k ≠ d by omega)])
  have := h i hi
  rw [e, up1_ne (show i ≠ d by omega)] at this
  exact this
/-- instruction d is being read: k operands are there -/
def PaR (M : Mem) (t : Nat → Nat) (n d : Nat) (c : Nat → Nat → Int64) (o k : Nat) (r : Nat → Int64) : Prop := gI M 605 11 = nI (d + 1) ∧ d < 100 ∧ gI M 605 19 = nI (fb_ct (ldB c) d + if 0 < leadN o ∧ leadN o ≤ k then 1 else 0) ∧ DrA M t n d c ∧ gI M 609 d = nI o ∧ gI M 611 d = -1 ∧ (∀ j, j < 4 → j + 1 ≠ leadN o → gL M 610 (4 * d + j) = r (j + 1)) ∧ (0 < leadN o ∧ leadN o ≤ k → gI M 615 (fb_ct (ldB c) d) = nI (cn r (leadN o)) ∧ gI M 616 (fb_ct (ldB c) d) = nI (scF t n isWd (cn r (leadN o))) ∧ gI M 617 (fb_ct (ldB c) d) = nI (4 * d + (leadN o - 1)) ∧ cn r (leadN o) < n) ∧ r 0 = lN o ∧ r 5 = -1
theorem PaR.fr {S : Nat → Nat → Prop} {d o k : Nat} {c : Nat → Nat → Int64} {r : Nat → Int64} (hf : FrC S M M') (hS : ∀ a j, S a j → ¬ (a = 605 ∧ (j = 11 ∨ j = 19)) ∧ ¬ (609 ≤ a ∧ a ≤ 611) ∧ ¬ (615 ≤ a ∧ a ≤ 617)) (h : PaR M t n d c o k r) : PaR M' t n d c o k r := by
  obtain ⟨h1, h2, h3, h4, h5, h6, h7, h8, h9⟩ := h
  have nn : ∀ a j, ((a = 605 ∧ (j = 11 ∨ j = 19)) ∨ (609 ≤ a ∧ a ≤ 611) ∨ (615 ≤ a ∧ a ≤ 617)) → ¬ S a j := fun a j p q => by have := hS a j q; omega
  refine ⟨by rw [hf.i (nn _ _ (by omega))]; exact h1, h2, by rw [hf.i (nn _ _ (by omega))]; exact h3, h4.fr hf (fun i hi => ⟨nn _ _ (by omega), nn _ _ (by omega), fun k hk => nn _ _ (by omega)⟩) (fun u hu => ⟨nn _ _ (by omega), nn _ _ (by omega), nn _ _ (by omega)⟩), by rw [hf.i (nn _ _ (by omega))]; exact h5, by rw [hf.i (nn _ _ (by omega))]; exact h6, fun j hj hj2 => by rw [hf.l (nn _ _ (by omega))]; exact h7 j hj hj2, fun z => ?_, h9⟩
  obtain ⟨c1, c2, c3⟩ := h8 z
  exact ⟨by rw [hf.i (nn _ _ (by omega))]; exact c1, by rw [hf.i (nn _ _ (by omega))]; exact c2, by rw [hf.i (nn _ _ (by omega))]; exact c3.1, c3.2⟩
/-- what the reading of an instruction may change -/
def idS (a j : Nat) : Prop := (a = 605 ∧ ((6 ≤ j ∧ j ≤ 11) ∨ j = 19)) ∨ (609 ≤ a ∧ a ≤ 611) ∨ (615 ≤ a ∧ a ≤ 617)
theorem lt_tab : ∀ o ∈ List.range 68, ∀ k ∈ List.range (opL o).length, (ltR o k = 65 ↔ letN o k = 65) ∧ (ltR o k = 75 ↔ letN o k = 75) ∧ (ltR o k = 77 ↔ letN o k = 77) ∧ (ltR o k = 83 ↔ letN o k = 83) ∧ (ltR o k = 78 → letN o k = if o = 0 then 84 else if o = 50 then 85 else if o = 53 then 78 else 80) ∧ (ltR o k = 76 ↔ letN o k = 76) ∧ (ltR o k = 76 ↔ leadN o = k + 1) ∧ (ltR o k = 65 ∨ ltR o k = 75 ∨ ltR o k = 77 ∨ ltR o k = 83 ∨ ltR o k = 78 ∨ ltR o k = 76 ∨ ltR o k = 86) := by decide +kernel
theorem lead_len {o : Nat} (ho : o < 68) : leadN o ≤ (opL o).length := by
  rcases Nat.eq_zero_or_pos (leadN o) with z | z
  · omega
  · have := ((lead_let _ (List.mem_range.mpr ho)).1 z).1
    omega
theorem up1_cn {r : Nat → Int64} {w u : Nat} {v : Int64} (h : u ≠ w) : cn (up1 r w v) u = cn r u := by unfold cn; rw [up1_ne h]
theorem c_operand13 {d o k : Nat} {c : Nat → Nat → Int64} {r : Nat → Int64} (h0 : RAt M t n x) (hP : PaR M t n d c o k r) (ho : o < 68) (hk : k < (opL o).length) (hlo : leadN o ≤ k → k + 1 ≠ leadN o)
    (hno : ∀ M', Wf M' → FrC idS M M' → opT t (letN o k) x = none → gI M' 605 10 = nI (sT x) → K none M')
    (hyes : ∀ v M', opT t (letN o k) x = some v → FrC idS M M' → RAt M' t n (tok t n (eT x)) → PaR M' t n d c o (k + 1) (up1 r (k + 1) v) → K none M') : sp_X13_operand [.ref 605, .int (nI d), .int (nI k), .int (nI (ltR o k))] M K := by
  obtain ⟨hW, hT, hx, hr, h10⟩ := h0
  have h0 : RAt M t n x := ⟨hW, hT, hx, hr, h10⟩
  have hn := hT.1
  have hd : d < 100 := hP.2.1
  have h4 : (opL o).length ≤ 4 := opLen4 ho
  obtain ⟨t65, t75, t77, t83, t78, t76, tl, tall⟩ := lt_tab o (List.mem_range.mpr ho) k (List.mem_range.mpr hk)
  have ll : letN o k < 128 := letN_lt ho
  have ltlt : ltR o k < 256 := Nat.mod_lt _ (by decide)
  have ec : (4 : Int32) * nI d + nI k = nI (4 * d + k) := by rw [show (4 : Int32) = nI 4 from rfl, pk_mul, nI_add]
  refine wX13_operand hW (fun {G} hc => ?_)
  have iq : ∀ q, q < 256 → (nI (ltR o k) = nI q ↔ ltR o k = q) := fun q hq => nI_eq (by omega) (by omega)
  have i65 : (nI (ltR o k) = 65) ↔ ltR o k = 65 := iq 65 (by decide)
  have i75 : (nI (ltR o k) = 75) ↔ ltR o k = 75 := iq 75 (by decide)
  have i77 : (nI (ltR o k) = 77) ↔ ltR o k = 77 := iq 77 (by decide)
  have i78 : (nI (ltR o k) = 78) ↔ ltR o k = 78 := iq 78 (by decide)
  have i83 : (nI (ltR o k) = 83) ↔ ltR o k = 83 := iq 83 (by decide)
  have i86 : (nI (ltR o k) = 86) ↔ ltR o k = 86 := iq 86 (by decide)
  rw [ec, i65, i75, i77, i78, i83, i86]
  have vp : vp_in (nI (4 * d + k)) 400 := vpN (by omega) (by decide)
  have cl : (nI (4 * d + k)).toNatClampNeg = 4 * d + k := nI_clamp (by omega)
  -- a value is written
  have wrote : ltR o k ≠ 76 → ∀ v M2, opT t (letN o k) x = some v → FrC (dwS (4 * d + k)) M M2 → gL M2 610 (4 * d + k) = v → RAt M2 t n (tok t n (eT x)) → K none M2 := by
    intro n76 v M2 hv f2 g2 r2
    have nl : leadN o ≠ k + 1 := fun z => n76 (tl.mpr z)
    refine hyes v M2 hv (f2.mono (fun a j z => by unfold dwS tkS at z; unfold idS; omega)) r2 ?_
    obtain ⟨p1, p2, p3, p4, p5, p6, p7, p8, p9, p10⟩ := hP
    have f3 := f2
    have ns : ∀ a j, ¬ ((a = 610 ∧ j = 4 * d + k) ∨ tkS a j) → ¬ dwS (4 * d + k) a j := fun a j z => z
    refine ⟨?_, p2, ?_, p4.fr f2 (fun i hi => ⟨?_, ?_, fun q hq => ?_⟩) (fun u hu => ⟨?_, ?_, ?_⟩), ?_, ?_, fun j hj hj2 => ?_, fun z => ?_, ?_, ?_⟩
    · rw [f2.i (by unfold dwS tkS; omega)]; exact p1
    · rw [f2.i (by unfold dwS tkS; omega), p3]
      by_cases z : 0 < leadN o ∧ leadN o ≤ k
      · rw [if_pos z, if_pos (show 0 < leadN o ∧ leadN o ≤ k + 1 by omega)]
      · rw [if_neg z, if_neg (show ¬ (0 < leadN o ∧ leadN o ≤ k + 1) by omega)]
    · unfold dwS tkS; omega
    · unfold dwS tkS; omega
    · unfold dwS tkS; omega
    · unfold dwS tkS; omega
    · unfold dwS tkS; omega
    · unfold dwS tkS; omega
    · rw [f2.i (by unfold dwS tkS; omega)]; exact p5
    · rw [f2.i (by unfold dwS tkS; omega)]; exact p6
    · by_cases e : j = k
      · subst e; rw [up1_eq]; exact g2
      · rw [up1_ne (by omega), f2.l (by unfold dwS tkS; omega)]
        exact p7 j hj hj2
    · rw [up1_cn (by omega), f2.i (by unfold dwS tkS; omega), f2.i (by unfold dwS tkS; omega), f2.i (by unfold dwS tkS; omega)]
      exact p8 (by omega)
    · rw [up1_ne (by omega)]; exact p9
    · rw [up1_ne (by omega)]; exact p10
  -- a register's, mask's, scalar's, array's number
  have badN : opT t (letN o k) x = none → K none (uL (uI M 605 10 (nI (sT x))) 610 (nI (4 * d + k)).toNatClampNeg (0 : Int32).toInt64) := fun z => by
    rw [cl]
    have f1 : FrC idS M (uL (uI M 605 10 (nI (sT x))) 610 (4 * d + k) (0 : Int32).toInt64) := (FrC_uI (by unfold idS; omega)).tr (FrC_uL (by unfold idS; omega))
    exact hno _ (f1.wf hW) f1 z (by show gI (uI M 605 10 (nI (sT x))) 605 10 = _; rw [gI_uI, if_pos ⟨rfl, rfl⟩])
  have goodN : ltR o k ≠ 76 → ∀ v M2, v < 9 → opT t (letN o k) x = some (lN v) → FrC tkS M M2 → RAt M2 t n (tok t n (eT x)) → K none (uL M2 610 (nI (4 * d + k)).toNatClampNeg (nI v).toInt64) := fun n76 v M2 v9 hv f2 r2 => by
    rw [cl, nI_toL (by omega)]
    have f3 : FrC (fun a j => a = 610 ∧ j = 4 * d + k) M2 (uL M2 610 (4 * d + k) (lN v)) := FrC_uL ⟨rfl, rfl⟩
    exact wrote n76 (lN v) _ hv ((f2.mono (fun a j z => Or.inr z)).tr (f3.mono (fun a j z => Or.inl z))) (by rw [gL_uL, if_pos ⟨rfl, rfl⟩]) (r2.fr f3 (fun j z => by omega) (fun j z => by omega))
  refine ⟨fun z => ?_, fun n65 => ⟨fun z => ?_, fun n75 => ⟨fun z => ?_, fun n77 => ⟨fun z => ?_, fun n78 => ⟨fun z => ?_, fun n83 => ⟨fun z => ?_, fun n86 => ?_⟩⟩⟩⟩⟩⟩
  · have eo : opT t (letN o k) x = nbT t 97 8 x := by rw [t65.mp z]; rfl
    refine c_numbered13 (ch := 97) (m := 8) h0 (by decide) (by decide) (fun hno => rX13_operand_124_6 hc (fp_f.wf hW) ⟨vp, badN (by rw [eo]; exact hno)⟩) (fun v M2 hv v8 f2 r2 => rX13_operand_124_6 hc r2.1 ⟨vp, goodN (by omega) v M2 (by omega) (by rw [eo]; exact hv) f2 r2⟩)
  · have eo : opT t (letN o k) x = kdT t x := by rw [t75.mp z]; rfl
    have f1 : FrC idS M (uI M 605 10 (nI (sT x))) := fp_f.mono (fun a j z => by unfold fpS at z; unfold idS; omega)
    exact c_kindO13 h0 (by omega) (fun g => rX13_operand_143_2 hc (f1.wf hW) (hno _ (f1.wf hW) f1 (by rw [eo]; exact g) fp_g)) (fun v M2 hv f2 g2 r2 => rX13_operand_143_2 hc r2.1 (wrote (by omega) v M2 (by rw [eo]; exact hv) f2 g2 r2))
  · have eo : opT t (letN o k) x = nbT t 109 4 x := by rw [t77.mp z]; rfl
    refine c_numbered13 (ch := 109) (m := 4) h0 (by decide) (by decide) (fun hno => rX13_operand_87_6 hc (fp_f.wf hW) ⟨vp, badN (by rw [eo]; exact hno)⟩) (fun v M2 hv v8 f2 r2 => rX13_operand_87_6 hc r2.1 ⟨vp, goodN (by omega) v M2 (by omega) (by rw [eo]; exact hv) f2 r2⟩)
  · have eo : opT t (letN o k) x = nmR t o x := by
      rw [t78 z]
      unfold nmR
      split
      · rfl
      · split
        · rfl
        · split <;> rfl
    have f1 : FrC idS M (uI M 605 10 (nI (sT x))) := fp_f.mono (fun a j z => by unfold fpS at z; unfold idS; omega)
    rw [nI_clamp (by omega), hP.2.2.2.2.1]
    exact ⟨vpN hd (by decide), c_numO13 h0 (by omega) ho (fun g => rX13_operand_152_6 hc (f1.wf hW) (hno _ (f1.wf hW) f1 (by rw [eo]; exact g) fp_g)) (fun v M2 hv f2 g2 r2 => rX13_operand_152_6 hc r2.1 (wrote (by omega) v M2 (by rw [eo]; exact hv) f2 g2 r2))⟩
  · have eo : opT t (letN o k) x = nbT t 115 8 x := by rw [t83.mp z]; rfl
    refine c_numbered13 (ch := 115) (m := 8) h0 (by decide) (by decide) (fun hno => rX13_operand_105_6 hc (fp_f.wf hW) ⟨vp, badN (by rw [eo]; exact hno)⟩) (fun v M2 hv v8 f2 r2 => rX13_operand_105_6 hc r2.1 ⟨vp, goodN (by omega) v M2 (by omega) (by rw [eo]; exact hv) f2 r2⟩)
  · have hl := (mn_all o (List.mem_range.mpr ho)).2 k (List.mem_range.mpr hk)
    have hl := hl.mp z
    have eo : opT t (letN o k) x = nbT t 118 8 x := by
      unfold opT
      rw [if_neg (by omega), if_neg (by omega), if_neg (by omega), if_neg (by omega), if_neg (by omega), if_neg (by omega), if_neg (by omega), if_neg (by omega), if_neg (by omega)]
    refine c_numbered13 (ch := 118) (m := 8) h0 (by decide) (by decide) (fun hno => rX13_operand_68_6 hc (fp_f.wf hW) ⟨vp, badN (by rw [eo]; exact hno)⟩) (fun v M2 hv v8 f2 r2 => rX13_operand_68_6 hc r2.1 ⟨vp, goodN (by omega) v M2 (by omega) (by rw [eo]; exact hv) f2 r2⟩)
  · have z : ltR o k = 76 := by omega
    have hlk : leadN o = k + 1 := tl.mp z
    have eo : opT t (letN o k) x = if kT x = 119 ∧ eT x - sT x ≤ 12 then some (lN (sT x)) else none := by rw [t76.mp z]; rfl
    have bad : ¬ (kT x = 119 ∧ eT x - sT x ≤ 12) → K none (m_X13_wrong (gI M 605 7) M) := fun g => by
      rw [wr13 h0]
      have f1 : FrC idS M (uI M 605 10 (nI (sT x))) := fp_f.mono (fun a j z => by unfold fpS at z; unfold idS; omega)
      exact hno _ (f1.wf hW) f1 (by rw [eo, if_neg g]) fp_g
    rw [s_word hx hr]
    refine ⟨fun g => bad (fun y => g y.1), fun hk9 => ?_⟩
    have h7 : gI M 605 7 = nI (sT x) := hr.2.1
    have h8 : gI M 605 8 = nI (eT x) := hr.2.2.1 (by omega)
    have hen := hx.2.1
    have hse := hx.1
    obtain ⟨w1, w2, w3⟩ := hx.2.2.1 hk9
    have el : gI M 605 8 - gI M 605 7 ≤ 12 ↔ eT x - sT x ≤ 12 := by rw [h8, h7, pk_sub hse]; exact nI_leI (b := 12) (by omega) (by decide)
    rw [el]
    refine ⟨fun g => ?_, fun g => bad (fun y => g y.2)⟩
    obtain ⟨p1, p2, p3, p4, p5, p6, p7, p8, p9, p10⟩ := hP
    rw [if_neg (by omega)] at p3
    have p3 : gI M 605 19 = nI (fb_ct (ldB c) d) := p3
    have hu : fb_ct (ldB c) d ≤ d := fb_ct_le _ _
    rw [h7, h8, p3, nI_clamp (by omega), nI_1]
    generalize hU : fb_ct (ldB c) d = u at p3 hu ⊢
    have f1 : FrC (fun a j => ((a = 615 ∨ a = 616 ∨ a = 617) ∧ j = u) ∨ (a = 605 ∧ j = 19)) M (uI (uI (uI (uI M 615 u (nI (sT x))) 616 u (nI (eT x))) 617 u (nI (4 * d + k))) 605 19 (nI (u + 1))) := (((FrC_uI (by omega)).tr (FrC_uI (by omega))).tr (FrC_uI (by omega))).tr (FrC_uI (by omega))
    have g15 : gI (uI (uI (uI (uI M 615 u (nI (sT x))) 616 u (nI (eT x))) 617 u (nI (4 * d + k))) 605 19 (nI (u + 1))) 615 u = nI (sT x) := by rw [gI_uI, if_neg (by omega), gI_uI, if_neg (by omega), gI_uI, if_neg (by omega), gI_uI, if_pos ⟨rfl, rfl⟩]
    have g16 : gI (uI (uI (uI (uI M 615 u (nI (sT x))) 616 u (nI (eT x))) 617 u (nI (4 * d + k))) 605 19 (nI (u + 1))) 616 u = nI (eT x) := by rw [gI_uI, if_neg (by omega), gI_uI, if_neg (by omega), gI_uI, if_pos ⟨rfl, rfl⟩]
    have g17 : gI (uI (uI (uI (uI M 615 u (nI (sT x))) 616 u (nI (eT x))) 617 u (nI (4 * d + k))) 605 19 (nI (u + 1))) 617 u = nI (4 * d + k) := by rw [gI_uI, if_neg (by omega), gI_uI, if_pos ⟨rfl, rfl⟩]
    have g19 : gI (uI (uI (uI (uI M 615 u (nI (sT x))) 616 u (nI (eT x))) 617 u (nI (4 * d + k))) 605 19 (nI (u + 1))) 605 19 = nI (u + 1) := by rw [gI_uI, if_pos ⟨rfl, rfl⟩]
    generalize uI (uI (uI (uI M 615 u (nI (sT x))) 616 u (nI (eT x))) 617 u (nI (4 * d + k))) 605 19 (nI (u + 1)) = M1 at f1 g15 g16 g17 g19 ⊢
    refine ⟨vpN (by omega) (by decide), vpN (by omega) (by decide), vpN (by omega) (by decide), c_nx13 h0 f1 (fun j z => by omega) (fun j z => by omega) (by omega) (by omega) (fun M2 f2 r2 _ => rX13_operand_197_27 hc r2.1 ?_)⟩
    have f12 : FrC (fun a j => (((a = 615 ∨ a = 616 ∨ a = 617) ∧ j = u) ∨ (a = 605 ∧ j = 19)) ∨ tkS a j) M M2 := (f1.mono (fun a j z => Or.inl z)).tr (f2.mono (fun a j z => Or.inr z))
    have hcn : cn (up1 r (k + 1) (lN (sT x))) (leadN o) = sT x := by rw [hlk]; exact cn_lN up1_eq (by omega)
    refine hyes (lN (sT x)) M2 (by rw [eo, if_pos ⟨hk9, g⟩]) (f12.mono (fun a j z => by unfold tkS at z; unfold idS; omega)) r2 ⟨?_, p2, ?_, p4.fr f12 (fun i hi => ⟨by unfold tkS; omega, by unfold tkS; omega, fun q hq => by unfold tkS; omega⟩) (fun v hv => ⟨by unfold tkS; omega, by unfold tkS; omega, by unfold tkS; omega⟩), ?_, ?_, fun j hj hj2 => ?_, fun _ => ?_, ?_, ?_⟩
    · rw [f12.i (by unfold tkS; omega)]; exact p1
    · rw [f2.i (by unfold tkS; omega), g19, hU, if_pos (by omega)]
    · rw [f12.i (by unfold tkS; omega)]; exact p5
    · rw [f12.i (by unfold tkS; omega)]; exact p6
    · rw [up1_ne (by omega), f12.l (by unfold tkS; omega)]
      exact p7 j hj hj2
    · rw [hcn, hU, f2.i (by unfold tkS; omega), f2.i (by unfold tkS; omega), f2.i (by unfold tkS; omega), g15, g16, g17, ← w2, hlk]
      exact ⟨rfl, rfl, rfl, w1⟩
    · rw [up1_ne (by omega)]; exact p9
    · rw [up1_ne (by omega)]; exact p10
end
end RINSL
