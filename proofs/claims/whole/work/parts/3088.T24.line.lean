section RDLINE
section
variable {M M' : Mem} {K : RT} {t : Nat → Nat} {n : Nat} {x : TK} {st : PS}
def insP (st : PS) (q : Nat ⊕ (TK × (Nat → Int64))) : Nat ⊕ (TK × PS) := match q with | .inl w => .inl w | .inr q => .inr (q.1, (pD st + 1, up1 (pC st) (pD st) q.2, pB st, pF st, pA st))
def ins2 (t : Nat → Nat) (n : Nat) (x : TK) (st : PS) : Nat ⊕ (TK × PS) := if woN t x < 68 ∧ pD st ≠ 100 then insP st (insS t n (woN t x) (eT x)) else .inl (sT x)
def thenE (q : Nat ⊕ (TK × PS)) : Nat ⊕ (TK × PS) := match q with | .inl w => .inl w | .inr q => endS q.1 q.2
theorem lin2_eq : lin2 t n x st = if kT x = 119 then thenE (ins2 t n x st) else endS x st := by
  unfold lin2 ins2
  by_cases h : kT x = 119
  · rw [if_pos h, if_pos h]
    by_cases g : woN t x < 68 ∧ pD st ≠ 100
    · rw [if_pos g, if_pos g]
      cases insS t n (woN t x) (eT x) with
      | inl w => rfl
      | inr q => rfl
    · rw [if_neg g, if_neg g]; rfl
  · rw [if_neg h, if_neg h]
/-- the reader stands, with all that was read -/
def RS1 (M : Mem) (t : Nat → Nat) (n : Nat) (st : PS) : Prop := RSt M t n st (pD st) (pC st)
theorem c_readIns (hR : RS1 M t n st) (hx : TkOK t n x) (hr : TkR x M) (hk : kT x = 119)
    (h1 : ∀ x' st' M', ins2 t n x st = .inr (x', st') → Mo rdS M M' → RS1 M' t n st' → TkOK t n x' → TkR x' M' → K (some (.int (1 : Int32))) M')
    (h0 : ∀ w M', ins2 t n x st = .inl w → Wf M' → Mo rdS M M' → gI M' 1 6 = nI w → K (some (.int (0 : Int32))) M') : sp_X7_readInstruction [.ref 1] M K := by
  have hd := hR.2.2.2.1
  refine wX7_readInstruction hR.1 (fun {G} hc => c_wordNo hR.1 hR.2.1 hx hr (rX7_readInstruction_0_1 hc hR.1 ?_))
  have no : ¬ (woN t x < 68 ∧ pD st ≠ 100) → K (some (.int (0 : Int32))) M := fun z => h0 (sT x) M (if_neg z) hR.1 Mo.rf hr.2.2.1
  by_cases z : woN t x < 68
  · rw [if_pos z, hR.2.2.2.2.1]
    have e100 : nI (pD st) = 100 ↔ pD st = 100 := nI_eq (b := 100) (by omega) (by decide)
    refine ⟨fun y => absurd y (nI_pos (by omega)), fun _ => ⟨fun y => ⟨vpN (by omega) (by decide), ?_⟩, fun y => no (fun w => w.2 (e100.mp y))⟩⟩
    have y : pD st ≠ 100 := fun w => y (e100.mpr w)
    have e : ins2 t n x st = insP st (insS t n (woN t x) (eT x)) := if_pos ⟨z, y⟩
    rw [e] at h1 h0
    generalize hw : woN t x = o at z h1 h0 ⊢
    rw [nI_clamp (by omega)]
    refine c_add2 hR (by omega) z (fun M2 hm2 hS2 h2 => rX7_readInstruction_23_11 hc hS2.1 (isOp_n z) ?_)
    refine c_opsI (st := st) (d := pD st) (c := pC st) hc z (by omega) (R := insS t n o (eT x)) (fun x' r' M' e1 hm hS hx' hr' => ?_) (fun w M' e1 hW' hm g6 => ?_) _ 0 (Nat.zero_add _) _ _ M2 rfl Mo.rf hS2 (by rw [h2]; exact hr.1) hx.2.1 (by rw [h2, hr.2.2.2, kT_no hx hk (by decide)]; rfl) _ _ _
    · rw [e1] at h1
      exact h1 x' (pD st + 1, up1 (pC st) (pD st) r', pB st, pF st, pA st) M' rfl (hm2.tr hm) hS hx' hr'
    · rw [e1] at h0
      exact h0 w M' rfl hW' (hm2.tr hm) g6
  · rw [if_neg z]
    exact ⟨fun _ => no (fun w => z w.1), fun y => absurd (by decide) y⟩
theorem c_readLine {p : Nat} (hR : RS1 M t n st) (hp : p ≤ n) (h4 : gI M 1 4 = nI p) (h7 : gI M 1 7 = 0)
    (h1 : ∀ x' st' M', linS t n p st = .inr (x', st') → Mo rdS M M' → RS1 M' t n st' → TkOK t n x' → TkR x' M' → K (some (.int (1 : Int32))) M')
    (h0 : ∀ w M', linS t n p st = .inl w → Wf M' → Mo rdS M M' → gI M' 1 6 = nI w → K (some (.int (0 : Int32))) M') : sp_X7_readLine [.ref 1] M K := by
  refine wX7_readLine hR.1 (fun {G} hc => ?_)
  -- from the token behind the label on
  have rest : ∀ (y : TK) (st2 : PS) (M2 : Mem), Mo rdS M M2 → RS1 M2 t n st2 → TkOK t n y → TkR y M2 → linS t n p st = lin2 t n y st2 → G 37 [some (.ref 1)] [] M2 := by
    intro y st2 M2 hm2 hS2 hy hry e
    rw [e, lin2_eq] at h1 h0
    have e119 : gI M2 1 5 = 119 ↔ kT y = 119 := e_tok hy hry (by decide)
    have e101 : gI M2 1 5 = 101 ↔ kT y = 101 := e_tok hy hry (by decide)
    refine eX7_readLine_37 hc hS2.1 ?_
    rw [e119, e101]
    refine ⟨fun z => ?_, fun z => ?_⟩
    · rw [if_neg z] at h1 h0
      unfold endS at h1 h0
      refine ⟨fun w => ?_, fun w => ?_⟩
      · rw [if_neg w] at h0
        exact h0 _ M2 rfl hS2.1 hm2 hry.2.2.1
      · rw [if_pos w] at h1
        exact h1 _ _ M2 rfl hm2 hS2 hy hry
    · rw [if_pos z] at h1 h0
      refine c_readIns hS2 hy hry z (fun x' st' M3 e3 hm3 hS3 hx3 hr3 => ?_) (fun w M3 e3 hW3 hm3 g6 => ?_)
      · rw [e3] at h1 h0
        have h1 : ∀ x'' st'' M', endS x' st' = .inr (x'', st'') → _ := h1
        have h0 : ∀ w M', endS x' st' = .inl w → _ := h0
        unfold endS at h1 h0
        have f101 : gI M3 1 5 = 101 ↔ kT x' = 101 := e_tok hx3 hr3 (by decide)
        refine rX7_readLine_46_1 hc hS3.1 ⟨fun _ => ?_, fun w => absurd w (by decide)⟩
        rw [f101]
        refine ⟨fun w => ?_, fun w => ?_⟩
        · rw [if_neg w] at h0
          exact h0 _ M3 rfl hS3.1 (hm2.tr hm3) hr3.2.2.1
        · rw [if_pos w] at h1
          exact h1 _ _ M3 rfl (hm2.tr hm3) hS3 hx3 hr3
      · rw [e3] at h0
        exact rX7_readLine_46_1 hc hW3 ⟨fun w => absurd rfl w, fun _ => h0 w M3 rfl hW3 (hm2.tr hm3) g6⟩
  refine c_adv hR hp h4 h7 (fun M2 hm2 hS2 hx2 _ hr2 => rX7_readLine_0_1 hc hS2.1 ?_)
  have e119 : gI M2 1 5 = 119 ↔ kT (tok t n p) = 119 := e_tok hx2 hr2 (by decide)
  rw [e119]
  have el : linS t n p st = if kT (tok t n p) = 119 ∧ bN t n (scF t n isBl (eT (tok t n p))) = 58 then (if eT (tok t n p) - sT (tok t n p) ≤ 12 ∧ pB st ≠ 40 ∧ lkS t n (pB st) (pF st) (sT (tok t n p)) = none then lin2 t n (tok t n (eT (tok t n (eT (tok t n p))))) (lbP st (sT (tok t n p))) else .inl (sT (tok t n p))) else lin2 t n (tok t n p) st := rfl
  refine ⟨fun z => ?_, fun z => c_colon hS2.1 hS2.2.1 hx2.2.1 hr2.1 (rX7_readLine_13_1 hc hS2.1 ?_)⟩
  · rw [if_neg (fun w => z w.1)] at el
    exact rest _ st M2 hm2 hS2 hx2 hr2 el
  · by_cases y : bN t n (scF t n isBl (eT (tok t n p))) = 58
    · rw [pI_t y]
      rw [if_pos ⟨z, y⟩] at el
      refine ⟨fun w => absurd w (by decide), fun _ => c_addLabel hS2.1 hS2.2.1 hx2 hr2 z hS2.2.2.2 hS2.2.2.1 (fun g M3 hW3 hm3 hj3 hL3 => ?_) (fun g => ?_)⟩
      · rw [if_pos g] at el
        have hm3' : Mo rdS M2 M3 := hm3.mono (fun b hb => by unfold rdS; omega)
        have hS3 : RS1 M3 t n (lbP st (sT (tok t n p))) := ⟨hW3, hS2.2.1.mo (fun j => hm3.I (by omega)) (hj3 3 (by decide)), hL3, hS2.2.2.2.1, by rw [hm3.I (by omega)]; exact hS2.2.2.2.2.1, fun i hi w hw => by rw [hm3.L (by omega)]; exact hS2.2.2.2.2.2 i hi w hw⟩
        have ov := kT_no hx2 z (by decide)
        refine rX7_readLine_20_1 hc hW3 ⟨fun _ => c_adv hS3 hx2.2.1 (by rw [hj3 4 (by decide)]; exact hr2.1) (by rw [hj3 7 (by decide), hr2.2.2.2, ov]; rfl) (fun M4 hm4 hS4 hx4 _ hr4 => rX7_readLine_29_1 hc hS4.1 ?_), fun w => absurd w (by decide)⟩
        -- the colon
        have hk : kT (tok t n (eT (tok t n p))) = 58 := by
          unfold tok
          have hs : scF t n isBl (eT (tokA t n (scF t n isBl p))) < n := by
            have : bN t n (scF t n isBl (eT (tok t n p))) = 58 := y
            unfold bN at this
            unfold tok at this
            by_cases w : scF t n isBl (eT (tokA t n (scF t n isBl p))) < n
            · exact w
            · rw [if_neg w] at this; exact absurd this (by decide)
          have ht : t (scF t n isBl (eT (tokA t n (scF t n isBl p)))) = 58 := by
            have : bN t n (scF t n isBl (eT (tok t n p))) = 58 := y
            unfold bN at this
            unfold tok at this
            rw [if_pos hs] at this
            exact this
          generalize scF t n isBl (eT (tokA t n (scF t n isBl p))) = s at hs ht
          unfold tokA
          rw [if_neg (by omega), ht, if_neg (by decide), if_neg (fun w => w.elim (fun w => absurd w (by decide)) (fun w => absurd w.1 (by decide))), if_pos (by decide)]
          rfl
        have ov4 := kT_no hx4 hk (by decide)
        exact c_adv hS4 hx4.2.1 hr4.1 (by rw [hr4.2.2.2, ov4]; rfl) (fun M5 hm5 hS5 hx5 _ hr5 => rX7_readLine_29_3 hc hS5.1 (rest _ _ M5 (((hm2.tr hm3').tr hm4).tr hm5) hS5 hx5 hr5 el))
      · rw [if_neg g] at el
        exact rX7_readLine_20_1 hc hS2.1 ⟨fun w => absurd rfl w, fun _ => h0 _ M2 el hS2.1 hm2 hr2.2.2.1⟩
    · rw [pI_f y]
      rw [if_neg (fun w => y w.2)] at el
      exact ⟨fun _ => rest _ st M2 hm2 hS2 hx2 hr2 el, fun w => absurd rfl w⟩
/-- the leads -/
def ldsA (t : Nat → Nat) (n : Nat) (st : PS) (f i : Nat) (c : Nat → Nat → Int64) (q : Option Nat) : Nat ⊕ (Nat → Nat → Int64) := match q with | none => .inl (ldV (c i)) | some l => ldsS t n (pB st) (pF st) (pA st) f (i + 1) (up1 c i (up1 (c i) (leadN (cn (c i) 0)) (lN (pA st l))))
theorem ldsS_eq {f i : Nat} {c : Nat → Nat → Int64} : ldsS t n (pB st) (pF st) (pA st) (f + 1) i c = if 0 < leadN (cn (c i) 0) then ldsA t n st f i c (lkS t n (pB st) (pF st) (ldV (c i))) else ldsS t n (pB st) (pF st) (pA st) f (i + 1) c := rfl
theorem RowOK.ld {r : Nat → Int64} (h : RowOK t n r) (hn : n < 2 ^ 31) : cn r 0 < 68 ∧ r 0 = lN (cn r 0) ∧ (0 < leadN (cn r 0) → r (leadN (cn r 0)) = lN (ldV r) ∧ ldV r < n ∧ scF t n isWd (ldV r) - ldV r ≤ 12) := by
  obtain ⟨o, p1, p2, p3, -⟩ := h
  have eo : cn r 0 = o := cn_lN p2 (by omega)
  refine ⟨by omega, by rw [eo]; exact p2, fun z => ?_⟩
  have ll := (lead_let _ (List.mem_range.mpr p1)).1 (by rw [← eo]; exact z)
  obtain ⟨v, v1, v2, v3⟩ := (p3 _ ll.1).2 ll.2
  rw [eo]
  rw [eo] at z
  rw [show leadN o - 1 + 1 = leadN o by omega] at v2
  have e : ldV r = v := by unfold ldV; rw [eo]; exact cn_lN v2 (by omega)
  rw [e]
  exact ⟨v2, v1, v3⟩
theorem c_setLeads (hR : RS1 M t n st) (hI : PI t n st)
    (h1 : ∀ c' M', ldsS t n (pB st) (pF st) (pA st) (pD st) 0 (pC st) = .inr c' → Mo rdS M M' → (∀ j, gI M' 2 j = gI M 2 j) → RSt M' t n st (pD st) c' → K (some (.int (-1 : Int32))) M')
    (h0 : ∀ w M', ldsS t n (pB st) (pF st) (pA st) (pD st) 0 (pC st) = .inl w → w < n → Wf M' → Mo rdS M M' → K (some (.int (nI w))) M') : sp_X7_setLeads [.ref 1] M K := by
  have hn := hR.2.1.1
  refine wX7_setLeads hR.1 (fun {G} hc => ?_)
  have loop : ∀ j i : Nat, i + j = pD st → ∀ c M1, ldsS t n (pB st) (pF st) (pA st) j i c = ldsS t n (pB st) (pF st) (pA st) (pD st) 0 (pC st) → (∀ k, i ≤ k → k < pD st → RowOK t n (c k)) → Mo rdS M M1 → (∀ j, gI M1 2 j = gI M 2 j) → RSt M1 t n st (pD st) c → ∀ o2 o3, G 2 [some (.ref 1), some (.int (nI i)), o2, o3] [] M1 := by
    intro j
    induction j with
    | zero =>
      intro i hi c M1 e hrow hm1 h2 hS o2 o3
      have hd := hS.2.2.2.1
      refine eX7_setLeads_2 hc hS.1 ?_
      rw [hS.2.2.2.2.1]
      exact ⟨fun _ => h1 c M1 e.symm hm1 h2 hS, fun z => absurd (nI_le (by omega) (by omega)) z⟩
    | succ j ih =>
      intro i hi c M1 e hrow hm1 h2 hS o2 o3
      have hd := hS.2.2.2.1
      obtain ⟨o1, o2', o3'⟩ := (hrow i (Nat.le_refl _) (by omega)).ld (by omega)
      have l3 := leadN_le (o := cn (c i) 0)
      have e6 : (nI i * (6 : Int32)) = nI (i * 6) := pk_mul i 6
      have g0 : gL M1 (2 + 1) (i * 6) = c i 0 := hS.2.2.2.2.2 i (by omega) 0 (by decide)
      have opA : ∀ {K : RT}, K (some (.ref (100000 + cn (c i) 0))) M1 → sp_X6_op [.ref 2, .int (nI i)] M1 K := fun {K} hK => by
        refine wX6_op hS.1 (by decide) ?_
        rw [e6, nI_clamp (by omega), g0, o2', lN_toI, nI_clamp (by omega)]
        exact ⟨vpN (by omega) (by decide), vpN o1 (by decide), hK⟩
      rw [ldsS_eq] at e
      refine eX7_setLeads_2 hc hS.1 ?_
      rw [hS.2.2.2.2.1]
      refine ⟨fun z => absurd ((nI_leI (by omega) (by omega)).mp z) (by omega), fun _ => ?_⟩
      refine wX6_lead hS.1 (by decide) (fun {G2} hc2 => opA (rX6_lead_0_2 hc2 hS.1 (by decide) (isOp_n o1) (c_leadCell hS.1 o1 (rX6_lead_0_3 hc2 hS.1 (by decide) ⟨fun z => ?_, fun z => ?_⟩))))
      · have z : ¬ 0 < leadN (cn (c i) 0) := fun y => absurd ((nI_leI (b := 0) (by omega) (by decide)).mp z) (by omega)
        rw [if_neg z] at e
        refine rX7_setLeads_13_3 hc hS.1 ⟨fun _ => ?_, fun y => absurd (by decide) y⟩
        rw [nI_1]
        exact ih (i + 1) (by omega) c M1 e (fun k a b => hrow k (by omega) b) hm1 h2 hS _ _
      · have z : 0 < leadN (cn (c i) 0) := by
          rcases Nat.eq_zero_or_pos (leadN (cn (c i) 0)) with y | y
          · rw [y] at z; exact absurd (by decide) z
          · exact y
        rw [if_pos z] at e
        obtain ⟨v1, v2, v3⟩ := o3' z
        have ew : nI i * (6 : Int32) + nI (leadN (cn (c i) 0)) = nI (i * 6 + leadN (cn (c i) 0)) := by rw [show (6 : Int32) = nI 6 from rfl, pk_mul, nI_add]
        have gl : gL M1 (2 + 1) (i * 6 + leadN (cn (c i) 0)) = lN (ldV (c i)) := by rw [← v1]; exact hS.2.2.2.2.2 i (by omega) _ (by omega)
        unfold q_X6_cell f_X6_cell
        rw [ew, nI_clamp (by omega), gl, lN_toI]
        refine ⟨vpN (by omega) (by decide), rX7_setLeads_13_3 hc hS.1 ⟨fun y => absurd y (nI_pos (by omega)), fun _ => c_labelLike hS.1 hS.2.1 hS.2.2.1 ⟨v2, v3⟩ ?_⟩⟩
        cases hk : lkS t n (pB st) (pF st) (ldV (c i)) with
        | none =>
          rw [hk] at e
          exact rX7_setLeads_26_2 hc hS.1 ⟨fun y => absurd y (by decide), fun _ => h0 _ M1 e.symm v2 hS.1 hm1⟩
        | some l =>
          have hl := lkF_lt _ _ hk
          have hb := hS.2.2.1.2.1
          have hla : pA st l ≤ 100 := by
            have := (hI.2.2.1 l (by omega)).2.2
            omega
          rw [hk] at e
          have e : ldsS t n (pB st) (pF st) (pA st) j (i + 1) (up1 c i (up1 (c i) (leadN (cn (c i) 0)) (lN (pA st l)))) = _ := e
          refine rX7_setLeads_26_2 hc hS.1 ⟨fun _ => opA (rX7_setLeads_38_6 hc hS.1 (isOp_n o1) (c_leadCell hS.1 o1 (rX7_setLeads_38_7 hc hS.1 ⟨vpN (by omega) (by decide), ?_⟩))), fun y => absurd (nI_pos' (by omega)) y⟩
          rw [nI_clamp (by omega), ((hS.2.2.1.2.2 l (by omega)).1).2, nI_toL (by omega)]
          unfold q_X6_write m_X6_write
          rw [ew, nI_clamp (by omega), nI_1]
          refine ⟨vpN (by omega) (by decide), ih (i + 1) (by omega) _ _ e (fun k a b => by rw [up1_ne (by omega)]; exact hrow k (by omega) b) (hm1.tr (Mo_uL (Or.inr (Or.inr (Or.inl rfl))))) (fun j => h2 j) ⟨Wf_uL hS.1, hS.2.1, hS.2.2.1, hd, hS.2.2.2.2.1, fun k hk w hw => ?_⟩ _ _⟩
          show gL (uL M1 3 (i * 6 + leadN (cn (c i) 0)) (lN (pA st l))) 3 (k * 6 + w) = _
          have g := hS.2.2.2.2.2 k hk w hw
          by_cases y : k = i
          · subst y
            rw [up1_eq]
            by_cases u : w = leadN (cn (c k) 0)
            · rw [u, up1_eq]; exact rL_eq
            · rw [up1_ne u, rL_k (by omega)]; exact g
          · rw [up1_ne y, rL_k (by omega)]; exact g
  exact loop _ 0 (Nat.zero_add _) (pC st) M rfl (fun k _ hk => hI.2.2.2 k hk) Mo.rf (fun _ => rfl) hR _ _
end
end RDLINE
