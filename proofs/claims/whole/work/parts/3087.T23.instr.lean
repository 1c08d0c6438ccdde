section RDINS
section
variable {M M' : Mem} {K : RT} {t : Nat → Nat} {n : Nat} {x : TK} {st : PS} {d : Nat} {c : Nat → Nat → Int64}
def rdS (b : Nat) : Prop := b = 1 ∨ b = 2 ∨ b = 3 ∨ b = 5 ∨ b = 6
theorem LbM.fd {F : Nat → Prop} (h : Fld F M M') (h8 : ¬ F 8) (hL : LbM M t n st) : LbM M' t n st :=
  ⟨by rw [h.2.2 8 h8]; exact hL.1, hL.2.1, fun l hl => by rw [h.2.1.I (by decide), h.2.1.I (by decide)]; exact hL.2.2 l hl⟩
theorem PgM.fd {F : Nat → Prop} (h : Fld F M M') (hP : PgM M d c) : PgM M' d c :=
  ⟨hP.1, by rw [h.2.1.I (by decide)]; exact hP.2.1, fun i hi w hw => by rw [h.2.1.L (by decide)]; exact hP.2.2 i hi w hw⟩
theorem fd_rd {F : Nat → Prop} (h : Fld F M M') : Mo rdS M M' := h.2.1.mono (fun b hb => Or.inl hb)
/-- the reader stands before byte p -/
def RSt (M : Mem) (t : Nat → Nat) (n : Nat) (st : PS) (d : Nat) (c : Nat → Nat → Int64) : Prop := Wf M ∧ RdT M t n ∧ LbM M t n st ∧ PgM M d c
theorem RSt.fd (h : Fld adF M M') (hR : RSt M t n st d c) : RSt M' t n st d c := ⟨h.1, hR.2.1.fd h (by unfold adF; decide), hR.2.2.1.fd h (by unfold adF; decide), hR.2.2.2.fd h⟩
/-- a token is read -/
theorem c_adv {p : Nat} (hR : RSt M t n st d c) (hp : p ≤ n) (h4 : gI M 1 4 = nI p) (h7 : gI M 1 7 = 0) (h : ∀ M', Mo rdS M M' → RSt M' t n st d c → TkOK t n (tok t n p) → p ≤ sT (tok t n p) → TkR (tok t n p) M' → K none M') : sp_X7_advance [.ref 1] M K := by
  obtain ⟨a, b⟩ := tok_ok (t := t) (n := n) hp (fun j hj => (hR.2.1.2.2 j hj).2)
  exact c_advance hR.1 hR.2.1 hp h4 h7 (fun M' hf hr => h M' (fd_rd hf) (hR.fd hf) a b hr)
theorem pg_wr {w : Nat} {r : Nat → Int64} {v : Int64} (hw : w < 6) (hR : RSt M t n st (d + 1) (up1 c d r)) : q_X6_write 2 (nI d) (nI w) v ∧ RSt (m_X6_write 2 (nI d) (nI w) v M) t n st (d + 1) (up1 c d (up1 r w v)) ∧ Mo rdS M (m_X6_write 2 (nI d) (nI w) v M) ∧ ∀ a j, gI (m_X6_write 2 (nI d) (nI w) v M) a j = gI M a j := by
  have hd := hR.2.2.2.1
  have ew : nI d * (6 : Int32) + nI w = nI (d * 6 + w) := by rw [show (6 : Int32) = nI 6 from rfl, pk_mul, nI_add]
  unfold q_X6_write m_X6_write
  rw [ew, nI_clamp (by omega)]
  refine ⟨vpN (by omega) (by decide), ⟨Wf_uL hR.1, hR.2.1, hR.2.2.1, hd, hR.2.2.2.2.1, fun i hi u hu => ?_⟩, Mo_uL (Or.inr (Or.inr (Or.inl rfl))), fun a j => rfl⟩
  have g := hR.2.2.2.2.2 i hi u hu
  by_cases y : i = d
  · subst y
    rw [up1_eq] at g ⊢
    by_cases z : u = w
    · subst z; rw [up1_eq]; exact rL_eq
    · rw [up1_ne z, ← g]
      exact rL_k (by omega)
  · rw [up1_ne y] at g ⊢
    rw [← g]
    exact rL_k (by omega)
theorem c_add2 {o : Nat} (hR : RSt M t n st d c) (hd : d < 100) (ho : o < 68) (h : ∀ M', Mo rdS M M' → RSt M' t n st (d + 1) (up1 c d (row0 o)) → (∀ j, gI M' 1 j = gI M 1 j) → K none M') : sp_X6_add [.ref 2, .int (nI o)] M K := by
  obtain ⟨hW, hT, hL, hP⟩ := hR
  refine wX6_add hW (by decide) (fun {G} hc => ?_)
  rw [hP.2.1]
  have e1 : nI d * (6 : Int32) = nI (d * 6) := pk_mul d 6
  have e2 : (nI d + (1 : Int32)) * (6 : Int32) = nI ((d + 1) * 6) := by rw [nI_1]; exact pk_mul (d + 1) 6
  rw [e1, e2]
  refine c_fillJ (n := 600) hW (by decide) (by decide) (by omega) (by omega) (rX6_add_0_13 hc (Wf_bL hW) (by decide) ?_)
  have g0 : gI (bL M (2 + 1) (fun j => if d * 6 ≤ j ∧ j < (d + 1) * 6 then (-1 : Int64) else gL M (2 + 1) j)) 2 0 = nI d := hP.2.1
  have ew : nI d * (6 : Int32) + (0 : Int32) = nI (d * 6) := by rw [e1, show (0 : Int32) = nI 0 from rfl, nI_add]; rfl
  rw [g0]
  unfold q_X6_write m_X6_write
  rw [ew, nI_clamp (by omega), nI_toL (by omega)]
  refine ⟨vpN (by omega) (by decide), ?_⟩
  have g1 : gI (uL (bL M (2 + 1) (fun j => if d * 6 ≤ j ∧ j < (d + 1) * 6 then (-1 : Int64) else gL M (2 + 1) j)) (2 + 1) (d * 6) (lN o)) 2 0 = nI d := hP.2.1
  rw [g1, nI_1]
  refine h _ (((Mo_bL (Or.inr (Or.inr (Or.inl rfl)))).tr (Mo_uL (Or.inr (Or.inr (Or.inl rfl))))).tr (Mo_uI (Or.inr (Or.inl rfl)))) ⟨Wf_uI (Wf_uL (Wf_bL hW)), ?_, ?_, by omega, rI_eq, fun i hi w hw => ?_⟩ (fun j => ?_)
  · exact hT.mo (fun j => (Mo_uI (S := fun b => b = 2) rfl).I (by decide)) ((Mo_uI (S := fun b => b = 2) rfl).I (by decide))
  · refine ⟨?_, hL.2.1, fun l hl => ?_⟩
    · have := (Mo_uI (S := fun b => b = 2) (M := uL (bL M (2 + 1) (fun j => if d * 6 ≤ j ∧ j < (d + 1) * 6 then (-1 : Int64) else gL M (2 + 1) j)) (2 + 1) (d * 6) (lN o)) (a := 2) (k := 0) (x := nI (d + 1)) rfl).I (a := 1) (k := 8) (by decide)
      rw [this]; exact hL.1
    · have e : ∀ a, a ≠ 2 → gI (uI (uL (bL M (2 + 1) (fun j => if d * 6 ≤ j ∧ j < (d + 1) * 6 then (-1 : Int64) else gL M (2 + 1) j)) (2 + 1) (d * 6) (lN o)) 2 0 (nI (d + 1))) a l = gI M a l := fun a ha => (Mo_uI (S := fun b => b = 2) rfl).I ha
      rw [e 5 (by decide), e 6 (by decide)]
      exact hL.2.2 l hl
  · show gL (uL (bL M (2 + 1) (fun j => if d * 6 ≤ j ∧ j < (d + 1) * 6 then (-1 : Int64) else gL M (2 + 1) j)) (2 + 1) (d * 6) (lN o)) 3 (i * 6 + w) = _
    by_cases y : i = d
    · subst y
      rw [up1_eq]
      unfold row0
      by_cases z : w = 0
      · subst z; rw [up1_eq]; exact rL_eq
      · rw [up1_ne z, rL_k (by omega), gL_bL, if_pos rfl, if_pos (by omega)]
    · rw [up1_ne y, rL_k (by omega), gL_bL, if_pos rfl, if_neg (by omega)]
      exact hP.2.2 i (by omega) w hw
  · exact (Mo_uI (S := fun b => b = 2) rfl).I (by decide)
def opsB (t : Nat → Nat) (n o j k : Nat) (q : Nat ⊕ (Nat × (Nat → Int64))) : Nat ⊕ (Nat × (Nat → Int64)) := match q with | .inl w => .inl w | .inr q => opsS t n o j (k + 1) q.1 q.2
theorem opsS_eq {o j k p : Nat} {r : Nat → Int64} : opsS t n o (j + 1) k p r = opsB t n o j k (oneS t n o k p r) := rfl
theorem mk_01 {o : Nat} (ho : o < 68) : mkT.getD o 0 = 0 ∨ mkT.getD o 0 = 1 := by
  have : ∀ o ∈ List.range 68, mkT.getD o 0 = 0 ∨ mkT.getD o 0 = 1 := by decide +kernel
  exact this o (List.mem_range.mpr ho)
theorem kT_no {k : Nat} (hx : TkOK t n x) (hk : kT x = k) (h1 : k ≠ 101) : oT x = false := by
  cases h : oT x with
  | false => rfl
  | true => exact absurd (by rw [← hk]; exact hx.2.2.2.2.1 h) h1
theorem e_tok {k : Nat} (hx : TkOK t n x) (hr : TkR x M) (hk : k < 256) : gI M 1 5 = nI k ↔ kT x = k := by
  rw [hr.2.1]; exact nI_eq (by have := hx.2.2.2.2.2; omega) (by omega)
theorem nbT_w {ch m : Nat} {v : Int64} (h : nbT t ch m x = some v) : kT x = 119 := by
  unfold nbT at h
  split at h
  · rename_i g; exact g.1
  · exact absurd h (by simp)
theorem opT_w {L : Nat} {v : Int64} (h : opT t L x = some v) : kT x = 119 ∨ kT x = 110 := by
  have nm : ∀ lo hi, nmT t lo hi x = some v → kT x = 119 ∨ kT x = 110 := fun lo hi h => by
    unfold nmT at h
    split at h
    · rename_i g; exact Or.inr g.1
    · exact absurd h (by simp)
  unfold opT at h
  split at h
  · exact Or.inl (nbT_w h)
  · split at h
    · exact Or.inl (nbT_w h)
    · split at h
      · exact Or.inl (nbT_w h)
      · split at h
        · unfold kdT at h
          split at h
          · rename_i g; exact Or.inl g.1
          · exact absurd h (by simp)
        · split at h
          · split at h
            · rename_i g; exact Or.inl g.1
            · exact absurd h (by simp)
          · split at h
            · exact nm _ _ h
            · split at h
              · exact nm _ _ h
              · split at h
                · exact nm _ _ h
                · split at h
                  · exact nm _ _ h
                  · exact Or.inl (nbT_w h)
theorem c_readMask {r : Nat → Int64} (hR : RSt M t n st (d + 1) (up1 c d r)) (hx : TkOK t n x) (hr : TkR x M) (hk : kT x = 63)
    (h1 : ∀ v M', nbT t 109 4 (tok t n (eT x)) = some v → Mo rdS M M' → RSt M' t n st (d + 1) (up1 c d (up1 r 5 v)) → TkOK t n (tok t n (eT (tok t n (eT x)))) → TkR (tok t n (eT (tok t n (eT x)))) M' → K (some (.int (1 : Int32))) M')
    (h0 : ∀ M', nbT t 109 4 (tok t n (eT x)) = none → Wf M' → Mo rdS M M' → gI M' 1 6 = nI (sT (tok t n (eT x))) → K (some (.int (0 : Int32))) M') : sp_X7_readMask [.ref 1, .int (nI d)] M K := by
  have h7 : gI M 1 7 = 0 := by rw [hr.2.2.2, kT_no hx hk (by decide)]; rfl
  refine wX7_readMask hR.1 (fun {G} hc => c_adv hR hx.2.1 hr.1 h7 (fun M1 hm1 hR1 hx1 _ hr1 => rX7_readMask_0_1 hc hR1.1 ?_))
  obtain ⟨a, b⟩ := c_numd (ch := 109) (m := 4) hR1.2.1 hx1 hr1 (by decide) (by decide)
  have a : q_X7_numbered (109 : Int32) (4 : Int32) M1 := a
  have b : f_X7_numbered (109 : Int32) (4 : Int32) M1 = _ := b
  refine ⟨a, fun y hy => ?_⟩
  rw [b] at hy
  cases hv : nbT t 109 4 (tok t n (eT x)) with
  | none =>
    rw [hv] at hy
    have hy : y = minL := hy
    exact ⟨fun z => absurd hy z, fun _ => h0 M1 hv hR1.1 hm1 hr1.2.2.1⟩
  | some v =>
    rw [hv] at hy
    have hy : y = v := hy
    subst hy
    have hne : y ≠ minL := ov_ne (L := 77) hR1.2.1.1 hx1 (by decide) hv
    obtain ⟨g1, g2, g3, g4⟩ := pg_wr (w := 5) (v := y) (by decide) hR1
    have k1 := nbT_w hv
    have h71 : gI M1 1 7 = 0 := by rw [hr1.2.2.2, kT_no hx1 k1 (by decide)]; rfl
    refine ⟨fun _ => ⟨g1, c_adv g2 hx1.2.1 (by rw [show (5 : Int32) = nI 5 from rfl, g4]; exact hr1.1) (by rw [show (5 : Int32) = nI 5 from rfl, g4]; exact h71) (fun M3 hm3 hR3 hx3 _ hr3 => rX7_readMask_22_7 hc hR3.1 (h1 y M3 hv ((hm1.tr g3).tr hm3) hR3 hx3 hr3))⟩, fun z => absurd z hne⟩
/-- an instruction from its WORD on -/
theorem c_opsI {G : Nat → KT} {o : Nat} {R : Nat ⊕ (TK × (Nat → Int64))} (hc : cloX7_readInstruction G K wT) (ho : o < 68) (hd : d < 100)
    (h1 : ∀ x' r' M', R = .inr (x', r') → Mo rdS M M' → RSt M' t n st (d + 1) (up1 c d r') → TkOK t n x' → TkR x' M' → K (some (.int (1 : Int32))) M')
    (h0 : ∀ w M', R = .inl w → Wf M' → Mo rdS M M' → gI M' 1 6 = nI w → K (some (.int (0 : Int32))) M') :
    ∀ j k : Nat, k + j = (opL o).length → ∀ p r M1, insA t n o (opsS t n o j k p r) = R → Mo rdS M M1 → RSt M1 t n st (d + 1) (up1 c d r) → gI M1 1 4 = nI p → p ≤ n → gI M1 1 7 = 0 → ∀ o1 o5 o6, G 48 [some (.ref 1), o1, some (.ref (100000 + o)), some (.int (nI d)), some (.int (nI k)), o5, o6] [] M1 := by
  have hol := opLen4 ho
  have mk := mk_01 ho
  intro j
  induction j with
  | zero =>
    intro k hk p r M1 hR hm1 hS h4 hp h7 o1 o5 o6
    have hR : mskS t n o p r = R := hR
    refine eX7_readInstruction_48 hc hS.1 (isOp_n ho) ?_
    rw [opLen_f ho]
    refine ⟨fun _ => c_adv hS hp h4 h7 (fun M2 hm2 hS2 hx2 _ hr2 => rX7_readInstruction_127_1 hc hS2.1 (isOp_n ho) ?_), fun z => absurd (nI_le (by omega) (by omega)) z⟩
    have e63 : gI M2 1 5 = 63 ↔ kT (tok t n p) = 63 := e_tok hx2 hr2 (by decide)
    have plain : ¬ (mkT.getD o 0 = 1 ∧ kT (tok t n p) = 63) → K (some (.int (1 : Int32))) M2 := fun z => by
      unfold mskS at hR
      rw [if_neg z] at hR
      exact h1 _ _ M2 hR.symm (hm1.tr hm2) hS2 hx2 hr2
    rw [op_c, e63]
    have em : (Int32.ofNat (mkT.getD o 0) = 0) ↔ ¬ mkT.getD o 0 = 1 := by
      rcases mk with z | z
      · rw [z]; exact ⟨fun _ => by decide, fun _ => rfl⟩
      · rw [z]; exact ⟨fun y => absurd y (by decide), fun y => absurd rfl y⟩
    rw [em]
    refine ⟨fun z => plain (fun y => z y.1), fun z => ⟨fun y => plain (fun w => y w.2), fun y => ?_⟩⟩
    have z := Classical.not_not.mp z
    unfold mskS at hR
    rw [if_pos ⟨z, y⟩] at hR
    refine c_readMask hS2 hx2 hr2 y (fun v M3 hv hm3 hS3 hx3 hr3 => rX7_readInstruction_147_2 hc hS3.1 ⟨fun w => absurd w (by decide), fun _ => ?_⟩) (fun M3 hv hW3 hm3 g6 => rX7_readInstruction_147_2 hc hW3 ⟨fun _ => ?_, fun w => absurd rfl w⟩)
    · rw [hv] at hR
      exact h1 _ _ M3 hR.symm ((hm1.tr hm2).tr hm3) hS3 hx3 hr3
    · rw [hv] at hR
      exact h0 _ M3 hR.symm hW3 ((hm1.tr hm2).tr hm3) g6
  | succ j ih =>
    intro k hk p r M1 hR hm1 hS h4 hp h7 o1 o5 o6
    -- the value at token y
    have val : ∀ (y : TK) (M2 : Mem), Mo rdS M M2 → RSt M2 t n st (d + 1) (up1 c d r) → TkOK t n y → TkR y M2 → oneS t n o k p r = valS t o k r y → G 84 [some (.ref 1), o1, some (.ref (100000 + o)), some (.int (nI d)), some (.int (nI k)), o5, o6] [] M2 := by
      intro y M2 hm2 hS2 hy hry e1
      have hL := letN_lt (k := k) ho
      have e1 : oneS t n o k p r = valA k r y (opT t (letN o k) y) := e1
      refine eX7_readInstruction_84 hc hS2.1 (isOp_n ho) (c_letter hS2.1 ho (by omega) (rX7_readInstruction_84_3 hc hS2.1 (isOp_n ho) (c_operand hS2.1 hS2.2.1 hy hry hL (rX7_readInstruction_84_4 hc hS2.1 (isOp_n ho) ?_))))
      rw [opsS_eq, e1] at hR
      generalize letN o k = L at hL hR ⊢
      cases hv : opT t L y with
      | none =>
        rw [hv] at hR
        exact ⟨fun z => absurd rfl z, fun _ => h0 (sT y) M2 hR.symm hS2.1 hm2 hry.2.2.1⟩
      | some v =>
        rw [hv] at hR
        have hR : insA t n o (opsS t n o j (k + 1) (eT y) (up1 r (k + 1) v)) = R := hR
        have hne : v ≠ minL := ov_ne hS2.2.1.1 hy hL hv
        obtain ⟨g1, g2, g3, g4⟩ := pg_wr (w := k + 1) (v := v) (by omega) hS2
        rw [nI_1]
        have ko := opT_w hv
        have hov : oT y = false := by
          rcases ko with z | z
          · exact kT_no hy z (by decide)
          · exact kT_no hy z (by decide)
        refine ⟨fun _ => ⟨g1, ih (k + 1) (by omega) (eT y) _ _ hR (hm2.tr g3) g2 (by rw [g4]; exact hry.1) hy.2.1 (by rw [g4, hry.2.2.2, hov]; rfl) _ _ _⟩, fun z => absurd z hne⟩
    refine eX7_readInstruction_48 hc hS.1 (isOp_n ho) ?_
    rw [opLen_f ho]
    refine ⟨fun z => absurd ((nI_leI (by omega) (by omega)).mp z) (by omega), fun _ => c_adv hS hp h4 h7 (fun M2 hm2 hS2 hx2 _ hr2 => rX7_readInstruction_60_1 hc hS2.1 (isOp_n ho) ⟨fun z => ?_, fun z => ?_⟩)⟩
    · have z : ¬ 0 < k := fun y => by have := (nI_leI (b := 0) (by omega) (by decide)).mp z; omega
      exact val _ M2 (hm1.tr hm2) hS2 hx2 hr2 (if_neg z)
    · have z : 0 < k := by
        rcases Nat.eq_zero_or_pos k with y | y
        · rw [y] at z; exact absurd (by decide) z
        · exact y
      have e44 : gI M2 1 5 = 44 ↔ kT (tok t n p) = 44 := e_tok hx2 hr2 (by decide)
      have e1 : oneS t n o k p r = if kT (tok t n p) = 44 then valS t o k r (tok t n (eT (tok t n p))) else .inl (sT (tok t n p)) := if_pos z
      rw [e44]
      refine ⟨fun y => ?_, fun y => ?_⟩
      · rw [if_pos y] at e1
        have hov := kT_no hx2 y (by decide)
        exact c_adv hS2 hx2.2.1 hr2.1 (by rw [hr2.2.2.2, hov]; rfl) (fun M3 hm3 hS3 hx3 _ hr3 => rX7_readInstruction_80_1 hc hS3.1 (isOp_n ho) (val _ M3 ((hm1.tr hm2).tr hm3) hS3 hx3 hr3 e1))
      · rw [if_neg y] at e1
        rw [opsS_eq, e1] at hR
        exact h0 _ M2 hR.symm hS2.1 (hm1.tr hm2) hr2.2.2.1
end
end RDINS
