section RMEM2
section
variable {M M' : Mem} {K : RT} {n i : Nat} {c : Nat → Nat → Int64}
theorem inS_ok {v : Int64} {m : Nat} (hm : m ≤ 64) (h : inS v m) : v.toInt.toNat < m ∧ v = lN v.toInt.toNat := by
  obtain ⟨q, q1, q2⟩ := inS_lN hm h
  rw [q2, l6_int (by omega)]
  exact ⟨by omega, rfl⟩
theorem made_ld {o : Nat} (ho : o = 26 ∨ o = 28) {k k1 : Int32} {n : Nat} {X Y : Nat → Int64} {S : Int64} {m : Nat} {E : Nat → Int64} {t : Option Int64} {i : Nat} : mkS o k k1 n X Y S m E t i = iT (inS (elS o X S i) m) (0, E (elS o X S i).toInt.toNat) (4, 0) := by
  rcases ho with rfl | rfl <;> rfl
theorem c_memL13 {d : DS} {o : Nat} (hW : Wf M) (hC : RC M n c i) (eo : cn (c i) 0 = o) (ho : o = 26 ∨ o = 28) (hF : FIT o (c i) d) (hd : WD d) (hD : RDc M d) (hO : gI M 605 70 = olR (c i) d) (h69 : gI M 605 69 = 0) (h : rinC M K (insG o (c i) d)) {G : Nat → KT} (hc : cloX13_memoryStep G K wT) {Mb : Mem} (hWb : Wf Mb) (fb : FrC (fun a _ => a = 643 ∨ a = 644) M Mb) (cb : o = 26 ∨ o = 27 → ∀ j, j < 32 → gL Mb 643 j = gL M 626 (32 * rgN o (c i) 1 + j)) (o7 o8 o9 o10 o11 : Option Value) :
    G 112 [some (.ref 605), some (.int (nI i)), some (.int (nI o)), some (.int (nI (rgN o (c i) 0))), some (.int (nI (arN (c i)))), some (.int (flB o)), some (.int (nI 0)), o7, o8, o9, o10, o11] [] Mb := by
  have ho' : 26 ≤ o ∧ o ≤ 29 := by omega
  have o46 : o < 46 := by omega
  obtain ⟨⟨v8, -, -⟩, ⟨a8, -, -⟩, hr, hs⟩ := memOps hC eo ho'
  rw [rInsG_mk (by omega)] at h
  have hnn := hF.2.1
  obtain ⟨D1, D2, D3, D4⟩ := hD
  obtain ⟨t1, t2, t3, t4, t5⟩ := let26 o (List.mem_range.mpr o46) ho'
  obtain ⟨A1, A2, A3⟩ := hF.2.2.2.2.2.2 t3
  have D1v := D1 _ v8
  have D2a := D2 _ a8
  have n26 : nI o = 26 ↔ o = 26 := nI_eq (b := 26) (by omega) (by decide)
  have n28 : nI o = 28 ↔ o = 28 := nI_eq (b := 28) (by omega) (by decide)
  generalize hX : di d (2 * rgN o (c i) 1) = X at h
  have LX : o = 26 ∨ o = 27 → ∀ j, j < dn d (2 * rgN o (c i) 0) → gL Mb 643 j = X j := by
    intro z j hj
    rw [cb z j (by omega), ← hX]
    obtain ⟨r1, -, -⟩ := hr z
    have k3 := hF.2.2.2.2.2.1 z
    exact ((D1 _ r1).2.2 j (by rw [(hF.1 1 (t4 z).1).2.1]; exact hj)).w (by rw [k3]; unfold isRk; decide)
  have loop : ∀ f p : Nat, p + f = dn d (2 * rgN o (c i) 0) → ∀ (M1 : Mem) (g : Nat → Int64) (t : Option Int64) (o7 o8 o9 o10 o11 : Option Value), Wf M1 → FrC (rRowS (rgN o (c i) 0)) Mb M1 → (∀ j, j < dn d (2 * rgN o (c i) 0) → VR (dk d (2 * rgN o (c i) 0)) (gL M1 626 (32 * rgN o (c i) 0 + j)) (gD M1 627 (32 * rgN o (c i) 0 + j)) (g j)) → gI M1 605 69 = nI (fb_ct (fun q => bt (onS (nI (dn d (2 * rgN o (c i) 0))) (c i) (dm d)) q) p) →
      lrun (mkS o (dk d (2 * rgN o (c i) 0)) (dk d (2 * rgN o (c i) 1)) (dn d (2 * rgN o (c i) 0)) X (di d (2 * rgN o (c i) 2)) (dsc d (scN o (c i))) (dn d (2 * arN (c i) + 1)) (di d (2 * arN (c i) + 1))) (onW (onS (nI (dn d (2 * rgN o (c i) 0))) (c i) (dm d))) f p t g = lrun (mkS o (dk d (2 * rgN o (c i) 0)) (dk d (2 * rgN o (c i) 1)) (dn d (2 * rgN o (c i) 0)) X (di d (2 * rgN o (c i) 2)) (dsc d (scN o (c i))) (dn d (2 * arN (c i) + 1)) (di d (2 * arN (c i) + 1))) (onW (onS (nI (dn d (2 * rgN o (c i) 0))) (c i) (dm d))) (dn d (2 * rgN o (c i) 0)) 0 none (di d (2 * rgN o (c i) 0)) →
      G 112 [some (.ref 605), some (.int (nI i)), some (.int (nI o)), some (.int (nI (rgN o (c i) 0))), some (.int (nI (arN (c i)))), some (.int (flB o)), some (.int (nI p)), o7, o8, o9, o10, o11] [] M1 := by
    intro f
    induction f with
    | zero =>
      intro p hp M1 g t o7 o8 o9 o10 o11 hW1 f1 hg h69' hR
      have e : lrun (mkS o (dk d (2 * rgN o (c i) 0)) (dk d (2 * rgN o (c i) 1)) (dn d (2 * rgN o (c i) 0)) X (di d (2 * rgN o (c i) 2)) (dsc d (scN o (c i))) (dn d (2 * arN (c i) + 1)) (di d (2 * arN (c i) + 1))) (onW (onS (nI (dn d (2 * rgN o (c i) 0))) (c i) (dm d))) 0 p t g = (0, p, g) := rfl
      rw [e] at hR
      rw [← hR] at h
      have fM : FrC rinS M M1 := (fb.mono (fun a j z => by unfold rinS; omega)).tr (f1.mono (fun a j z => by unfold rRowS at z; unfold rinS; omega))
      refine eX13_memoryStep_112 hc hW1 ?_
      rw [nI_clamp (show rgN o (c i) 0 < 2 ^ 31 by omega), f1.i (by unfold rRowS; omega), fb.i (by omega), D1v.2.1]
      refine ⟨vpN v8 (by decide), fun _ => ?_, fun z => absurd (nI_le (by omega) (by omega)) z⟩
      have hp' : p = dn d (2 * rgN o (c i) 0) := by omega
      refine h M1 hW1 fM ?_ (fun _ => ⟨?_, ?_⟩) (fun z => absurd rfl z)
      · exact RDc.row hd ((fb.mono (T := fun a j => (643 ≤ a ∧ a ≤ 646) ∨ rRowS (rgN o (c i) 0) a j) (fun a j z => Or.inl (by omega))).tr (f1.mono (fun a j z => Or.inr z))) (fun a j z q => by unfold rRowS at z; omega) v8 ⟨D1, D2, D3, D4⟩ hg
      · show gI M1 605 69 = nI (cntW _)
        rw [h69', hp', cnt_below hnn.2 (fun q a b => rOnS_hi hnn.2 a b)]
      · rw [f1.i (by unfold rRowS; omega), fb.i (by omega)]
    | succ f ih =>
      intro p hp M1 g t o7 o8 o9 o10 o11 hW1 f1 hg h69' hR
      have fM : FrC rinS M M1 := (fb.mono (fun a j z => by unfold rinS; omega)).tr (f1.mono (fun a j z => by unfold rRowS at z; unfold rinS; omega))
      have hC1 := hC.fr fM (fun a j z => rinS_pr z)
      have hO1 : gI M1 605 70 = olR (c i) d := by rw [f1.i (by unfold rRowS; omega), fb.i (by omega)]; exact hO
      have ctS : fb_ct (fun q => bt (onS (nI (dn d (2 * rgN o (c i) 0))) (c i) (dm d)) q) (p + 1) = fb_ct (fun q => bt (onS (nI (dn d (2 * rgN o (c i) 0))) (c i) (dm d)) q) p + (if bt (onS (nI (dn d (2 * rgN o (c i) 0))) (c i) (dm d)) p then 1 else 0) := rfl
      rw [lrun, made_ld ho] at hR
      refine mem_head (d := d) (nn := dn d (2 * rgN o (c i) 0)) (X := X) hc hW1 hC1 eo ho' hO1 (by omega) hnn.2 ?_ (fun q hq => ?_) (fun z => ?_) (fun off => ?_) (fun on o7 => ?_)
      · rw [f1.i (by unfold rRowS; omega), fb.i (by omega)]; exact D1v.2.1
      · rw [f1.l (by unfold rRowS; omega), fb.l (by omega)]; exact D4 q hq
      · rw [f1.l (by unfold rRowS; omega)]; exact LX z p (by omega)
      · rw [iT_f off] at hR
        refine ih (p + 1) (by omega) M1 g t _ _ _ _ _ hW1 f1 hg ?_ hR
        rw [h69', ctS, if_neg (fun z => off ((onW_bt (by omega)).mpr z)), Nat.add_zero]
      · rw [iT_t on] at hR
        refine eX13_memoryStep_195 hc hW1 ?_
        rw [nI_clamp (show arN (c i) < 2 ^ 31 by omega), f1.i (by unfold rRowS; omega), fb.i (by omega), D2a.2.1, in_m A2]
        refine ⟨vpN a8 (by decide), fun hin y1 hy1 => ?_, fun hout => ?_⟩
        · rw [iT_t hin] at hR
          obtain ⟨q1, q2⟩ := inS_ok A2 hin
          generalize (elS o X (dsc d (scN o (c i))) p).toInt.toNat = q at hR q1 q2
          have ey : y1 = nI (256 + 64 * arN (c i) + q) := by
            rw [hy1, q2, lN_toI, show (64 : Int32) = nI 64 from rfl, show (256 : Int32) = nI 256 from rfl, pk_mul, nI_add, nI_add]
          rw [n26, n28, ey]
          have ea : (32 : Int32) * nI (rgN o (c i) 0) + nI p = nI (32 * rgN o (c i) 0 + p) := by rw [show (32 : Int32) = nI 32 from rfl, pk_mul, nI_add]
          have go : ∀ o7 o8 o9 o10, G 251 [some (.ref 605), some (.int (nI i)), some (.int (nI o)), some (.int (nI (rgN o (c i) 0))), some (.int (nI (arN (c i)))), some (.int (flB o)), some (.int (nI p)), o7, o8, o9, o10, some (.int (nI (256 + 64 * arN (c i) + q)))] [] M1 := by
            intro o7 o8 o9 o10
            refine eX13_memoryStep_251 hc hW1 ?_
            unfold q_X13_lay m_X13_lay
            rw [ea, nI_clamp (show 256 + 64 * arN (c i) + q < 2 ^ 31 by omega), nI_clamp (show 32 * rgN o (c i) 0 + p < 2 ^ 31 by omega), nI_1]
            refine ⟨vpN (by omega) (by decide), vpN (by omega) (by decide), ⟨vpN (by omega) (by decide), vpN (by omega) (by decide)⟩, ?_⟩
            have f3 : FrC (rRowS (rgN o (c i) 0)) M1 (uI (uD (uL M1 626 (32 * rgN o (c i) 0 + p) (gL M1 626 (256 + 64 * arN (c i) + q))) 627 (32 * rgN o (c i) 0 + p) (gD M1 627 (256 + 64 * arN (c i) + q))) 605 69 (gI (uD (uL M1 626 (32 * rgN o (c i) 0 + p) (gL M1 626 (256 + 64 * arN (c i) + q))) 627 (32 * rgN o (c i) 0 + p) (gD M1 627 (256 + 64 * arN (c i) + q))) 605 69 + (1 : Int32))) := ((FrC_uL (by unfold rRowS; omega)).tr (FrC_uD (by unfold rRowS; omega))).tr (FrC_uI (by unfold rRowS; omega))
            refine ih (p + 1) (by omega) _ _ _ _ _ _ _ _ (f3.wf hW1) (f1.tr f3) (fun j hj => ?_) ?_ hR
            · unfold up1
              rw [gL_uI, gD_uI, gL_uD, gL_uL, gD_uD, gD_uL]
              by_cases e : j = p
              · rw [if_pos ⟨rfl, by omega⟩, if_pos ⟨rfl, by omega⟩, if_pos e, f1.l (by unfold rRowS; omega), f1.d (by unfold rRowS; omega), fb.l (by omega), fb.d (by omega)]
                have := D2a.2.2 q q1
                rw [A1] at this
                exact this
              · rw [if_neg (fun z => e (by omega)), if_neg (fun z => e (by omega)), if_neg e]
                exact hg j hj
            · rw [gI_uI, if_pos ⟨rfl, rfl⟩, gI_uD, gI_uL, h69', nI_1, ctS, if_pos ((onW_bt (by omega)).mp on)]
          refine ⟨fun _ => go _ _ _ _, fun z => ⟨fun z2 => absurd ho (by omega), fun _ => go _ _ _ _⟩⟩
        · rw [iT_f hout] at hR
          have hR : ((4 : Int32), p, g) = _ := hR
          rw [← hR] at h
          have f3 : FrC rinS M (uI M1 605 50 (nI p)) := fM.tr (FrC_uI (by unfold rinS; omega))
          unfold m_X13_failed
          refine h _ (f3.wf hW) f3 ?_ (fun z => absurd z (show ¬ (4 : Int32) = 0 by decide)) (fun _ => ?_)
          · refine RDc.row hd (S := fun a j => (643 ≤ a ∧ a ≤ 646) ∨ rRowS (rgN o (c i) 0) a j ∨ (a = 605)) (((fb.mono (fun a j z => Or.inl (by omega))).tr (f1.mono (fun a j z => Or.inr (Or.inl z)))).tr (FrC_uI (Or.inr (Or.inr rfl)))) (fun a j z q => by unfold rRowS at z; omega) v8 ⟨D1, D2, D3, D4⟩ (fun j hj => ?_)
            rw [gL_uI, gD_uI]
            exact hg j hj
          · rw [gI_uI, if_pos ⟨rfl, rfl⟩]
            rfl
  refine loop _ 0 (Nat.zero_add _) Mb (di d (2 * rgN o (c i) 0)) none _ _ _ _ _ hWb FrC.rf (fun j hj => ?_) ?_ rfl
  · rw [fb.l (by omega), fb.d (by omega)]; exact D1v.2.2 j hj
  · rw [fb.i (by omega)]; exact h69
/-- one array's cells and the counters -/
def rArrS (a j x : Nat) : Prop := (j = 605 ∧ x = 69) ∨ ((j = 626 ∨ j = 627) ∧ 256 + 64 * a ≤ x ∧ x < 256 + 64 * a + 64)
theorem rInsG_st {o : Nat} {r : Nat → Int64} {d : DS} (h : o = 27 ∨ o = 29) : insG o r d = ((strun (elS o (di d (2 * rgN o r 1)) (dsc d (scN o r))) (dn d (2 * arN r + 1)) (di d (2 * rgN o r 0)) (onW (onS (nI (dn d (2 * rgN o r 0))) r (dm d))) (dn d (2 * rgN o r 0)) 0 (di d (2 * arN r + 1))).1, if (strun (elS o (di d (2 * rgN o r 1)) (dsc d (scN o r))) (dn d (2 * arN r + 1)) (di d (2 * rgN o r 0)) (onW (onS (nI (dn d (2 * rgN o r 0))) r (dm d))) (dn d (2 * rgN o r 0)) 0 (di d (2 * arN r + 1))).1 = 0 then -1 else nI (strun (elS o (di d (2 * rgN o r 1)) (dsc d (scN o r))) (dn d (2 * arN r + 1)) (di d (2 * rgN o r 0)) (onW (onS (nI (dn d (2 * rgN o r 0))) r (dm d))) (dn d (2 * rgN o r 0)) 0 (di d (2 * arN r + 1))).2.1, cntW (onS (nI (dn d (2 * rgN o r 0))) r (dm d)), setIt d (2 * arN r + 1) (strun (elS o (di d (2 * rgN o r 1)) (dsc d (scN o r))) (dn d (2 * arN r + 1)) (di d (2 * rgN o r 0)) (onW (onS (nI (dn d (2 * rgN o r 0))) r (dm d))) (dn d (2 * rgN o r 0)) 0 (di d (2 * arN r + 1))).2.2) := by
  unfold insG
  dsimp only
  rw [if_neg (by omega), if_neg (by omega), if_neg (by omega), if_pos h]
theorem c_memS13 {d : DS} {o : Nat} (hW : Wf M) (hC : RC M n c i) (eo : cn (c i) 0 = o) (ho : o = 27 ∨ o = 29) (hF : FIT o (c i) d) (hd : WD d) (hD : RDc M d) (hO : gI M 605 70 = olR (c i) d) (h69 : gI M 605 69 = 0) (h : rinC M K (insG o (c i) d)) {G : Nat → KT} (hc : cloX13_memoryStep G K wT) {Mb : Mem} (hWb : Wf Mb) (fb : FrC (fun a _ => a = 643 ∨ a = 644) M Mb) (cb : o = 26 ∨ o = 27 → ∀ j, j < 32 → gL Mb 643 j = gL M 626 (32 * rgN o (c i) 1 + j)) (o7 o8 o9 o10 o11 : Option Value) :
    G 112 [some (.ref 605), some (.int (nI i)), some (.int (nI o)), some (.int (nI (rgN o (c i) 0))), some (.int (nI (arN (c i)))), some (.int (flB o)), some (.int (nI 0)), o7, o8, o9, o10, o11] [] Mb := by
  have ho' : 26 ≤ o ∧ o ≤ 29 := by omega
  have o46 : o < 46 := by omega
  obtain ⟨⟨v8, -, -⟩, ⟨a8, -, -⟩, hr, hs⟩ := memOps hC eo ho'
  rw [rInsG_st ho] at h
  have hnn := hF.2.1
  obtain ⟨D1, D2, D3, D4⟩ := hD
  obtain ⟨t1, t2, t3, t4, t5⟩ := let26 o (List.mem_range.mpr o46) ho'
  obtain ⟨A1, A2, A3⟩ := hF.2.2.2.2.2.2 t3
  have D1v := D1 _ v8
  have D2a := D2 _ a8
  have n26 : nI o = 26 ↔ o = 26 := nI_eq (b := 26) (by omega) (by decide)
  have n28 : nI o = 28 ↔ o = 28 := nI_eq (b := 28) (by omega) (by decide)
  generalize hX : di d (2 * rgN o (c i) 1) = X at h
  have LX : o = 26 ∨ o = 27 → ∀ j, j < dn d (2 * rgN o (c i) 0) → gL Mb 643 j = X j := by
    intro z j hj
    rw [cb z j (by omega), ← hX]
    obtain ⟨r1, -, -⟩ := hr z
    have k3 := hF.2.2.2.2.2.1 z
    exact ((D1 _ r1).2.2 j (by rw [(hF.1 1 (t4 z).1).2.1]; exact hj)).w (by rw [k3]; unfold isRk; decide)
  have loop : ∀ f p : Nat, p + f = dn d (2 * rgN o (c i) 0) → ∀ (M1 : Mem) (g : Nat → Int64) (o7 o8 o9 o10 o11 : Option Value), Wf M1 → FrC (rArrS (arN (c i))) Mb M1 → (∀ j, j < dn d (2 * arN (c i) + 1) → VR (dk d (2 * arN (c i) + 1)) (gL M1 626 (256 + 64 * arN (c i) + j)) (gD M1 627 (256 + 64 * arN (c i) + j)) (g j)) → gI M1 605 69 = nI (fb_ct (fun q => bt (onS (nI (dn d (2 * rgN o (c i) 0))) (c i) (dm d)) q) p) →
      strun (elS o X (dsc d (scN o (c i)))) (dn d (2 * arN (c i) + 1)) (di d (2 * rgN o (c i) 0)) (onW (onS (nI (dn d (2 * rgN o (c i) 0))) (c i) (dm d))) f p g = strun (elS o X (dsc d (scN o (c i)))) (dn d (2 * arN (c i) + 1)) (di d (2 * rgN o (c i) 0)) (onW (onS (nI (dn d (2 * rgN o (c i) 0))) (c i) (dm d))) (dn d (2 * rgN o (c i) 0)) 0 (di d (2 * arN (c i) + 1)) →
      G 112 [some (.ref 605), some (.int (nI i)), some (.int (nI o)), some (.int (nI (rgN o (c i) 0))), some (.int (nI (arN (c i)))), some (.int (flB o)), some (.int (nI p)), o7, o8, o9, o10, o11] [] M1 := by
    intro f
    induction f with
    | zero =>
      intro p hp M1 g o7 o8 o9 o10 o11 hW1 f1 hg h69' hR
      have e : strun (elS o X (dsc d (scN o (c i)))) (dn d (2 * arN (c i) + 1)) (di d (2 * rgN o (c i) 0)) (onW (onS (nI (dn d (2 * rgN o (c i) 0))) (c i) (dm d))) 0 p g = (0, p, g) := rfl
      rw [e] at hR
      rw [← hR] at h
      have fM : FrC rinS M M1 := (fb.mono (fun a j z => by unfold rinS; omega)).tr (f1.mono (fun a j z => by unfold rArrS at z; unfold rinS; omega))
      refine eX13_memoryStep_112 hc hW1 ?_
      rw [nI_clamp (show rgN o (c i) 0 < 2 ^ 31 by omega), f1.i (by unfold rArrS; omega), fb.i (by omega), D1v.2.1]
      refine ⟨vpN v8 (by decide), fun _ => ?_, fun z => absurd (nI_le (by omega) (by omega)) z⟩
      have hp' : p = dn d (2 * rgN o (c i) 0) := by omega
      refine h M1 hW1 fM ?_ (fun _ => ⟨?_, ?_⟩) (fun z => absurd rfl z)
      · exact RDc.arr hd ((fb.mono (T := fun a j => (643 ≤ a ∧ a ≤ 646) ∨ rArrS (arN (c i)) a j) (fun a j z => Or.inl (by omega))).tr (f1.mono (fun a j z => Or.inr z))) (fun a j z q => by unfold rArrS at z; omega) a8 ⟨D1, D2, D3, D4⟩ hg
      · show gI M1 605 69 = nI (cntW _)
        rw [h69', hp', cnt_below hnn.2 (fun q a b => rOnS_hi hnn.2 a b)]
      · rw [f1.i (by unfold rArrS; omega), fb.i (by omega)]
    | succ f ih =>
      intro p hp M1 g o7 o8 o9 o10 o11 hW1 f1 hg h69' hR
      have fM : FrC rinS M M1 := (fb.mono (fun a j z => by unfold rinS; omega)).tr (f1.mono (fun a j z => by unfold rArrS at z; unfold rinS; omega))
      have hC1 := hC.fr fM (fun a j z => rinS_pr z)
      have hO1 : gI M1 605 70 = olR (c i) d := by rw [f1.i (by unfold rArrS; omega), fb.i (by omega)]; exact hO
      have ctS : fb_ct (fun q => bt (onS (nI (dn d (2 * rgN o (c i) 0))) (c i) (dm d)) q) (p + 1) = fb_ct (fun q => bt (onS (nI (dn d (2 * rgN o (c i) 0))) (c i) (dm d)) q) p + (if bt (onS (nI (dn d (2 * rgN o (c i) 0))) (c i) (dm d)) p then 1 else 0) := rfl
      rw [strun] at hR
      refine mem_head (d := d) (nn := dn d (2 * rgN o (c i) 0)) (X := X) hc hW1 hC1 eo ho' hO1 (by omega) hnn.2 ?_ (fun q hq => ?_) (fun z => ?_) (fun off => ?_) (fun on o7 => ?_)
      · rw [f1.i (by unfold rArrS; omega), fb.i (by omega)]; exact D1v.2.1
      · rw [f1.l (by unfold rArrS; omega), fb.l (by omega)]; exact D4 q hq
      · rw [f1.l (by unfold rArrS; omega)]; exact LX z p (by omega)
      · rw [iT_f off] at hR
        refine ih (p + 1) (by omega) M1 g _ _ _ _ _ hW1 f1 hg ?_ hR
        rw [h69', ctS, if_neg (fun z => off ((onW_bt (by omega)).mpr z)), Nat.add_zero]
      · rw [iT_t on] at hR
        refine eX13_memoryStep_195 hc hW1 ?_
        rw [nI_clamp (show arN (c i) < 2 ^ 31 by omega), f1.i (by unfold rArrS; omega), fb.i (by omega), D2a.2.1, in_m A2]
        refine ⟨vpN a8 (by decide), fun hin y1 hy1 => ?_, fun hout => ?_⟩
        · rw [iT_t hin] at hR
          obtain ⟨q1, q2⟩ := inS_ok A2 hin
          generalize (elS o X (dsc d (scN o (c i))) p).toInt.toNat = q at hR q1 q2
          have ey : y1 = nI (256 + 64 * arN (c i) + q) := by
            rw [hy1, q2, lN_toI, show (64 : Int32) = nI 64 from rfl, show (256 : Int32) = nI 256 from rfl, pk_mul, nI_add, nI_add]
          have ea : (32 : Int32) * nI (rgN o (c i) 0) + nI p = nI (32 * rgN o (c i) 0 + p) := by rw [show (32 : Int32) = nI 32 from rfl, pk_mul, nI_add]
          unfold q_X13_lay m_X13_lay
          rw [n26, n28, ey, ea, nI_clamp (show 256 + 64 * arN (c i) + q < 2 ^ 31 by omega), nI_clamp (show 32 * rgN o (c i) 0 + p < 2 ^ 31 by omega), nI_1]
          refine ⟨fun z => absurd ho (by omega), fun _ => ⟨fun _ => ⟨vpN (by omega) (by decide), vpN (by omega) (by decide), ⟨vpN (by omega) (by decide), vpN (by omega) (by decide)⟩, ?_⟩, fun z => absurd ho (by omega)⟩⟩
          have f3 : FrC (rArrS (arN (c i))) M1 (uI (uD (uL M1 626 (256 + 64 * arN (c i) + q) (gL M1 626 (32 * rgN o (c i) 0 + p))) 627 (256 + 64 * arN (c i) + q) (gD M1 627 (32 * rgN o (c i) 0 + p))) 605 69 (gI (uD (uL M1 626 (256 + 64 * arN (c i) + q) (gL M1 626 (32 * rgN o (c i) 0 + p))) 627 (256 + 64 * arN (c i) + q) (gD M1 627 (32 * rgN o (c i) 0 + p))) 605 69 + (1 : Int32))) := ((FrC_uL (by unfold rArrS; omega)).tr (FrC_uD (by unfold rArrS; omega))).tr (FrC_uI (by unfold rArrS; omega))
          refine ih (p + 1) (by omega) _ _ _ _ _ _ _ (f3.wf hW1) (f1.tr f3) (fun j hj => ?_) ?_ hR
          · unfold up1
            rw [gL_uI, gD_uI, gL_uD, gL_uL, gD_uD, gD_uL]
            by_cases e : j = q
            · rw [if_pos ⟨rfl, by omega⟩, if_pos ⟨rfl, by omega⟩, if_pos e, f1.l (by unfold rArrS; omega), f1.d (by unfold rArrS; omega), fb.l (by omega), fb.d (by omega), A1]
              exact D1v.2.2 p (by omega)
            · rw [if_neg (fun z => e (by omega)), if_neg (fun z => e (by omega)), if_neg e]
              exact hg j hj
          · rw [gI_uI, if_pos ⟨rfl, rfl⟩, gI_uD, gI_uL, h69', nI_1, ctS, if_pos ((onW_bt (by omega)).mp on)]
        · rw [iT_f hout] at hR
          rw [← hR] at h
          have f3 : FrC rinS M (uI M1 605 50 (nI p)) := fM.tr (FrC_uI (by unfold rinS; omega))
          unfold m_X13_failed
          refine h _ (f3.wf hW) f3 ?_ (fun z => absurd z (show ¬ (4 : Int32) = 0 by decide)) (fun _ => ?_)
          · refine RDc.arr hd (S := fun a j => (643 ≤ a ∧ a ≤ 646) ∨ rArrS (arN (c i)) a j ∨ (a = 605)) (((fb.mono (fun a j z => Or.inl (by omega))).tr (f1.mono (fun a j z => Or.inr (Or.inl z)))).tr (FrC_uI (Or.inr (Or.inr rfl)))) (fun a j z q => by unfold rArrS at z; omega) a8 ⟨D1, D2, D3, D4⟩ (fun j hj => ?_)
            rw [gL_uI, gD_uI]
            exact hg j hj
          · rw [gI_uI, if_pos ⟨rfl, rfl⟩]
            rfl
  refine loop _ 0 (Nat.zero_add _) Mb (di d (2 * arN (c i) + 1)) _ _ _ _ _ hWb FrC.rf (fun j hj => ?_) ?_ rfl
  · rw [fb.l (by omega), fb.d (by omega)]; exact D2a.2.2 j hj
  · rw [fb.i (by omega)]; exact h69
/-- the four instructions of memory -/
theorem c_mem13 {d : DS} {o : Nat} (hW : Wf M) (hC : RC M n c i) (eo : cn (c i) 0 = o) (ho : 26 ≤ o ∧ o ≤ 29) (hF : mfA o (dk d (2 * rgN o (c i) 0)) (dk d (2 * arN (c i) + 1)) = 0 → FIT o (c i) d) (hd : WD d) (hD : RDc M d) (hO : gI M 605 70 = olR (c i) d) (h69 : gI M 605 69 = 0) (h : rinC M K (if mfA o (dk d (2 * rgN o (c i) 0)) (dk d (2 * arN (c i) + 1)) = 0 then insG o (c i) d else (mfA o (dk d (2 * rgN o (c i) 0)) (dk d (2 * arN (c i) + 1)), -1, 0, d))) : sp_X13_memoryStep [.ref 605, .int (nI i)] M K := by
  refine mem_pre hW hC eo ho hD (fun nz M' hW' f' e' => ?_) (fun z => ?_)
  · rw [if_neg nz] at h
    exact h M' hW' (f'.mono (fun a j y => by unfold rinS; omega)) (RDc.same f' (fun a j y => by omega) hD) (fun y => absurd y nz) (fun _ => e')
  · rw [if_pos z] at h
    intro G hc Mb hWb fb cb o7 o8 o9 o10 o11
    have hcs : (o = 26 ∨ o = 28) ∨ o = 27 ∨ o = 29 := by omega
    rcases hcs with y | y
    · exact c_memL13 hW hC eo y (hF z) hd hD hO h69 h hc hWb fb cb _ _ _ _ _
    · exact c_memS13 hW hC eo y (hF z) hd hD hO h69 h hc hWb fb cb _ _ _ _ _
end
end RMEM2
