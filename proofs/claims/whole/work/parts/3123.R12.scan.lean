section RSCAN
section
variable {M M' : Mem} {K : RT} {n i : Nat} {c : Nat → Nat → Int64}
theorem scan_s {k : Int32} {w x : Int64} : scanS k (some w) x = addS k w x := rfl
theorem mk39 {k k1 : Int32} {n : Nat} {X Y : Nat → Int64} {S : Int64} {m : Nat} {E : Nat → Int64} {t : Option Int64} {i : Nat} : mkS 39 k k1 n X Y S m E t i = scanS k t (X i) := rfl
/-- what has been summed -/
def accS (k : Int32) (t : Option Int64) (s : Int32) (w : Int64) (x : UInt64) : Prop := match t with | none => s = 0 | some b => s = 1 ∧ VR k w x b ∧ okJ k b
theorem c_scan13 {d : DS} (hW : Wf M) (hC : RC M n c i) (eo : cn (c i) 0 = 39) (hF : FIT 39 (c i) d) (hd : WD d) (hD : RDc M d) (hO : gI M 605 70 = olR (c i) d) (h69 : gI M 605 69 = 0) (hX : LR M 643 644 (dk d (2 * rgN 39 (c i) 0)) (dn d (2 * rgN 39 (c i) 0)) (di d (2 * rgN 39 (c i) 1))) (h : rinC M K (insG 39 (c i) d)) : sp_X13_scan [.ref 605, .int (nI i), .int (nI (rgN 39 (c i) 0))] M K := by
  obtain ⟨v8, -, -⟩ := rRow0 hC eo (by decide) (by decide)
  rw [rInsG_mk (Or.inr (Or.inr (Or.inr rfl)))] at h
  have hnn := hF.2.1
  obtain ⟨D1, D2, D3, D4⟩ := hD
  have D1v := D1 _ v8
  have hk := hF.k0 (by decide)
  have c1 : 1 < cntR 39 4 ∧ alB 39 1 = true := by decide +kernel
  have k1 := (hF.1 1 c1.1).2.2.1 c1.2
  have okX : ∀ j, j < dn d (2 * rgN 39 (c i) 0) → okJ (dk d (2 * rgN 39 (c i) 0)) (di d (2 * rgN 39 (c i) 1) j) := fun j hj => by
    have := hF.x1 (by decide) c1.1 hj
    rw [k1] at this
    exact this
  generalize di d (2 * rgN 39 (c i) 1) = X at h hX okX
  refine wX13_scan hW (fun {G} hc => ?_)
  have loop : ∀ f p : Nat, p + f = dn d (2 * rgN 39 (c i) 0) → ∀ (M1 : Mem) (g : Nat → Int64) (t : Option Int64) (s : Int32) (w : Int64) (x : UInt64), Wf M1 → FrC (rRowS (rgN 39 (c i) 0)) M M1 → (∀ j, j < dn d (2 * rgN 39 (c i) 0) → VR (dk d (2 * rgN 39 (c i) 0)) (gL M1 626 (32 * rgN 39 (c i) 0 + j)) (gD M1 627 (32 * rgN 39 (c i) 0 + j)) (g j)) → gI M1 605 69 = nI (fb_ct (fun q => bt (onS (nI (dn d (2 * rgN 39 (c i) 0))) (c i) (dm d)) q) p) → accS (dk d (2 * rgN 39 (c i) 0)) t s w x →
      lrun (mkS 39 (dk d (2 * rgN 39 (c i) 0)) (dk d (2 * rgN 39 (c i) 1)) (dn d (2 * rgN 39 (c i) 0)) X (di d (2 * rgN 39 (c i) 2)) (dsc d (scN 39 (c i))) (dn d (2 * arN (c i) + 1)) (di d (2 * arN (c i) + 1))) (onW (onS (nI (dn d (2 * rgN 39 (c i) 0))) (c i) (dm d))) f p t g = lrun (mkS 39 (dk d (2 * rgN 39 (c i) 0)) (dk d (2 * rgN 39 (c i) 1)) (dn d (2 * rgN 39 (c i) 0)) X (di d (2 * rgN 39 (c i) 2)) (dsc d (scN 39 (c i))) (dn d (2 * arN (c i) + 1)) (di d (2 * arN (c i) + 1))) (onW (onS (nI (dn d (2 * rgN 39 (c i) 0))) (c i) (dm d))) (dn d (2 * rgN 39 (c i) 0)) 0 none (di d (2 * rgN 39 (c i) 0)) →
      G 11 [some (.ref 605), some (.int (nI i)), some (.int (nI (rgN 39 (c i) 0))), some (.int s), some (.long w), none, some (.double x), none, some (.int (nI p))] [] M1 := by
    intro f
    induction f with
    | zero =>
      intro p hp M1 g t s w x hW1 f1 hg h69' ha hR
      rw [lrun] at hR
      rw [← hR] at h
      have fM : FrC rinS M M1 := f1.mono (fun a j z => by unfold rRowS at z; unfold rinS; omega)
      refine eX13_scan_11 hc hW1 ?_
      rw [nI_clamp (show rgN 39 (c i) 0 < 2 ^ 31 by omega), f1.i (by unfold rRowS; omega), D1v.2.1]
      refine ⟨vpN v8 (by decide), fun _ => ?_, fun z => absurd (nI_le (by omega) (by omega)) z⟩
      have hp' : p = dn d (2 * rgN 39 (c i) 0) := by omega
      refine h M1 hW1 fM ?_ (fun _ => ⟨?_, ?_⟩) (fun z => absurd rfl z)
      · exact RDc.row hd f1 (fun a j z q => by unfold rRowS at z; omega) v8 ⟨D1, D2, D3, D4⟩ hg
      · show gI M1 605 69 = nI (cntW _)
        rw [h69', hp', cnt_below hnn.2 (fun q a b => rOnS_hi hnn.2 a b)]
      · rw [f1.i (by unfold rRowS; omega)]
    | succ f ih =>
      intro p hp M1 g t s w x hW1 f1 hg h69' ha hR
      have fM : FrC rinS M M1 := f1.mono (fun a j z => by unfold rRowS at z; unfold rinS; omega)
      have hC1 := hC.fr fM (fun a j z => rinS_pr z)
      have hO1 : gI M1 605 70 = olR (c i) d := by rw [f1.i (by unfold rRowS; omega)]; exact hO
      obtain ⟨n1, n2⟩ := isOn_is (d := d) (j := p) (nn := dn d (2 * rgN 39 (c i) 0)) hC1 hO1 (by omega) hnn.2
      obtain ⟨w1, w2⟩ := lane_vp (j := p) (by omega)
      have ctS : fb_ct (fun q => bt (onS (nI (dn d (2 * rgN 39 (c i) 0))) (c i) (dm d)) q) (p + 1) = fb_ct (fun q => bt (onS (nI (dn d (2 * rgN 39 (c i) 0))) (c i) (dm d)) q) p + (if bt (onS (nI (dn d (2 * rgN 39 (c i) 0))) (c i) (dm d)) p then 1 else 0) := rfl
      rw [lrun, mk39] at hR
      refine eX13_scan_11 hc hW1 ?_
      rw [nI_clamp (show rgN 39 (c i) 0 < 2 ^ 31 by omega), f1.i (show ¬ rRowS _ 625 _ by unfold rRowS; omega), f1.i (show ¬ rRowS _ 624 _ by unfold rRowS; omega), D1v.2.1, D1v.1, n2, w2, nI_1]
      -- a lane's sum is laid
      have fin : ∀ (M2 : Mem) (s' : Int32) (w' : Int64) (x' : UInt64) (b : Int64), onW (onS (nI (dn d (2 * rgN 39 (c i) 0))) (c i) (dm d)) p → Wf M2 → FrC rwS M1 M2 → VR (dk d (2 * rgN 39 (c i) 0)) w' x' b → okJ (dk d (2 * rgN 39 (c i) 0)) b → scanS (dk d (2 * rgN 39 (c i) 0)) t (X p) = (0, b) → ∀ o6 o7, G 118 [some (.ref 605), some (.int (nI i)), some (.int (nI (rgN 39 (c i) 0))), some (.int s'), some (.long w'), none, o6, o7, some (.int (nI p))] [.double x'] M2 := by
        intro M2 s' w' x' b on hW2 f2 hv hb es o6 o7
        rw [iT_t on, es, if_pos rfl] at hR
        refine eX13_scan_118 hc hW2 ?_
        have ea : (32 : Int32) * nI (rgN 39 (c i) 0) + nI p = nI (32 * rgN 39 (c i) 0 + p) := by rw [show (32 : Int32) = nI 32 from rfl, pk_mul, nI_add]
        unfold q_X13_lay m_X13_lay
        rw [ea, nI_clamp (show 32 * rgN 39 (c i) 0 + p < 2 ^ 31 by omega), nI_1]
        refine ⟨⟨vpN (by omega) (by decide), vpN (by omega) (by decide)⟩, ?_⟩
        have f3 : FrC (rRowS (rgN 39 (c i) 0)) M1 (uI (uD (uL M2 626 (32 * rgN 39 (c i) 0 + p) w') 627 (32 * rgN 39 (c i) 0 + p) x') 605 69 (gI (uD (uL M2 626 (32 * rgN 39 (c i) 0 + p) w') 627 (32 * rgN 39 (c i) 0 + p) x') 605 69 + (1 : Int32))) := (f2.mono (fun a j z => by unfold rwS at z; unfold rRowS; omega)).tr (((FrC_uL (by unfold rRowS; omega)).tr (FrC_uD (by unfold rRowS; omega))).tr (FrC_uI (by unfold rRowS; omega)))
        refine ih (p + 1) (by omega) _ (up1 g p b) (some b) 1 w' x' (f3.wf hW1) (f1.tr f3) (fun j hj => ?_) ?_ ⟨rfl, hv, hb⟩ hR
        · unfold up1
          rw [gL_uI, gD_uI, gL_uD, gL_uL, gD_uD, gD_uL]
          by_cases e : j = p
          · rw [if_pos ⟨rfl, by omega⟩, if_pos ⟨rfl, by omega⟩, if_pos e]
            exact hv
          · rw [if_neg (fun z => e (by omega)), if_neg (fun z => e (by omega)), if_neg e, f2.l (by unfold rwS; omega), f2.d (by unfold rwS; omega)]
            exact hg j hj
        · rw [gI_uI, if_pos ⟨rfl, rfl⟩, gI_uD, gI_uL, f2.i (by unfold rwS; omega), h69', nI_1, ctS, if_pos ((onW_bt (by omega)).mp on)]
      have hXp := hX p (by omega)
      rw [← f1.l (show ¬ rRowS (rgN 39 (c i) 0) 643 p by unfold rRowS; omega), ← f1.d (show ¬ rRowS (rgN 39 (c i) 0) 644 p by unfold rRowS; omega)] at hXp
      refine ⟨vpN v8 (by decide), fun z => absurd ((nI_leI (by omega) (by omega)).mp z) (by omega), fun _ => ⟨n1, fun on => ⟨fun s0 => ?_, fun s1 => ⟨vpN v8 (by decide), w1, w1, ?_⟩⟩, fun off => ?_⟩⟩
      · cases t with
        | some b => exact absurd (s0.symm.trans ha.1) (by decide)
        | none =>
          refine eX13_scan_80 hc hW1 ?_
          rw [w2]
          exact ⟨fun _ => ⟨w1, fun _ => ⟨w1, fin M1 _ _ _ (X p) on hW1 FrC.rf hXp (okX p (by omega)) rfl _ _⟩, fun z => absurd s0 z⟩, fun z => absurd s0 z⟩
      · cases t with
        | none => exact absurd ha s1
        | some b =>
          obtain ⟨-, hv, hb⟩ := ha
          refine c_make13 (o := 1) hW1 hk hb (okX p (by omega)) hv hXp (by omega) (fun _ => by omega) (fun M3 hW3 f3 hv3 => rX13_scan_39_16 hc hW3 ?_)
          have eb : binS 1 (dk d (2 * rgN 39 (c i) 0)) b (X p) = addS (dk d (2 * rgN 39 (c i) 0)) b (X p) := rfl
          rw [eb] at hv3 ⊢
          have hcd := bin1_cd (k := dk d (2 * rgN 39 (c i) 0)) (x := b) (y := X p)
          refine ⟨fun le => ?_, fun gt6 => ?_⟩
          · have z0 : (addS (dk d (2 * rgN 39 (c i) 0)) b (X p)).1 = 0 := hcd.resolve_right (fun y => by rw [y] at le; exact absurd le (by decide))
            refine eX13_scan_80 hc hW3 ⟨fun z => absurd z s1, fun _ => ⟨fun z => absurd z s1, fun _ => ?_⟩⟩
            exact fin M3 _ _ _ _ on hW3 f3 (hv3 z0) (okJ_add z0) (by rw [scan_s]; exact Prod.ext z0 rfl) _ _
          · have z6 : (addS (dk d (2 * rgN 39 (c i) 0)) b (X p)).1 = 6 := hcd.resolve_left (fun y => gt6 (by rw [y]; decide))
            rw [iT_t on, scan_s, if_neg (by rw [z6]; decide), z6] at hR
            rw [← hR] at h
            have f4 : FrC rinS M (uI M3 605 50 (nI p)) := (fM.tr (f3.mono (fun a j z => by unfold rwS at z; unfold rinS; omega))).tr (FrC_uI (by unfold rinS; omega))
            unfold m_X13_failed
            refine h _ (f4.wf hW) f4 ?_ (fun z => absurd z (show ¬ (6 : Int32) = 0 by decide)) (fun _ => ?_)
            · refine RDc.row hd (S := fun a j => rRowS (rgN 39 (c i) 0) a j ∨ (a = 605)) ((f1.mono (fun a j z => Or.inl z)).tr ((f3.mono (fun a j z => Or.inr z.1)).tr (FrC_uI (Or.inr rfl)))) (fun a j z q => by unfold rRowS at z; omega) v8 ⟨D1, D2, D3, D4⟩ (fun j hj => ?_)
              rw [gL_uI, gD_uI, f3.l (by unfold rwS; omega), f3.d (by unfold rwS; omega)]
              exact hg j hj
            · rw [gI_uI, if_pos ⟨rfl, rfl⟩]
              rfl
      · rw [iT_f off] at hR
        refine ih (p + 1) (by omega) M1 g t _ _ _ hW1 f1 hg ?_ ha hR
        rw [h69', ctS, if_neg (fun z => off ((onW_bt (by omega)).mpr z)), Nat.add_zero]
  exact loop _ 0 (Nat.zero_add _) M (di d (2 * rgN 39 (c i) 0)) none 0 0 FP.dconst0 hW FrC.rf D1v.2.2 h69 rfl rfl
end
end RSCAN
