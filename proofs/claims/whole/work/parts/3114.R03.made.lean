section RMADE
def BYL (o : Nat) : Prop := (1 ≤ o ∧ o ≤ 16) ∨ o = 24 ∨ o = 25 ∨ o = 30 ∨ o = 31 ∨ (34 ≤ o ∧ o ≤ 37)
section
variable {M M' : Mem} {K : RT} {n i : Nat} {c : Nat → Nat → Int64}
theorem in_is {v : Int64} {m : Nat} (hm : 1 ≤ m ∧ m ≤ 64) : P_X13_in v (0 : Int64) ((nI m).toInt64 - (1 : Int64)) ↔ inS v m := by
  unfold P_X13_in inS
  rw [nI_toL (by omega), show (1 : Int64) = lN 1 from rfl, lN_sub (by omega)]
  rw [Int64.lt_iff_toInt_lt, Int64.lt_iff_toInt_lt, Int64.le_iff_toInt_le, Int64.lt_iff_toInt_lt, l6_int (by omega), l6_int (by omega), show (0 : Int64).toInt = 0 from by decide]
  omega
theorem lN_0a (x : Int64) : x + (0 : Int64) = x := by
  apply Int64.toInt_inj.mp
  rw [Int64.toInt_add, show (0 : Int64).toInt = 0 from by decide, Int.add_zero]
  have := x.toInt_lt
  have := x.le_toInt
  exact fb_bmodL (by omega) (by omega)
/-- which lane the fetching instructions take -/
def srcS (o j nn : Nat) (S : Int64) (Y : Nat → Int64) : Int64 := if o = 34 then Y j else if o = 35 then lN ((j + (S.toInt % nn).toNat) % nn) else if o = 36 then lN (nn - 1 - j) else lN (j / 2)
theorem source_is {d : DS} {j nn o : Nat} {Y : Nat → Int64} (hC : RC M n c i) (eo : cn (c i) 0 = o) (ho : 34 ≤ o ∧ o ≤ 37) (hs : ∀ q, q < 8 → gL M 631 q = dsc d q) (hj : j < nn) (hn : nn ≤ 32) (hY : o = 34 → gL M 645 j = Y j) : q_X13_source (nI i) (nI j) (nI nn) M ∧ f_X13_source (nI i) (nI j) (nI nn) M = srcS o j nn (dsc d (scN o (c i))) Y := by
  obtain ⟨v1, v2⟩ := lane_vp (j := j) (by omega)
  obtain ⟨o1, o2, o3⟩ := opI hC
  rw [eo] at o2 o3
  have n34 : nI o = 34 ↔ o = 34 := nI_eq (b := 34) (by omega) (by decide)
  have n35 : nI o = 35 ↔ o = 35 := nI_eq (b := 35) (by omega) (by decide)
  have n36 : nI o = 36 ↔ o = 36 := nI_eq (b := 36) (by omega) (by decide)
  have nz : ¬ (nI nn).toInt64 = 0 := by
    rw [nI_toL (by omega), show (0 : Int64) = lN 0 from rfl, l6_eq (by omega) (by decide)]
    omega
  unfold q_X13_source f_X13_source srcS
  rw [o2, v2]
  by_cases e34 : o = 34
  · rw [if_pos (n34.mpr e34), if_pos e34]
    exact ⟨⟨o1, fun _ => v1, fun z => absurd (n34.mpr e34) z⟩, hY e34⟩
  · rw [if_neg (fun z => e34 (n34.mp z)), if_neg e34]
    by_cases e35 : o = 35
    · obtain ⟨q1, q2, q3⟩ := scOf2 (d := d) hC (by omega) (by rw [eo, e35]; rfl) (by rw [eo, e35]; rfl) hs
      rw [eo] at q3
      rw [if_pos (n35.mpr e35), if_pos e35, q3]
      refine ⟨⟨o1, fun z => absurd (n34.mp z) e34, fun _ _ => ⟨q1, q2, nz, fun _ => nz, fun _ => nz⟩⟩, ?_⟩
      generalize dsc d (scN o (c i)) = S
      have hr := rem_n S (n := nn) (by omega) (by omega)
      have hm := Int.emod_nonneg S.toInt (show (nn : Int) ≠ 0 by omega)
      have hm2 := Int.emod_lt_of_pos S.toInt (show 0 < (nn : Int) by omega)
      have ht1 := Int.tmod_lt_of_pos S.toInt (show 0 < (nn : Int) by omega)
      have ht2 := Int.lt_tmod_of_pos S.toInt (show 0 < (nn : Int) by omega)
      have ht : S.toInt % nn = if 0 ≤ S.toInt.tmod nn then S.toInt.tmod nn else S.toInt.tmod nn + nn := by
        have := Int.tmod_eq_emod (a := S.toInt) (b := (nn : Int))
        by_cases z : 0 ≤ S.toInt ∨ (nn : Int) ∣ S.toInt
        · rw [if_pos z] at this
          rw [if_pos (by omega)]; omega
        · rw [if_neg z] at this
          rw [Int.natAbs_natCast] at this
          rw [if_neg (by omega)]; omega
      rw [nI_toL (show nn < 2 ^ 31 by omega), nI_toL (show j < 2 ^ 31 by omega), hr]
      have h0 : (0 : Int64) ≤ lI (S.toInt.tmod nn) ↔ 0 ≤ S.toInt.tmod nn := by
        rw [Int64.le_iff_toInt_le, lI_toInt (by omega) (by omega)]
        exact Iff.rfl
      have fin : ∀ t : Int, t = S.toInt % nn → (lN j + lI t) - (lN j + lI t) / lN nn * lN nn = lN ((j + (S.toInt % nn).toNat) % nn) := by
        intro t et
        have e1 : lN j + lI t = lN (j + (S.toInt % nn).toNat) := by
          rw [et]
          show lI (j : Int) + lI _ = lI (((j + (S.toInt % nn).toNat : Nat)) : Int)
          rw [lI_add]
          congr 1
          omega
        rw [e1]
        exact l6_rem (by omega) (by omega)
      by_cases z : 0 ≤ S.toInt.tmod nn
      · rw [if_pos (h0.mpr z)]
        rw [if_pos z] at ht
        exact fin _ ht.symm
      · rw [if_neg (fun y => z (h0.mp y))]
        rw [if_neg z] at ht
        have e2 : lI (S.toInt.tmod nn) + lN nn = lI (S.toInt.tmod nn + nn) := by
          show lI _ + lI (nn : Int) = _
          rw [lI_add]
        rw [e2]
        exact fin _ ht.symm
    · rw [if_neg (fun z => e35 (n35.mp z)), if_neg e35]
      refine ⟨⟨o1, fun z => absurd (n34.mp z) e34, fun _ z => absurd (n35.mp z) e35⟩, ?_⟩
      by_cases e36 : o = 36
      · rw [if_pos (n36.mpr e36), if_pos e36, show (1 : Int32) = nI 1 from rfl, pk_sub (by omega), pk_sub (by omega), nI_toL (by omega)]
      · rw [if_neg (fun z => e36 (n36.mp z)), if_neg e36, show (2 : Int32) = nI 2 from rfl, pk_div (by omega) (by omega) (by omega), nI_toL (by omega)]
theorem c_laneMade13 {d : DS} {j o m : Nat} {E : Nat → Int64} (hW : Wf M) (hC : RC M n c i) (eo : cn (c i) 0 = o) (ho : BYL o) (hF : FIT o (c i) d) (hs : ∀ q, q < 8 → gL M 631 q = dsc d q) (hk6 : ∀ v, v < 8 → gI M 624 v = dk d (2 * v))
    (hX : ¬ (o = 30 ∨ o = 31) → LR M 643 644 (dk d (2 * rgN o (c i) 1)) (dn d (2 * rgN o (c i) 0)) (di d (2 * rgN o (c i) 1))) (hY : o ≤ 10 ∨ o = 34 ∨ o = 37 → LR M 645 646 (dk d (2 * rgN o (c i) 2)) (dn d (2 * rgN o (c i) 0)) (di d (2 * rgN o (c i) 2))) (hj : j < dn d (2 * rgN o (c i) 0))
    (h : mkC M K (dk d (2 * rgN o (c i) 0)) (madeS o (dk d (2 * rgN o (c i) 0)) (dk d (2 * rgN o (c i) 1)) (dn d (2 * rgN o (c i) 0)) (di d (2 * rgN o (c i) 1)) (di d (2 * rgN o (c i) 2)) (dsc d (scN o (c i))) m E j)) : sp_X13_laneMade [.ref 605, .int (nI i), .int (nI j), .int (dk d (2 * rgN o (c i) 0)), .int (nI (dn d (2 * rgN o (c i) 0)))] M K := by
  obtain ⟨o1, o2, o3⟩ := opI hC
  rw [eo] at o2 o3
  have oB := ho
  unfold BYL at ho
  have o46 : o < 46 := by omega
  have hv : VC o (c i) := by have := hC.2.2.2.2.vc; rw [eo] at this; exact this
  have hk := hF.k0 o46
  have hnn := hF.2.1
  obtain ⟨v1, v2⟩ := lane_vp (j := j) (by omega)
  have cnt : ¬ (o = 30 ∨ o = 31) → 1 < cntR o 4 := by
    have : ∀ o ∈ List.range 46, BYL o → ¬ (o = 30 ∨ o = 31) → 1 < cntR o 4 := by unfold BYL; decide +kernel
    exact this o (List.mem_range.mpr o46) oB
  have cnt2 : o ≤ 10 ∨ o = 34 ∨ o = 37 → 2 < cntR o 4 := by
    have : ∀ o ∈ List.range 46, BYL o → (o ≤ 10 ∨ o = 34 ∨ o = 37) → 2 < cntR o 4 := by unfold BYL; decide +kernel
    exact this o (List.mem_range.mpr o46) oB
  refine wX13_laneMade hW (fun {G} hc => ?_)
  rw [o2, show (10 : Int32) = nI 10 from rfl, nI_ltI (by omega) (by omega), show (13 : Int32) = nI 13 from rfl, nI_ltI (by omega) (by omega), show (16 : Int32) = nI 16 from rfl, nI_ltI (by omega) (by omega)]
  rw [v2]
  refine ⟨o1, fun g10 => ⟨fun g13 => ⟨fun g16 => ?_, fun g16 => ?_⟩, fun g13 => ?_⟩, fun g10 => ?_⟩
  · -- behind 16
    rw [show (24 : Int32) = nI 24 from rfl, show (25 : Int32) = nI 25 from rfl, show (30 : Int32) = nI 30 from rfl, show (31 : Int32) = nI 31 from rfl, show (37 : Int32) = nI 37 from rfl, nI_eq (by omega) (by omega), nI_eq (by omega) (by omega), nI_eq (by omega) (by omega), nI_eq (by omega) (by omega), nI_eq (by omega) (by omega)]
    -- casts
    have casts : o = 24 ∨ o = 25 → G 120 [some (.ref 605), some (.int (nI i)), some (.int (nI j)), some (.int (dk d (2 * rgN o (c i) 0))), some (.int (nI (dn d (2 * rgN o (c i) 0)))), some (.int (nI o)), none, none, none] [] M := by
      intro oc
      have hx1 := cnt (by omega)
      obtain ⟨r1, r2⟩ := rg_is o46 hv hx1
      have hL := hX (by omega) j hj
      have hok := hF.x1 o46 hx1 hj
      have hk1 := (hF.1 1 hx1).1
      refine eX13_laneMade_120 hc hW (c_regOf (k := 1) hW hC (by decide) ?_)
      rw [eo]
      unfold regI
      rw [if_pos ⟨o46, hx1⟩]
      refine rX13_laneMade_120_5 hc hW ?_
      rw [nI_clamp (by omega), hk6 _ r1, show (24 : Int32) = nI 24 from rfl, nI_eq (by omega) (by omega), v2]
      refine ⟨vpN r1 (by decide), fun n24 => ⟨v1, v1, ?_⟩, fun e24 => ⟨v1, v1, ?_⟩⟩
      · have e25 : o = 25 := by omega
        subst e25
        exact c_held13 hW hk (hF.2.2.1 (Or.inr (Or.inr rfl))) hk1 hok hL (fun M' a b e => rX13_laneMade_162_11 hc a (h M' a b e))
      · subst e24
        exact cast13_K hW hk hk1 hok hL h
    -- numbers
    have nums : o = 30 ∨ o = 31 → G 196 [some (.ref 605), some (.int (nI i)), some (.int (nI j)), some (.int (dk d (2 * rgN o (c i) 0))), some (.int (nI (dn d (2 * rgN o (c i) 0)))), some (.int (nI o)), none, none, none] [] M := by
      intro oc
      have hu : usS o = true ∧ posS o = 1 := by rcases oc with rfl | rfl <;> exact ⟨rfl, rfl⟩
      obtain ⟨q1, q2, q3⟩ := scOf1 (d := d) hC (by omega) (by rw [eo]; exact hu.1) (by rw [eo]; exact hu.2) hs
      rw [eo] at q3
      refine eX13_laneMade_196 hc hW ?_
      rw [q3, show (31 : Int32) = nI 31 from rfl, nI_eq (by omega) (by omega)]
      have fin : ∀ y : Int64, madeS o (dk d (2 * rgN o (c i) 0)) (dk d (2 * rgN o (c i) 1)) (dn d (2 * rgN o (c i) 0)) (di d (2 * rgN o (c i) 1)) (di d (2 * rgN o (c i) 2)) (dsc d (scN o (c i))) m E j = (0, putJ (dk d (2 * rgN o (c i) 0)) y) → (¬ (P_X13_isReal (dk d (2 * rgN o (c i) 0))) → G 241 [some (.ref 605), some (.int (nI i)), some (.int (nI j)), some (.int (dk d (2 * rgN o (c i) 0))), some (.int (nI (dn d (2 * rgN o (c i) 0)))), some (.int (nI o)), some (.long y), none, none] [.long (f_X13_low (dk d (2 * rgN o (c i) 0)) y), .ref 605] M) ∧ ((P_X13_isReal (dk d (2 * rgN o (c i) 0))) → G 241 [some (.ref 605), some (.int (nI i)), some (.int (nI j)), some (.int (dk d (2 * rgN o (c i) 0))), some (.int (nI (dn d (2 * rgN o (c i) 0)))), some (.int (nI o)), some (.long y), none, none] [.long (0 : Int64), .ref 605] M) := by
        intro y ey
        have hh := h.ok ey
        refine ⟨fun r => eX13_laneMade_241 hc hW ⟨fun _ => ?_, fun z => absurd z r⟩, fun r => eX13_laneMade_241 hc hW ⟨fun z => absurd r z, fun _ => ?_⟩⟩
        · have hr : ¬ isRk (dk d (2 * rgN o (c i) 0)) := fun z => r ((isReal_P hk).mpr z)
          refine hh _ (rw_u.wf hW) rw_u (rw_v ⟨fun z => absurd z hr, fun _ => ?_⟩)
          unfold putJ
          rw [iT_f hr, low_13 hk hr]
        · have hr := (isReal_P hk).mp r
          obtain ⟨e, q⟩ := nearLong_is hr y
          exact ⟨q, hh _ (rw_u.wf hW) rw_u (rw_v ⟨fun _ => e, fun z => absurd hr z⟩)⟩
      refine ⟨q1, q2, fun n31 y1 hy1 => ?_, fun e31 y2 hy2 => ?_⟩
      · have e30 : o = 30 := by omega
        rw [hy1, lN_0a]
        refine fin _ ?_
        subst e30
        rfl
      · rw [hy2, nI_toL (by omega)]
        refine fin _ ?_
        subst e31
        rfl
    refine ⟨fun e => casts (Or.inl e), fun n24 => ⟨fun n25 => ⟨fun e => nums (Or.inl e), fun n30 => ⟨fun n31 => ?_, fun e => nums (Or.inr e)⟩⟩, fun e => casts (Or.inr e)⟩⟩
    -- fetched
    have o34 : 34 ≤ o ∧ o ≤ 37 := by omega
    have hL := hX (by omega)
    have kY : o = 34 → dk d (2 * rgN o (c i) 2) = 3 := hF.2.2.2.2.1
    obtain ⟨s1, s2⟩ := source_is (d := d) (j := j) (nn := dn d (2 * rgN o (c i) 0)) (Y := di d (2 * rgN o (c i) 2)) hC eo o34 hs hj hnn.2 (fun e34 => (hY (Or.inr (Or.inl e34)) j hj).w (by rw [kY e34]; unfold isRk; decide))
    refine ⟨s1, ?_⟩
    rw [s2, in_is (by omega)]
    have k1 : dk d (2 * rgN o (c i) 1) = dk d (2 * rgN o (c i) 0) := (hF.1 1 (cnt (by omega))).2.2.1 (by
      have : ∀ o ∈ List.range 46, 34 ≤ o ∧ o ≤ 37 → alB o 1 = true := by decide +kernel
      exact this o (List.mem_range.mpr o46) o34)
    rw [k1] at hL
    -- the lane that is taken
    have take : ∀ q, q < dn d (2 * rgN o (c i) 0) → srcS o j (dn d (2 * rgN o (c i) 0)) (dsc d (scN o (c i))) (di d (2 * rgN o (c i) 2)) = lN q → ∀ s0 : Int32, (s0 = 0 → madeS o (dk d (2 * rgN o (c i) 0)) (dk d (2 * rgN o (c i) 1)) (dn d (2 * rgN o (c i) 0)) (di d (2 * rgN o (c i) 1)) (di d (2 * rgN o (c i) 2)) (dsc d (scN o (c i))) m E j = (0, di d (2 * rgN o (c i) 1) q)) → (¬ s0 = 0 → o = 37 ∧ madeS o (dk d (2 * rgN o (c i) 0)) (dk d (2 * rgN o (c i) 1)) (dn d (2 * rgN o (c i) 0)) (di d (2 * rgN o (c i) 1)) (di d (2 * rgN o (c i) 2)) (dsc d (scN o (c i))) m E j = (0, di d (2 * rgN o (c i) 2) q)) → G 312 [some (.ref 605), some (.int (nI i)), some (.int (nI j)), some (.int (dk d (2 * rgN o (c i) 0))), some (.int (nI (dn d (2 * rgN o (c i) 0)))), some (.int (nI o)), some (.long (srcS o j (dn d (2 * rgN o (c i) 0)) (dsc d (scN o (c i))) (di d (2 * rgN o (c i) 2)))), none, none] [.int s0] M := by
      intro q hq es s0 z0 z1
      obtain ⟨u1, u2⟩ := lane_vp (j := q) (by omega)
      refine eX13_laneMade_312 hc hW ?_
      rw [es, lN_toI, u2]
      refine ⟨fun z => ⟨u1, eX13_laneMade_339 hc hW ?_⟩, fun z => ⟨u1, eX13_laneMade_339 hc hW ?_⟩⟩
      · rw [lN_toI, u2]
        exact ⟨fun _ => ⟨u1, h.ok (z0 z) _ (rw_u.wf hW) rw_u (rw_v (hL q hq))⟩, fun y => absurd z y⟩
      · rw [lN_toI, u2]
        obtain ⟨e37, ez⟩ := z1 z
        have k2 : dk d (2 * rgN o (c i) 2) = dk d (2 * rgN o (c i) 0) := (hF.1 2 (cnt2 (Or.inr (Or.inr e37)))).2.2.1 (by rw [e37]; rfl)
        have hL2 := hY (Or.inr (Or.inr e37)) q hq
        rw [k2] at hL2
        exact ⟨fun y => absurd y z, fun _ => ⟨u1, h.ok ez _ (rw_u.wf hW) rw_u (rw_v hL2)⟩⟩
    refine ⟨fun hin => ?_, fun hout => ?_⟩
    · have hcs : o = 34 ∨ o = 35 ∨ o = 36 ∨ o = 37 := by omega
      rcases hcs with e | e | e | e
      · subst e
        obtain ⟨q, q1, q2⟩ := inS_lN (by omega) hin
        have q2' : di d (2 * rgN 34 (c i) 2) j = lN q := q2
        refine ⟨fun _ => take q q1 q2 0 (fun _ => ?_) (fun z => absurd rfl z), fun z => absurd z (by decide)⟩
        show iT (inS (di d (2 * rgN 34 (c i) 2) j) _) _ _ = _
        have hin' : inS (di d (2 * rgN 34 (c i) 2) j) (dn d (2 * rgN 34 (c i) 0)) := hin
        rw [iT_t hin', q2', l6_int (by omega)]
        rfl
      · subst e
        refine ⟨fun _ => take _ (Nat.mod_lt _ (by omega)) rfl 0 (fun _ => rfl) (fun z => absurd rfl z), fun z => absurd z (by decide)⟩
      · subst e
        refine ⟨fun _ => take _ (show dn d (2 * rgN 36 (c i) 0) - 1 - j < _ by omega) rfl 0 (fun _ => rfl) (fun z => absurd rfl z), fun z => absurd z (by decide)⟩
      · subst e
        have hr : nI j - nI j / (2 : Int32) * (2 : Int32) = nI (j % 2) := pk_rem (by omega) (by decide) (by decide)
        rw [hr, show (1 : Int32) = nI 1 from rfl, nI_eq (by omega) (by decide)]
        have e0 : madeS 37 (dk d (2 * rgN 37 (c i) 0)) (dk d (2 * rgN 37 (c i) 1)) (dn d (2 * rgN 37 (c i) 0)) (di d (2 * rgN 37 (c i) 1)) (di d (2 * rgN 37 (c i) 2)) (dsc d (scN 37 (c i))) m E j = (0, if j % 2 = 0 then di d (2 * rgN 37 (c i) 1) (j / 2) else di d (2 * rgN 37 (c i) 2) (j / 2)) := rfl
        refine ⟨fun z => absurd rfl z, fun _ => ⟨fun z => take (j / 2) (by omega) rfl 0 (fun _ => ?_) (fun y => absurd rfl y), fun z => take (j / 2) (by omega) rfl (nI 1) (fun y => absurd y (by decide)) (fun _ => ⟨rfl, ?_⟩)⟩⟩
        · rw [e0, if_pos (by omega)]
        · rw [e0, if_neg (by omega)]
    · have hcs : o = 34 ∨ o = 35 ∨ o = 36 ∨ o = 37 := by omega
      have no : ∀ q, q < dn d (2 * rgN o (c i) 0) → srcS o j (dn d (2 * rgN o (c i) 0)) (dsc d (scN o (c i))) (di d (2 * rgN o (c i) 2)) = lN q → False := fun q hq e => hout (by
        rw [e]
        exact ⟨by rw [Int64.le_iff_toInt_le, l6_int (by omega)]; exact Int.natCast_nonneg q, (l6_lt (by omega) (by omega)).mpr hq⟩)
      rcases hcs with e | e | e | e
      · subst e
        have e0 : madeS 34 (dk d (2 * rgN 34 (c i) 0)) (dk d (2 * rgN 34 (c i) 1)) (dn d (2 * rgN 34 (c i) 0)) (di d (2 * rgN 34 (c i) 1)) (di d (2 * rgN 34 (c i) 2)) (dsc d (scN 34 (c i))) m E j = (4, 0) := by
          show iT (inS (di d (2 * rgN 34 (c i) 2) j) _) _ _ = _
          exact iT_f hout
        rw [e0] at h
        exact h M hW FrC.rf (fun z => absurd z (by decide))
      · subst e; exact (no _ (Nat.mod_lt _ (by omega)) rfl).elim
      · subst e; exact (no _ (show dn d (2 * rgN 36 (c i) 0) - 1 - j < _ by omega) rfl).elim
      · subst e; exact (no (j / 2) (by omega) rfl).elim
  · -- alone
    have hx1 := cnt (by omega)
    have hL := hX (by omega) j hj
    have hok := hF.x1 o46 hx1 hj
    have k1 : dk d (2 * rgN o (c i) 1) = dk d (2 * rgN o (c i) 0) := (hF.1 1 hx1).2.2.1 (by
      have : ∀ o ∈ List.range 46, 1 ≤ o ∧ o ≤ 16 → alB o 1 = true := by decide +kernel
      exact this o (List.mem_range.mpr o46) (by omega))
    rw [k1] at hL hok
    refine ⟨v1, v1, ?_⟩
    have hcs : o = 14 ∨ o = 15 ∨ o = 16 := by omega
    rcases hcs with e | e | e
    · subst e
      exact c_alone13 (o := 14) (Or.inl rfl) hW hk hok hL (fun M' a b e => rX13_laneMade_86_11 hc a (h M' a b e))
    · subst e
      exact c_alone13 (o := 15) (Or.inr rfl) hW hk hok hL (fun M' a b e => rX13_laneMade_86_11 hc a (h M' a b e))
    · subst e
      refine c_alone16 hW (hF.2.2.2.1 rfl) hok hL (fun M' a b e => rX13_laneMade_86_11 hc a (h M' a b e))
  · -- shifts
    have hx1 := cnt (by omega)
    have hL := hX (by omega) j hj
    have hok := hF.x1 o46 hx1 hj
    have k1 : dk d (2 * rgN o (c i) 1) = dk d (2 * rgN o (c i) 0) := (hF.1 1 hx1).2.2.1 (by
      have : ∀ o ∈ List.range 46, 1 ≤ o ∧ o ≤ 16 → alB o 1 = true := by decide +kernel
      exact this o (List.mem_range.mpr o46) (by omega))
    rw [k1] at hL hok
    have hr : ¬ isRk (dk d (2 * rgN o (c i) 0)) := hF.2.2.1 (Or.inl (by omega))
    have hu : usS o = true ∧ posS o = 2 := by
      have hcs : o = 11 ∨ o = 12 ∨ o = 13 := by omega
      rcases hcs with rfl | rfl | rfl <;> exact ⟨rfl, rfl⟩
    obtain ⟨q1, q2, q3⟩ := scOf2 (d := d) hC (by omega) (by rw [eo]; exact hu.1) (by rw [eo]; exact hu.2) hs
    rw [eo] at q3
    rw [q3]
    have em : madeS o (dk d (2 * rgN o (c i) 0)) (dk d (2 * rgN o (c i) 1)) (dn d (2 * rgN o (c i) 0)) (di d (2 * rgN o (c i) 1)) (di d (2 * rgN o (c i) 2)) (dsc d (scN o (c i))) m E j = (0, shS o (dk d (2 * rgN o (c i) 0)) (di d (2 * rgN o (c i) 1) j) (dsc d (scN o (c i)))) := by
      unfold madeS
      rw [if_neg (by omega), if_pos (by omega)]
    rw [em] at h
    exact ⟨v1, q1, q2, c_shift13 (by omega) hW hk hr hok (hL.w hr) (fun M' a b e => rX13_laneMade_54_14 hc a (h M' a b e))⟩
  · -- two operands
    have hx1 := cnt (by omega)
    have hx2 := cnt2 (by omega)
    have hL := hX (by omega) j hj
    have hL2 := hY (by omega) j hj
    have hok := hF.x1 o46 hx1 hj
    have hok2 := hF.x2 o46 hx2 hj
    have al : ∀ o ∈ List.range 46, 1 ≤ o ∧ o ≤ 10 → alB o 1 = true ∧ alB o 2 = true := by decide +kernel
    obtain ⟨al1, al2⟩ := al o (List.mem_range.mpr o46) (by omega)
    have k1 := (hF.1 1 hx1).2.2.1 al1
    have k2 := (hF.1 2 hx2).2.2.1 al2
    rw [k1] at hL hok
    rw [k2] at hL2 hok2
    have em : madeS o (dk d (2 * rgN o (c i) 0)) (dk d (2 * rgN o (c i) 1)) (dn d (2 * rgN o (c i) 0)) (di d (2 * rgN o (c i) 1)) (di d (2 * rgN o (c i) 2)) (dsc d (scN o (c i))) m E j = binS o (dk d (2 * rgN o (c i) 0)) (di d (2 * rgN o (c i) 1) j) (di d (2 * rgN o (c i) 2) j) := by
      unfold madeS
      rw [if_pos (by omega)]
      rfl
    rw [em] at h
    refine ⟨v1, v1, v1, v1, c_make13 hW hk hok hok2 hL hL2 (by omega) (fun z => ?_) (fun M' a b e => rX13_laneMade_15_19 hc a (h M' a b e))⟩
    rcases Nat.lt_or_ge o 8 with q | q
    · omega
    · exact absurd z (hF.2.2.1 (Or.inl (by omega)))
end
end RMADE
