section RDOES
section
variable {M M' : Mem} {K : RT} {n i : Nat} {c : Nat → Nat → Int64}
theorem kn_of {d : DS} (hd : WD d) {j : Nat} (hj : j < 16) : ∃ κ, κ ≤ 7 ∧ dk d j = kI κ := by
  rcases (hd.1 j hj).1 with ⟨z, -⟩ | ⟨z, -⟩
  · exact ⟨7, by omega, z⟩
  · rcases z with z | z | z | z | z | z | z
    · exact ⟨0, by omega, z⟩
    · exact ⟨1, by omega, z⟩
    · exact ⟨2, by omega, z⟩
    · exact ⟨3, by omega, z⟩
    · exact ⟨4, by omega, z⟩
    · exact ⟨5, by omega, z⟩
    · exact ⟨6, by omega, z⟩
theorem dn_le {d : DS} (hd : WD d) {j : Nat} (hj : j < 16) : dn d j ≤ 64 := by
  rcases (hd.1 j hj).1 with z | z
  · omega
  · exact z.2.1
theorem jd_cd (x0 x1 x2 x3 x4 x5 x6 : Int32) : jdI x0 x1 x2 x3 x4 x5 x6 = 0 ∨ 0 < jdI x0 x1 x2 x3 x4 x5 x6 := by
  unfold jdI
  by_cases z : gdP x0 x1 0 x1 ∧ gdP x0 x1 1 x3 ∧ gdP x0 x1 2 x5
  · rw [iT_t z]
    split
    · exact Or.inl rfl
    · exact Or.inr (by decide)
  · rw [iT_f z]; exact Or.inr (by decide)
noncomputable def mfK (o : Nat) (r : Nat → Int64) (d : DS) : Int32 := mfR o (fun j => dk d (2 * rgN o r j)) (fun j => decide (dn d (2 * rgN o r j) = dn d (2 * rgN o r 0))) (opL o).length 0 (-1) 0 false
theorem jn_one {d : DS} {v v0 : Nat} {A B B0 : Int32} (hd : WD d) (h8 : v < 8) (h80 : v0 < 8) (a : A = dk d (2 * v)) (b : B = nI (dn d (2 * v))) (b0 : B0 = nI (dn d (2 * v0))) : ∃ κ, κ ≤ 7 ∧ A = kI κ ∧ dk d (2 * v) = kI κ ∧ (B = B0 ↔ decide (dn d (2 * v) = dn d (2 * v0)) = true) := by
  obtain ⟨κ, w1, w2⟩ := kn_of hd (j := 2 * v) (by omega)
  have n1 := dn_le hd (j := 2 * v) (by omega)
  have n2 := dn_le hd (j := 2 * v0) (by omega)
  refine ⟨κ, w1, a.trans w2, w2, ?_⟩
  rw [b, b0, nI_eq (by omega) (by omega), decide_eq_true_iff]
theorem jn_val {o : Nat} {r : Nat → Int64} {d : DS} {A0 A1 A2 B0 B1 B2 : Int32} (o46 : o < 46) (nz : o ≠ 0) (hd : WD d) (h8 : ∀ k, k < 3 → k < cntR o 4 → rgN o r k < 8) (e0 : A0 = dk d (2 * rgN o r 0) ∧ B0 = nI (dn d (2 * rgN o r 0))) (e1 : 1 < cntR o 4 → A1 = dk d (2 * rgN o r 1) ∧ B1 = nI (dn d (2 * rgN o r 1))) (e1' : ¬ 1 < cntR o 4 → A1 = -2) (e2 : 2 < cntR o 4 → A2 = dk d (2 * rgN o r 2) ∧ B2 = nI (dn d (2 * rgN o r 2))) (e2' : ¬ 2 < cntR o 4 → A2 = -2) : jdI (nI o) A0 B0 A1 B1 A2 B2 = mfK o r d := by
  obtain ⟨c3, cl, cp, cz⟩ := cntR3 o (List.mem_range.mpr o46)
  have c0 := cz nz
  have r0 := h8 0 (by omega) c0
  obtain ⟨k0, a1, a2, a3, a4⟩ := jn_one hd r0 r0 e0.1 e0.2 e0.2
  have s1 : ∃ k1, A1 = kI k1 ∧ (1 < cntR o 4 → dk d (2 * rgN o r 1) = kI k1 ∧ k1 ≤ 7 ∧ (B1 = B0 ↔ decide (dn d (2 * rgN o r 1) = dn d (2 * rgN o r 0)) = true)) ∧ (¬ 1 < cntR o 4 → k1 = 8) := by
    by_cases z : 1 < cntR o 4
    · obtain ⟨k, b1, b2, b3, b4⟩ := jn_one hd (h8 1 (by omega) z) r0 (e1 z).1 (e1 z).2 e0.2
      exact ⟨k, b2, fun _ => ⟨b3, b1, b4⟩, fun y => absurd z y⟩
    · exact ⟨8, e1' z, fun y => absurd y z, fun _ => rfl⟩
  have s2 : ∃ k2, A2 = kI k2 ∧ (2 < cntR o 4 → dk d (2 * rgN o r 2) = kI k2 ∧ k2 ≤ 7 ∧ (B2 = B0 ↔ decide (dn d (2 * rgN o r 2) = dn d (2 * rgN o r 0)) = true)) ∧ (¬ 2 < cntR o 4 → k2 = 8) := by
    by_cases z : 2 < cntR o 4
    · obtain ⟨k, b1, b2, b3, b4⟩ := jn_one hd (h8 2 (by omega) z) r0 (e2 z).1 (e2 z).2 e0.2
      exact ⟨k, b2, fun _ => ⟨b3, b1, b4⟩, fun y => absurd z y⟩
    · exact ⟨8, e2' z, fun y => absurd y z, fun _ => rfl⟩
  obtain ⟨k1, f1, f2⟩ := s1
  obtain ⟨k2, g1, g2⟩ := s2
  rw [a2, f1, g1]
  unfold mfK
  exact jd_mf (kd := fun j => dk d (2 * rgN o r j)) (eqL := fun j => decide (dn d (2 * rgN o r j) = dn d (2 * rgN o r 0))) o46 nz ⟨a3, a1⟩ f2 g2 (decide_eq_true rfl)
theorem c_judgedNow13 {d : DS} {o : Nat} (hW : Wf M) (hC : RC M n c i) (eo : cn (c i) 0 = o) (hd : WD d) (hk6 : ∀ v, v < 8 → gI M 624 v = dk d (2 * v) ∧ gI M 625 v = nI (dn d (2 * v))) (h : ∀ y, (y = 0 ∨ 0 < y) → y = (if o = 0 ∨ 46 ≤ o then 0 else mfK o (c i) d) → K (some (.int y)) M) : sp_X13_judgedNow [.ref 605, .int (nI i)] M K := by
  obtain ⟨o1, o2, o3⟩ := opI hC
  refine wX13_judgedNow hW (fun {G} hc => c_regOf (k := 0) hW hC (by decide) (rX13_judgedNow_0_3 hc hW (c_regOf (k := 1) hW hC (by decide) (rX13_judgedNow_0_8 hc hW (c_regOf (k := 2) hW hC (by decide) (rX13_judgedNow_0_13 hc hW ?_))))))
  rw [o2, eo]
  have hv : VC o (c i) := by have := hC.2.2.2.2.vc; rw [eo] at this; exact this
  have o68 : o < 68 := by rw [← eo]; exact o3
  have n0 : nI o = 0 ↔ o = 0 := nI_eq (b := 0) (by omega) (by decide)
  rw [n0]
  have reg : ∀ k, k < 3 → q_X13_kindAt (regI o (c i) k) M ∧ q_X13_lengthAt (regI o (c i) k) M ∧ (o < 46 ∧ k < cntR o 4 → f_X13_kindAt (regI o (c i) k) M = dk d (2 * rgN o (c i) k) ∧ f_X13_lengthAt (regI o (c i) k) M = nI (dn d (2 * rgN o (c i) k)) ∧ rgN o (c i) k < 8) ∧ (¬ (o < 46 ∧ k < cntR o 4) → f_X13_kindAt (regI o (c i) k) M = -2 ∧ f_X13_lengthAt (regI o (c i) k) M = 0) := by
    intro k hk
    unfold q_X13_kindAt q_X13_lengthAt f_X13_kindAt f_X13_lengthAt regI
    by_cases z : o < 46 ∧ k < cntR o 4
    · obtain ⟨r1, -⟩ := rg_is z.1 hv z.2
      have ge : (0 : Int32) ≤ nI (rgN o (c i) k) := (nI_leI (a := 0) (by decide) (by omega)).mpr (Nat.zero_le _)
      rw [if_pos z, if_pos ge, if_pos ge, nI_clamp (by omega), (hk6 _ r1).1, (hk6 _ r1).2]
      exact ⟨fun _ => vpN r1 (by decide), fun _ => vpN r1 (by decide), fun _ => ⟨rfl, rfl, r1⟩, fun y => absurd z y⟩
    · rw [if_neg z, if_neg (by decide), if_neg (by decide)]
      exact ⟨fun y => absurd y (by decide), fun y => absurd y (by decide), fun y => absurd y z, fun _ => ⟨rfl, rfl⟩⟩
  obtain ⟨a0, b0, c0, d0⟩ := reg 0 (by omega)
  obtain ⟨a1, b1, c1, d1⟩ := reg 1 (by omega)
  obtain ⟨a2, b2, c2, d2⟩ := reg 2 (by omega)
  refine ⟨o1, fun nz => ⟨o1, a0, b0, a1, b1, a2, b2, c_judged13 hW (rX13_judgedNow_35_22 hc hW ?_)⟩, fun z => h 0 (Or.inl rfl) (if_pos (Or.inl z)).symm⟩
  refine h _ (jd_cd ..) ?_
  rcases Nat.lt_or_ge o 46 with o46 | o46
  · rw [if_neg (by omega)]
    obtain ⟨c3, cl, cp, cz⟩ := cntR3 o (List.mem_range.mpr o46)
    refine jn_val o46 nz hd (fun k hk z => ((reg k hk).2.2.1 ⟨o46, z⟩).2.2) ⟨(c0 ⟨o46, cz nz⟩).1, (c0 ⟨o46, cz nz⟩).2.1⟩ (fun z => ⟨(c1 ⟨o46, z⟩).1, (c1 ⟨o46, z⟩).2.1⟩) (fun z => (d1 (fun w => z w.2)).1) (fun z => ⟨(c2 ⟨o46, z⟩).1, (c2 ⟨o46, z⟩).2.1⟩) (fun z => (d2 (fun w => z w.2)).1)
  · rw [if_pos (Or.inr o46), (d0 (by omega)).1, (d0 (by omega)).2, (d1 (by omega)).1, (d1 (by omega)).2, (d2 (by omega)).1, (d2 (by omega)).2]
    exact jd_none ⟨o46, o68⟩
/-- what an instruction that does not lead elsewhere does -/
noncomputable def insX (o : Nat) (r : Nat → Int64) (d : DS) : Int32 × Int32 × Nat × DS := if o < 46 then insD o r d else if o < 53 then (0, -1, 0, maD o r d) else ((scD o r d).1, -1, 0, (scD o r d).2)
def rDoS (a j : Nat) : Prop := rinS a j ∨ rJmpS a j ∨ (a = 605 ∧ j = 70)
def doC (M : Mem) (K : RT) (r : Int32 × Int32 × Nat × DS) : Prop := ∀ M', Wf M' → FrC (fun a j => rinS a j ∨ (a = 605 ∧ j = 70)) M M' → RDc M' r.2.2.2 → (r.1 = 0 → gI M' 605 69 = nI r.2.2.1 ∧ gI M' 605 50 = gI M 605 50) → (r.1 ≠ 0 → gI M' 605 50 = r.2.1) → K (some (.int r.1)) M'
theorem in_tab : ∀ o ∈ List.range 68, (P_X13_in ((nI o).toInt64) 26 29 ↔ 26 ≤ o ∧ o ≤ 29) ∧ (P_X13_in ((nI o).toInt64) 30 31 ↔ 30 ≤ o ∧ o ≤ 31) ∧ (P_X13_in ((nI o).toInt64) 34 37 ↔ 34 ≤ o ∧ o ≤ 37) ∧ (P_X13_in ((nI o).toInt64) 17 22 ↔ 17 ≤ o ∧ o ≤ 22) ∧ (P_X13_in ((nI o).toInt64) 41 43 ↔ 41 ≤ o ∧ o ≤ 43) := by unfold P_X13_in; decide +kernel
theorem c_does13 {x : ES} {o : Nat} (hW : Wf M) (hC : RC M n c i) (eo : cn (c i) 0 = o) (hd : WD (eD x)) (hi : i = ePc x) (hD : RDc M (eD x)) (h44 : gI M 605 44 = nI (eK x)) (hK : eK x ≤ 16) (hcf : ∀ j, j < eK x → gI M 632 j = nI (eCf x j))
    (h1 : o < 59 → doC M K (insX o (c i) (eD x)))
    (h2 : 59 ≤ o → ∀ M1, Wf M1 → FrC (fun a j => a = 605 ∧ (j = 69 ∨ j = 70)) M M1 → gI M1 605 69 = 0 → jmpC M1 K x (leX o (c i) x)) : sp_X13_does [.ref 605, .int (nI i)] M K := by
  obtain ⟨o1, o2, o3⟩ := opI hC
  have o68 : o < 68 := by rw [← eo]; exact o3
  obtain ⟨m1, m2, m3⟩ := mask_is hC
  have hv : VC o (c i) := by have := hC.2.2.2.2.vc; rw [eo] at this; exact this
  refine wX13_does hW (fun {G} hc => ?_)
  -- with the old mask
  have go : ∀ s1 : Int32, s1 = olR (c i) (eD x) → G 30 [some (.ref 605), some (.int (nI i)), none, none] [.int s1, .ref 605] (uI M 605 69 0) := by
    intro s1 es
    have f2 : FrC (fun a j => a = 605 ∧ (j = 69 ∨ j = 70)) M (uI (uI M 605 69 0) 605 70 s1) := (FrC_uI ⟨rfl, Or.inl rfl⟩).tr (FrC_uI ⟨rfl, Or.inr rfl⟩)
    have f2' : FrC (fun a j => rinS a j ∨ (a = 605 ∧ j = 70)) M (uI (uI M 605 69 0) 605 70 s1) := f2.mono (fun a j z => by unfold rinS; omega)
    refine eX13_does_30 hc (((FrC_uI (S := fun a j => a = 605) rfl)).wf hW) ?_
    have hCm := hC.fr f2 (fun a j z => by unfold prS; omega)
    have hDm : RDc (uI (uI M 605 69 0) 605 70 s1) (eD x) := RDc.same f2 (fun a j z => by omega) hD
    have h69 : gI (uI (uI M 605 69 0) 605 70 s1) 605 69 = 0 := by rw [gI_uI, if_neg (by decide), gI_uI, if_pos ⟨rfl, rfl⟩]
    have h70 : gI (uI (uI M 605 69 0) 605 70 s1) 605 70 = olR (c i) (eD x) := by rw [gI_uI, if_pos ⟨rfl, rfl⟩]; exact es
    have h50 : gI (uI (uI M 605 69 0) 605 70 s1) 605 50 = gI M 605 50 := by rw [gI_uI, if_neg (by decide), gI_uI, if_neg (by decide)]
    have h44m : gI (uI (uI M 605 69 0) 605 70 s1) 605 44 = nI (eK x) := by rw [gI_uI, if_neg (by decide), gI_uI, if_neg (by decide)]; exact h44
    have hcfm : ∀ j, j < eK x → gI (uI (uI M 605 69 0) 605 70 s1) 632 j = nI (eCf x j) := fun j hj => by rw [gI_uI, if_neg (by omega), gI_uI, if_neg (by omega)]; exact hcf j hj
    have hW2 := f2.wf hW
    have h2 := fun z => h2 z _ hW2 f2 h69
    generalize uI (uI M 605 69 0) 605 70 s1 = M2 at *
    have k6 : ∀ v, v < 8 → gI M2 624 v = dk (eD x) (2 * v) ∧ gI M2 625 v = nI (dn (eD x) (2 * v)) := fun v hv => ⟨(hDm.1 v hv).1, (hDm.1 v hv).2.1⟩
    -- the ways on
    have on : ∀ {K' : RT} {r : Int32 × Int32 × Nat × DS}, doC M K r → (∀ v M', Wf M' → K (some (.int v)) M' → K' (some (.int v)) M') → rinC M2 K' r := fun {K' r} hr hk M' a b e f g => hk _ M' a (hr M' a (f2'.tr (b.mono (fun a j z => Or.inl z))) e (fun z => by
      obtain ⟨u1, u2⟩ := f z
      rw [h50] at u2
      exact ⟨u1, u2⟩) g)
    refine c_judgedNow13 hW2 hCm eo hd k6 (fun y hy ey => rX13_does_30_3 hc hW2 ?_)
    obtain ⟨o1m, o2m, -⟩ := opI hCm
    obtain ⟨t1, t2, t3, t4, t5⟩ := in_tab o (List.mem_range.mpr o68)
    rw [o2m, eo, t1, t2, t3, t4, t5]
    refine ⟨fun le => ⟨o1m, ?_⟩, fun gt => ?_⟩
    · have y0 : y = 0 := cd_le hy le
      rw [y0] at ey
      have n0 : nI o = 0 ↔ o = 0 := nI_eq (b := 0) (by omega) (by decide)
      rw [n0, show (44 : Int32) = nI 44 from rfl, show (45 : Int32) = nI 45 from rfl, show (53 : Int32) = nI 53 from rfl, show (59 : Int32) = nI 59 from rfl, show (17 : Int32) = nI 17 from rfl, show (24 : Int32) = nI 24 from rfl, show (25 : Int32) = nI 25 from rfl, nI_leI (by omega) (by omega), nI_ltI (by omega) (by omega), nI_leI (by omega) (by omega), nI_leI (by omega) (by omega), nI_ltI (by omega) (by omega), nI_eq (by omega) (by omega), nI_eq (by omega) (by omega)]
      -- fits, but for arrays
      have mf0 : o < 46 → o ≠ 0 → mfD o (c i) (eD x) = mfA o (dk (eD x) (2 * rgN o (c i) 0)) (dk (eD x) (2 * arN (c i) + 1)) := fun z1 z2 => by
        rw [if_neg (by omega)] at ey
        unfold mfD mfS
        rw [if_neg z2]
        have ey : mfR o (fun j => dk (eD x) (2 * rgN o (c i) j)) (fun j => decide (dn (eD x) (2 * rgN o (c i) j) = dn (eD x) (2 * rgN o (c i) 0))) (opL o).length 0 (-1) 0 false = 0 := ey.symm
        rw [if_pos ey]
      have fit : o < 46 → o ≠ 0 → ¬ (26 ≤ o ∧ o ≤ 29) → FIT o (c i) (eD x) ∧ insX o (c i) (eD x) = insG o (c i) (eD x) := fun z1 z2 z3 => by
        have e0 : mfD o (c i) (eD x) = 0 := by
          rw [mf0 z1 z2]
          unfold mfA
          rw [if_neg z3]
        refine ⟨fit_of z1 z2 hv hd e0, ?_⟩
        unfold insX insD
        rw [if_pos z1, if_pos e0]
      refine ⟨fun nz => ⟨fun n26 => ⟨fun g44 => ⟨fun g45 => ⟨fun g53 => ⟨fun g59 => ?_, fun l59 => ?_⟩, fun l53 => ?_⟩, fun l45 => ?_⟩, fun l44 => ⟨fun l17 => ?_, fun g17 => ⟨fun e24 => ?_, fun n24 => ⟨fun e25 => ?_, fun n25 => ⟨fun e30 => ?_, fun n30 => ⟨fun n34 => ⟨fun n17 => ⟨fun n41 => ?_, fun e41 => ?_⟩, fun e17 => ?_⟩, fun e34 => ?_⟩⟩⟩⟩⟩⟩, fun e26 => ?_⟩, fun z => ?_⟩
      · exact c_jumps13 hW2 hCm eo ⟨g59, o68⟩ hi hDm h44m hK hcfm (fun M' a b e f g => rX13_does_240_2 hc a (h2 g59 M' a b e f g))
      · have hx : insX o (c i) (eD x) = ((scD o (c i) (eD x)).1, -1, 0, (scD o (c i) (eD x)).2) := by unfold insX; rw [if_neg (by omega), if_neg (by omega)]
        have h1 := h1 (by omega)
        rw [hx] at h1
        exact c_scal13 hW2 hCm eo ⟨g53, by omega⟩ hDm h69 (on h1 (fun v M' a k => rX13_does_232_2 hc a k))
      · have hx : insX o (c i) (eD x) = (0, -1, 0, maD o (c i) (eD x)) := by unfold insX; rw [if_neg (by omega), if_pos (by omega)]
        have h1 := h1 (by omega)
        rw [hx] at h1
        exact c_mask13 hW2 hCm eo ⟨by omega, by omega⟩ hDm h69 (on h1 (fun v M' a k => rX13_does_218_2 hc a k))
      · obtain ⟨hF, hx⟩ := fit (by omega) nz n26
        have h1 := h1 (by omega)
        rw [hx] at h1
        exact c_lane13 hW2 hCm eo (by omega) hF hd hDm h69 (on h1 (fun v M' a k => rX13_does_204_2 hc a k))
      · obtain ⟨hF, hx⟩ := fit (by omega) nz n26
        have h1 := h1 (by omega)
        rw [hx] at h1
        exact c_byLanes13 hW2 hCm eo (by unfold BYL; omega) hF hd hDm h70 h69 (on h1 (fun v M' a k => rX13_does_140_2 hc a k))
      · obtain ⟨hF, hx⟩ := fit (by omega) nz n26
        have h1 := h1 (by omega)
        rw [hx] at h1
        exact c_byLanes13 hW2 hCm eo (by unfold BYL; omega) hF hd hDm h70 h69 (on h1 (fun v M' a k => rX13_does_140_2 hc a k))
      · obtain ⟨hF, hx⟩ := fit (by omega) nz n26
        have h1 := h1 (by omega)
        rw [hx] at h1
        exact c_byLanes13 hW2 hCm eo (by unfold BYL; omega) hF hd hDm h70 h69 (on h1 (fun v M' a k => rX13_does_140_2 hc a k))
      · obtain ⟨hF, hx⟩ := fit (by omega) nz n26
        have h1 := h1 (by omega)
        rw [hx] at h1
        exact c_byLanes13 hW2 hCm eo (by unfold BYL; omega) hF hd hDm h70 h69 (on h1 (fun v M' a k => rX13_does_140_2 hc a k))
      · obtain ⟨hF, hx⟩ := fit (by omega) nz n26
        have h1 := h1 (by omega)
        rw [hx] at h1
        exact c_moves13 hW2 hCm eo (by unfold MV; omega) hF hd hDm h70 h69 (on h1 (fun v M' a k => rX13_does_192_2 hc a k))
      · obtain ⟨hF, hx⟩ := fit (by omega) nz n26
        have h1 := h1 (by omega)
        rw [hx] at h1
        exact c_folds13 hW2 hCm eo e41 hF hDm h70 h69 (on h1 (fun v M' a k => rX13_does_184_2 hc a k))
      · obtain ⟨hF, hx⟩ := fit (by omega) nz n26
        have h1 := h1 (by omega)
        rw [hx] at h1
        exact c_compares13 hW2 hCm eo e17 hF hDm h70 h69 (on h1 (fun v M' a k => rX13_does_162_2 hc a k))
      · obtain ⟨hF, hx⟩ := fit (by omega) nz n26
        have h1 := h1 (by omega)
        rw [hx] at h1
        exact c_byLanes13 hW2 hCm eo (by unfold BYL; omega) hF hd hDm h70 h69 (on h1 (fun v M' a k => rX13_does_140_2 hc a k))
      · have em := mf0 (by omega) nz
        have hx : insX o (c i) (eD x) = (if mfA o (dk (eD x) (2 * rgN o (c i) 0)) (dk (eD x) (2 * arN (c i) + 1)) = 0 then insG o (c i) (eD x) else (mfA o (dk (eD x) (2 * rgN o (c i) 0)) (dk (eD x) (2 * arN (c i) + 1)), -1, 0, eD x)) := by
          unfold insX insD
          rw [if_pos (by omega), em]
        have h1 := h1 (by omega)
        rw [hx] at h1
        exact c_mem13 hW2 hCm eo e26 (fun z => fit_of (by omega) nz hv hd (by rw [em]; exact z)) hd hDm h70 h69 (on h1 (fun v M' a k => rX13_does_82_2 hc a k))
      · subst z
        have hx : insX 0 (c i) (eD x) = insG 0 (c i) (eD x) := rfl
        have h1 := h1 (by omega)
        rw [hx] at h1
        refine c_set13 hW2 hCm eo hd hDm (fun M' a b e f g => rX13_does_61_2 hc a ?_)
        have hh : rinC M2 K (insG 0 (c i) (eD x)) := on h1 (fun v M' a k => k)
        exact hh M' a b e f g
    · -- a misfit
      have yn : y ≠ 0 := fun z => gt (by rw [z]; decide)
      have oc : ¬ (o = 0 ∨ 46 ≤ o) := fun z => yn (by rw [ey, if_pos z])
      rw [if_neg oc] at ey
      have hx : insX o (c i) (eD x) = (y, -1, 0, eD x) := by
        have e1 : mfD o (c i) (eD x) = y := by
          unfold mfD mfS
          rw [if_neg (by omega)]
          have ey : y = mfR o (fun j => dk (eD x) (2 * rgN o (c i) j)) (fun j => decide (dn (eD x) (2 * rgN o (c i) j) = dn (eD x) (2 * rgN o (c i) 0))) (opL o).length 0 (-1) 0 false := ey
          rw [← ey, if_neg yn]
        unfold insX insD
        rw [if_pos (by omega), e1, if_neg yn]
      have h1 := h1 (by omega)
      rw [hx] at h1
      unfold m_X13_failed
      have f3 : FrC (fun a j => rinS a j ∨ (a = 605 ∧ j = 70)) M (uI M2 605 50 (-1)) := f2'.tr (FrC_uI (Or.inl (by unfold rinS; omega)))
      exact h1 _ (f3.wf hW) f3 (RDc.same (S := fun a j => a = 605) (FrC_uI rfl) (fun a j z => by omega) hDm) (fun z => absurd z yn) (fun _ => by rw [gI_uI, if_pos ⟨rfl, rfl⟩])
  have hge : ∀ z : Int32, 0 ≤ z ↔ ¬ z < 0 := fun z => by rw [i32_lt0]; exact Classical.not_not.symm
  rw [hge, m2]
  refine ⟨m1, fun z => ?_, fun z => go _ (by unfold olR; rw [if_pos (Classical.not_not.mp z)])⟩
  obtain ⟨u1, u2⟩ := m3 z
  rw [u2, nI_clamp (by omega), hD.2.2.1 _ u1]
  exact ⟨m1, vpN u1 (by decide), go _ (by unfold olR; rw [if_neg z])⟩
end
end RDOES
