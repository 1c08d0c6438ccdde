section RCMP
section
variable {M M' : Mem} {K : RT} {n i : Nat} {c : Nat → Nat → Int64}
def soP (o : Nat) (x y : Int64) : Prop := if o = 17 then x = y else if o = 18 then ¬ x = y else if o = 19 then x < y else if o = 20 then x < y ∨ x = y else if o = 21 then ¬ x < y ∧ ¬ x = y else ¬ x < y
theorem so_is {o : Nat} (ho : 17 ≤ o ∧ o ≤ 22) {x y : Int64} : P_X2_isSo (100000 + o) x y ↔ soP o x y := by
  have t1 : ¬ y ≤ x ↔ x < y := (i64_lt x y).symm
  have t2 : ¬ y < x ↔ (x < y ∨ x = y) := by
    rw [i64_lt y x, Classical.not_not, Int64.le_iff_toInt_le, Int64.lt_iff_toInt_lt, ← Int64.toInt_inj]; omega
  have t3 : ¬ x ≤ y ↔ (¬ x < y ∧ ¬ x = y) := by
    rw [Int64.le_iff_toInt_le, Int64.lt_iff_toInt_lt, ← Int64.toInt_inj]; omega
  have hcs : o = 17 ∨ o = 18 ∨ o = 19 ∨ o = 20 ∨ o = 21 ∨ o = 22 := by omega
  unfold P_X2_isSo soP
  rcases hcs with rfl | rfl | rfl | rfl | rfl | rfl
  · rw [show Int32.ofNat (swT.getD (100000 + 17 - 100000) 0) = 40 from by decide +kernel]; simp (decide := true)
  · rw [show Int32.ofNat (swT.getD (100000 + 18 - 100000) 0) = 41 from by decide +kernel]; simp (decide := true)
  · rw [show Int32.ofNat (swT.getD (100000 + 19 - 100000) 0) = 42 from by decide +kernel, t1]; simp (decide := true)
  · rw [show Int32.ofNat (swT.getD (100000 + 20 - 100000) 0) = 43 from by decide +kernel, t2]; simp (decide := true)
  · rw [show Int32.ofNat (swT.getD (100000 + 21 - 100000) 0) = 44 from by decide +kernel, t3]; simp (decide := true)
  · rw [show Int32.ofNat (swT.getD (100000 + 22 - 100000) 0) = 45 from by decide +kernel]; simp (decide := true)
theorem valK {k : Int32} (h : isK k) (hr : ¬ isRk k) (x : Int64) : f_X3_value k x = x := by
  unfold f_X3_value
  exact iT_f (fun z => hr ((isK_real h).mp z))
theorem val_pI {k : Int32} (hr : isRk k) {s t : Bool} {n m : Nat} (hn : n < iN k) (hm : m < iN k) : (f_X3_value k (bk k s n) < f_X3_value k (bk k t m) ↔ pI_ s n < pI_ t m) ∧ (f_X3_value k (bk k s n) = f_X3_value k (bk k t m) ↔ pI_ s n = pI_ t m) := by
  have h1 := lt63 hr (Nat.le_of_lt hn)
  have h2 := lt63 hr (Nat.le_of_lt hm)
  rw [val_bk hr (Nat.le_of_lt hn), val_bk hr (Nat.le_of_lt hm), Int64.lt_iff_toInt_lt, ← Int64.toInt_inj, lI_toInt (by cases s <;> simp <;> omega) (by cases s <;> simp <;> omega), lI_toInt (by cases t <;> simp <;> omega) (by cases t <;> simp <;> omega)]
  exact ⟨Iff.rfl, Iff.rfl⟩
theorem c_isSo13 {o p q : Nat} {k : Int32} {b b' : Int64} (hW : Wf M) (ho : 17 ≤ o ∧ o ≤ 22) (hk : isK k) (hb : okJ k b) (hb' : okJ k b') (hp : p < 768) (hq : q < 768) (hv : VR k (gL M 626 p) (gD M 627 p) b) (hv' : VR k (gL M 626 q) (gD M 627 q) b') (h : K (some (.int (pI (P_X2_isSo (100000 + o) (f_X3_value k b) (f_X3_value k b'))))) M) : sp_X13_isSo [.ref 605, .int (nI o), .int k, .int (nI p), .int (nI q)] M K := by
  rw [show P_X2_isSo (100000 + o) (f_X3_value k b) (f_X3_value k b') = soP o (f_X3_value k b) (f_X3_value k b') from propext (so_is ho)] at h
  have vp : vp_in (nI p) 768 := vpN hp (by decide)
  have vq : vp_in (nI q) 768 := vpN hq (by decide)
  have ep : (nI p).toNatClampNeg = p := nI_clamp (by omega)
  have eq : (nI q).toNatClampNeg = q := nI_clamp (by omega)
  refine wX13_isSo hW (fun {G} hc => ?_)
  rw [ep, eq]
  -- the end
  have last : ∀ s0 s1 : Int32, s0 = pI (f_X3_value k b < f_X3_value k b') → s1 = pI (f_X3_value k b = f_X3_value k b') → G 110 [some (.ref 605), some (.int (nI o)), some (.int k), some (.int (nI p)), some (.int (nI q)), some (.int s0), none] [.int s1] M := by
    intro s0 s1 e0 e1
    generalize f_X3_value k b = x at *
    generalize f_X3_value k b' = y at *
    refine eX13_isSo_110 hc hW ?_
    have t : ∀ P : Prop, (pI P = 0 ↔ ¬ P) := fun P => ⟨fun z y => by rw [pI_t y] at z; exact absurd z (by decide), pI_f⟩
    rw [e0, e1, t, t]
    have b01 : ∀ P : Prop, ¬ P ∨ pI P = 1 := fun P => by
      by_cases z : P
      · exact Or.inr (pI_t z)
      · exact Or.inl z
    have fin : ∀ P : Prop, (soP o x y ↔ P) → ∀ v : Int32, (P → v = 1) → (¬ P → v = 0) → K (some (.int v)) M := fun P hP v h1 h0 => by
      by_cases z : P
      · rw [pI_t (hP.mpr z)] at h; rw [h1 z]; exact h
      · rw [pI_f (fun y => z (hP.mp y))] at h; rw [h0 z]; exact h
    unfold soP at fin
    have hcs : o = 17 ∨ o = 18 ∨ o = 19 ∨ o = 20 ∨ o = 21 ∨ o = 22 := by omega
    rcases hcs with rfl | rfl | rfl | rfl | rfl | rfl
    · exact ⟨fun a => absurd rfl a, fun _ => ⟨b01 _, fin (x = y) Iff.rfl _ (fun z => pI_t z) (fun z => pI_f z)⟩⟩
    · exact ⟨fun _ => ⟨fun a => absurd rfl a, fun _ => ⟨fun z => fin (¬ x = y) Iff.rfl _ (fun y => absurd (Classical.not_not.mp z) y) (fun _ => rfl), fun z => fin (¬ x = y) Iff.rfl _ (fun _ => rfl) (fun y => absurd z y)⟩⟩, fun a => absurd a (by decide)⟩
    · exact ⟨fun _ => ⟨fun _ => ⟨fun a => absurd rfl a, fun _ => ⟨b01 _, fin (x < y) Iff.rfl _ (fun z => pI_t z) (fun z => pI_f z)⟩⟩, fun a => absurd a (by decide)⟩, fun a => absurd a (by decide)⟩
    · exact ⟨fun _ => ⟨fun _ => ⟨fun _ => ⟨fun a => absurd rfl a, fun _ => ⟨fun z => fin (x < y ∨ x = y) Iff.rfl _ (fun _ => rfl) (fun y => absurd (Or.inl (Classical.not_not.mp z)) y), fun z => ⟨fun w => fin (x < y ∨ x = y) Iff.rfl _ (fun u => (u.elim z w).elim) (fun _ => rfl), fun w => fin (x < y ∨ x = y) Iff.rfl _ (fun _ => rfl) (fun u => absurd (Or.inr (Classical.not_not.mp w)) u)⟩⟩⟩, fun a => absurd a (by decide)⟩, fun a => absurd a (by decide)⟩, fun a => absurd a (by decide)⟩
    · exact ⟨fun _ => ⟨fun _ => ⟨fun _ => ⟨fun _ => ⟨fun a => absurd rfl a, fun _ => ⟨fun z => fin (¬ x < y ∧ ¬ x = y) Iff.rfl _ (fun u => absurd u.1 z) (fun _ => rfl), fun z => ⟨fun w => fin (¬ x < y ∧ ¬ x = y) Iff.rfl _ (fun u => absurd u.2 w) (fun _ => rfl), fun w => fin (¬ x < y ∧ ¬ x = y) Iff.rfl _ (fun _ => rfl) (fun u => absurd ⟨z, w⟩ u)⟩⟩⟩, fun a => absurd a (by decide)⟩, fun a => absurd a (by decide)⟩, fun a => absurd a (by decide)⟩, fun a => absurd a (by decide)⟩
    · exact ⟨fun _ => ⟨fun _ => ⟨fun _ => ⟨fun _ => ⟨fun _ => ⟨fun z => fin (¬ x < y) Iff.rfl _ (fun u => absurd u z) (fun _ => rfl), fun z => fin (¬ x < y) Iff.rfl _ (fun _ => rfl) (fun u => absurd z u)⟩, fun a => absurd a (by decide)⟩, fun a => absurd a (by decide)⟩, fun a => absurd a (by decide)⟩, fun a => absurd a (by decide)⟩, fun a => absurd a (by decide)⟩
  by_cases hr : isRk k
  · have r := (isReal_P hk).mpr hr
    rw [hv.r hr, hv'.r hr]
    obtain ⟨s, n, hn, rfl⟩ := fin_bk (hb.1 hr)
    obtain ⟨t, m, hm, rfl⟩ := fin_bk (hb'.1 hr)
    obtain ⟨u1, u2⟩ := val_pI hr hn hm (s := s) (t := t)
    have mid : ∀ s0 : Int32, s0 = pI (f_X3_value k (bk k s n) < f_X3_value k (bk k t m)) → G 54 [some (.ref 605), some (.int (nI o)), some (.int k), some (.int (nI p)), some (.int (nI q)), none, none] [.int s0] M := by
      intro s0 e0
      refine eX13_isSo_54 hc hW ⟨fun z => absurd r z, fun _ => ⟨by rw [ep] at *; exact vp, vq, ?_⟩⟩
      rw [ep, eq, hv.r hr, hv'.r hr, xcmp hr hn hm, cv_eq, vI_eq hr]
      exact ⟨fun z => last s0 0 e0 (pI_f (fun y => z (u2.mp y))).symm, fun z => last s0 1 e0 (pI_t (u2.mpr z)).symm⟩
    refine ⟨fun z => absurd r z, fun _ => ⟨vp, vq, ?_⟩⟩
    rw [xcmp hr hn hm, cv_ge, vI_le hr]
    exact ⟨fun z => mid 0 (pI_f (fun y => by have := u1.mp y; omega)).symm, fun z => mid 1 (pI_t (u1.mpr (by omega))).symm⟩
  · have r : ¬ P_X13_isReal k := fun z => hr ((isReal_P hk).mp z)
    rw [hv.w hr, hv'.w hr]
    rw [valK hk hr, valK hk hr] at last
    have mid : ∀ s0 : Int32, s0 = pI (b < b') → G 54 [some (.ref 605), some (.int (nI o)), some (.int k), some (.int (nI p)), some (.int (nI q)), none, none] [.int s0] M := by
      intro s0 e0
      refine eX13_isSo_54 hc hW ⟨fun _ => ⟨vp, vq, ?_⟩, fun z => absurd z r⟩
      rw [ep, eq, hv.w hr, hv'.w hr]
      exact ⟨fun z => last s0 0 e0 (pI_f z).symm, fun z => last s0 1 e0 (pI_t z).symm⟩
    refine ⟨fun _ => ⟨vp, vq, fun z => mid 0 (pI_f (fun y => by rw [i64_lt] at y; exact y z)).symm, fun z => mid 1 (pI_t ((i64_lt _ _).mpr z)).symm⟩, fun z => absurd z r⟩
theorem posR17 : ∀ o ∈ List.range 46, 17 ≤ o ∧ o ≤ 22 → 1 < cntR o 4 ∧ usM o = true ∧ posM o = 0 := by decide +kernel
theorem rInsG_cmp {o : Nat} {r : Nat → Int64} {d : DS} (h : 17 ≤ o ∧ o ≤ 22) : insG o r d = (0, -1, 0, setM d (mkN o r) (crun (fun i => onW (onS (nI (dn d (2 * rgN o r 0))) r (dm d)) i ∧ P_X2_isSo (100000 + o) (f_X3_value (dk d (2 * rgN o r 0)) (di d (2 * rgN o r 0) i)) (f_X3_value (dk d (2 * rgN o r 0)) (di d (2 * rgN o r 1) i))) (dn d (2 * rgN o r 0)) 0 ((dm d (mkN o r) &&& (onS (nI (dn d (2 * rgN o r 0))) r (dm d) ^^^ (-1 : Int32))) &&& f_X2_below (nI (dn d (2 * rgN o r 0)))))) := by
  unfold insG
  dsimp only
  rw [if_neg (by omega), if_pos h]
theorem RDc.mask {S : Nat → Nat → Prop} {q : Nat} {d : DS} {x : Int32} (hf : FrC S M M') (hS : ∀ a j, S a j → (624 ≤ a ∧ a ≤ 631) → a = 630 ∧ j = q) (h : RDc M d) (hx : gI M' 630 q = x) : RDc M' (setM d q x) := by
  obtain ⟨h1, h2, h3, h4⟩ := h
  have ne : ∀ a j, (624 ≤ a ∧ a ≤ 631) → ¬ (a = 630 ∧ j = q) → ¬ S a j := fun a j u u' z => u' (hS a j z u)
  refine ⟨fun u hu => ?_, fun u hu => ?_, fun m hm => ?_, fun k hk => ?_⟩
  · obtain ⟨a1, a2, a3⟩ := h1 u hu
    exact ⟨by rw [hf.i (ne _ _ (by omega) (by omega))]; exact a1, by rw [hf.i (ne _ _ (by omega) (by omega))]; exact a2, fun j hj => by rw [hf.l (ne _ _ (by omega) (by omega)), hf.d (ne _ _ (by omega) (by omega))]; exact a3 j hj⟩
  · obtain ⟨a1, a2, a3⟩ := h2 u hu
    exact ⟨by rw [hf.i (ne _ _ (by omega) (by omega))]; exact a1, by rw [hf.i (ne _ _ (by omega) (by omega))]; exact a2, fun j hj => by rw [hf.l (ne _ _ (by omega) (by omega)), hf.d (ne _ _ (by omega) (by omega))]; exact a3 j hj⟩
  · show gI M' 630 m = up1 (dm d) q x m
    unfold up1
    by_cases e : m = q
    · rw [if_pos e, e]; exact hx
    · rw [if_neg e, hf.i (ne _ _ (by omega) (by omega))]; exact h3 m hm
  · rw [hf.l (ne _ _ (by omega) (by omega))]; exact h4 k hk
theorem RDc.scal {S : Nat → Nat → Prop} {q : Nat} {d : DS} {x : Int64} (hf : FrC S M M') (hS : ∀ a j, S a j → (624 ≤ a ∧ a ≤ 631) → a = 631 ∧ j = q) (h : RDc M d) (hx : gL M' 631 q = x) : RDc M' (setS d q x) := by
  obtain ⟨h1, h2, h3, h4⟩ := h
  have ne : ∀ a j, (624 ≤ a ∧ a ≤ 631) → ¬ (a = 631 ∧ j = q) → ¬ S a j := fun a j u u' z => u' (hS a j z u)
  refine ⟨fun u hu => ?_, fun u hu => ?_, fun m hm => ?_, fun k hk => ?_⟩
  · obtain ⟨a1, a2, a3⟩ := h1 u hu
    exact ⟨by rw [hf.i (ne _ _ (by omega) (by omega))]; exact a1, by rw [hf.i (ne _ _ (by omega) (by omega))]; exact a2, fun j hj => by rw [hf.l (ne _ _ (by omega) (by omega)), hf.d (ne _ _ (by omega) (by omega))]; exact a3 j hj⟩
  · obtain ⟨a1, a2, a3⟩ := h2 u hu
    exact ⟨by rw [hf.i (ne _ _ (by omega) (by omega))]; exact a1, by rw [hf.i (ne _ _ (by omega) (by omega))]; exact a2, fun j hj => by rw [hf.l (ne _ _ (by omega) (by omega)), hf.d (ne _ _ (by omega) (by omega))]; exact a3 j hj⟩
  · rw [hf.i (ne _ _ (by omega) (by omega))]; exact h3 m hm
  · show gL M' 631 k = up1 (dsc d) q x k
    unfold up1
    by_cases e : k = q
    · rw [if_pos e, e]; exact hx
    · rw [if_neg e, hf.l (ne _ _ (by omega) (by omega))]; exact h4 k hk
theorem RDc.same {S : Nat → Nat → Prop} {d : DS} (hf : FrC S M M') (hS : ∀ a j, S a j → ¬ (624 ≤ a ∧ a ≤ 631)) (h : RDc M d) : RDc M' d := by
  obtain ⟨h1, h2, h3, h4⟩ := h
  have ne : ∀ a j, (624 ≤ a ∧ a ≤ 631) → ¬ S a j := fun a j u z => hS a j z u
  refine ⟨fun u hu => ?_, fun u hu => ?_, fun m hm => ?_, fun k hk => ?_⟩
  · obtain ⟨a1, a2, a3⟩ := h1 u hu
    exact ⟨by rw [hf.i (ne _ _ (by omega))]; exact a1, by rw [hf.i (ne _ _ (by omega))]; exact a2, fun j hj => by rw [hf.l (ne _ _ (by omega)), hf.d (ne _ _ (by omega))]; exact a3 j hj⟩
  · obtain ⟨a1, a2, a3⟩ := h2 u hu
    exact ⟨by rw [hf.i (ne _ _ (by omega))]; exact a1, by rw [hf.i (ne _ _ (by omega))]; exact a2, fun j hj => by rw [hf.l (ne _ _ (by omega)), hf.d (ne _ _ (by omega))]; exact a3 j hj⟩
  · rw [hf.i (ne _ _ (by omega))]; exact h3 m hm
  · rw [hf.l (ne _ _ (by omega))]; exact h4 k hk
/-- a register of the instruction by its operand's place -/
theorem regAt {o k : Nat} (hC : RC M n c i) (eo : cn (c i) 0 = o) (o46 : o < 46) (hk : k < cntR o 4) : rgN o (c i) k < 8 ∧ regI (cn (c i) 0) (c i) k = nI (rgN o (c i) k) := by
  have hv : VC o (c i) := by have := hC.2.2.2.2.vc; rw [eo] at this; exact this
  obtain ⟨r1, -⟩ := rg_is o46 hv hk
  refine ⟨r1, ?_⟩
  unfold regI
  rw [eo, if_pos ⟨o46, hk⟩]
theorem c_compares13 {d : DS} {o : Nat} (hW : Wf M) (hC : RC M n c i) (eo : cn (c i) 0 = o) (ho : 17 ≤ o ∧ o ≤ 22) (hF : FIT o (c i) d) (hD : RDc M d) (hO : gI M 605 70 = olR (c i) d) (h69 : gI M 605 69 = 0) (h : rinC M K (insG o (c i) d)) : sp_X13_compares [.ref 605, .int (nI i)] M K := by
  have o46 : o < 46 := by omega
  obtain ⟨p1, p2, p3⟩ := posR17 o (List.mem_range.mpr o46) ho
  have hv : VC o (c i) := by have := hC.2.2.2.2.vc; rw [eo] at this; exact this
  obtain ⟨m1, m2⟩ := mk_is o46 hv p2
  rw [p3] at m2
  obtain ⟨q0, e0⟩ := opOf (k := 0) hC (by decide) m2
  have q0 : q_X13_operandOf (nI i) (0 : Int32) M := q0
  have e0 : f_X13_operandOf (nI i) (0 : Int32) M = nI (mkN o (c i)) := e0
  obtain ⟨v0, g0⟩ := regAt (k := 0) hC eo o46 (by omega)
  obtain ⟨v1, g1⟩ := regAt (k := 1) hC eo o46 p1
  rw [rInsG_cmp ho] at h
  have hnn := hF.2.1
  obtain ⟨D1, D2, D3, D4⟩ := hD
  have hk := hF.k0 o46
  have k1 : dk d (2 * rgN o (c i) 1) = dk d (2 * rgN o (c i) 0) := (hF.1 1 p1).2.2.1 (by
    have : ∀ o ∈ List.range 46, 17 ≤ o ∧ o ≤ 22 → alB o 1 = true := by decide +kernel
    exact this o (List.mem_range.mpr o46) ho)
  refine wX13_compares hW (fun {G} hc => c_regOf (k := 0) hW hC (by decide) (rX13_compares_0_3 hc hW (c_regOf (k := 1) hW hC (by decide) (rX13_compares_0_8 hc hW ?_))))
  rw [g0, g1, e0, nI_clamp (by omega), D3 _ m1]
  refine ⟨q0, vpN m1 (by decide), fun y2 hy2 => ?_⟩
  rw [hy2]
  have loop : ∀ f p : Nat, p + f = 32 → ∀ w : Int32, (∀ q, q < 32 → (bt w q = true ↔ if q < p then (q < dn d (2 * rgN o (c i) 0) ∧ ((onW (onS (nI (dn d (2 * rgN o (c i) 0))) (c i) (dm d)) q ∧ P_X2_isSo (100000 + o) (f_X3_value (dk d (2 * rgN o (c i) 0)) (di d (2 * rgN o (c i) 0) q)) (f_X3_value (dk d (2 * rgN o (c i) 0)) (di d (2 * rgN o (c i) 1) q))) ∨ (¬ onW (onS (nI (dn d (2 * rgN o (c i) 0))) (c i) (dm d)) q ∧ bt (dm d (mkN o (c i))) q = true))) else bt (dm d (mkN o (c i))) q = true)) →
      G 34 [some (.ref 605), some (.int (nI i)), some (.int (nI (rgN o (c i) 0))), some (.int (nI (rgN o (c i) 1))), some (.int (nI (mkN o (c i)))), some (.int w), some (.int (nI p))] [] M := by
    intro f
    induction f with
    | zero =>
      intro p hp w hw
      have : p = 32 := by omega
      subst this
      refine eX13_compares_34 hc hW ⟨fun _ => ⟨vpN m1 (by decide), ?_⟩, fun z => absurd (by decide) z⟩
      rw [nI_clamp (by omega)]
      have fr : FrC rinS M (uI M 630 (mkN o (c i)) w) := FrC_uI (by unfold rinS; omega)
      refine h _ (fr.wf hW) fr ?_ (fun _ => ⟨?_, ?_⟩) (fun z => absurd rfl z)
      · refine RDc.mask (S := fun a j => a = 630 ∧ j = mkN o (c i)) (FrC_uI ⟨rfl, rfl⟩) (fun a j z _ => z) ⟨D1, D2, D3, D4⟩ ?_
        rw [gI_uI, if_pos ⟨rfl, rfl⟩]
        refine b_ext (fun q hq => ?_)
        have h1 := hw q hq
        rw [if_pos hq] at h1
        have h2 := crun_bt (p := fun i_1 => onW (onS (nI (dn d (2 * rgN o (c i) 0))) (c i) (dm d)) i_1 ∧ P_X2_isSo (100000 + o) (f_X3_value (dk d (2 * rgN o (c i) 0)) (di d (2 * rgN o (c i) 0) i_1)) (f_X3_value (dk d (2 * rgN o (c i) 0)) (di d (2 * rgN o (c i) 1) i_1))) hq (dn d (2 * rgN o (c i) 0)) 0 ((dm d (mkN o (c i)) &&& (onS (nI (dn d (2 * rgN o (c i) 0))) (c i) (dm d) ^^^ (-1 : Int32))) &&& f_X2_below (nI (dn d (2 * rgN o (c i) 0)))) (by omega)
        rw [b_and, b_and, b_xor, bt_m1 hq, below_bt hnn.2 hq] at h2
        have hon := onW_bt (w := onS (nI (dn d (2 * rgN o (c i) 0))) (c i) (dm d)) hq
        have key : ∀ x y : Bool, (x = true ↔ y = true) → x = y := fun x y => by cases x <;> cases y <;> simp
        refine key _ _ (h1.trans (Iff.trans ?_ h2.symm))
        rw [hon]
        generalize P_X2_isSo (100000 + o) (f_X3_value (dk d (2 * rgN o (c i) 0)) (di d (2 * rgN o (c i) 0) q)) (f_X3_value (dk d (2 * rgN o (c i) 0)) (di d (2 * rgN o (c i) 1) q)) = P
        generalize bt (onS (nI (dn d (2 * rgN o (c i) 0))) (c i) (dm d)) q = A
        generalize bt (dm d (mkN o (c i))) q = B
        by_cases e : q < dn d (2 * rgN o (c i) 0)
        · rw [decide_eq_true e]
          cases A <;> cases B <;> simp [e]
        · rw [decide_eq_false e]
          simp [e]
      · show gI M 605 69 = nI 0
        exact h69
      · rfl
    | succ f ih =>
      intro p hp w hw
      have ep : (nI p).toNatClampNeg = p := nI_clamp (by omega)
      obtain ⟨o1, o2, o3⟩ := opI hC
      rw [eo] at o2
      refine eX13_compares_34 hc hW ⟨fun z => absurd ((nI_leI (a := 32) (by decide) (by omega)).mp z) (by omega), fun _ => ?_⟩
      rw [nI_clamp (show rgN o (c i) 0 < 2 ^ 31 by omega), (D1 _ v0).2.1, (D1 _ v0).1, nI_ltI (by omega) (by omega), nI_1, o2]
      have clr : ∀ q, q < 32 → bt (w &&& ((1 : Int32) <<< (nI p &&& 31) ^^^ (-1 : Int32))) q = (bt w q && !decide (q = p)) := fun q hq => by
        rw [b_and, b_xor, shl1_bt (by omega) hq, bt_m1 hq]
        cases decide (q = p) <;> rfl
      refine ⟨vpN v0 (by decide), fun lt => ?_, fun ge y1 hy1 => ?_⟩
      · obtain ⟨n1, n2⟩ := isOn_is (d := d) (j := p) (nn := dn d (2 * rgN o (c i) 0)) hC hO lt hnn.2
        rw [n2]
        refine ⟨n1, fun off => ?_, fun on => ⟨o1, vpN v0 (by decide), ?_⟩⟩
        · refine ih (p + 1) (by omega) w (fun q hq => ?_)
          rw [hw q hq]
          by_cases e : q = p
          · subst e
            rw [if_neg (Nat.lt_irrefl q), if_pos (by omega)]
            exact ⟨fun z => ⟨lt, Or.inr ⟨off, z⟩⟩, fun z => z.2.elim (fun y => absurd y.1 off) (fun y => y.2)⟩
          · by_cases e2 : q < p
            · rw [if_pos e2, if_pos (by omega)]
            · rw [if_neg e2, if_neg (by omega)]
        · have ea : (32 : Int32) * nI (rgN o (c i) 0) + nI p = nI (32 * rgN o (c i) 0 + p) := by rw [show (32 : Int32) = nI 32 from rfl, pk_mul, nI_add]
          have eb : (32 : Int32) * nI (rgN o (c i) 1) + nI p = nI (32 * rgN o (c i) 1 + p) := by rw [show (32 : Int32) = nI 32 from rfl, pk_mul, nI_add]
          rw [ea, eb]
          have b1 := (D1 _ v0).2.2 p lt
          have b2 := (D1 _ v1).2.2 p (by rw [(hF.1 1 p1).2.1]; exact lt)
          have ok1 := (hF.1 0 (by omega)).2.2.2 p lt
          have ok2 := (hF.1 1 p1).2.2.2 p lt
          rw [k1] at b2 ok2
          refine c_isSo13 hW ho hk ok1 ok2 (by omega) (by omega) b1 b2 (rX13_compares_76_26 hc hW ?_)
          have step : ∀ w', (∀ q, q < 32 → bt w' q = if q = p then decide (pI (P_X2_isSo (100000 + o) (f_X3_value (dk d (2 * rgN o (c i) 0)) (di d (2 * rgN o (c i) 0) p)) (f_X3_value (dk d (2 * rgN o (c i) 0)) (di d (2 * rgN o (c i) 1) p))) = 1) else bt w q) → G 34 [some (.ref 605), some (.int (nI i)), some (.int (nI (rgN o (c i) 0))), some (.int (nI (rgN o (c i) 1))), some (.int (nI (mkN o (c i)))), some (.int w'), some (.int (nI (p + 1)))] [] M := by
            intro w' hw'
            refine ih (p + 1) (by omega) w' (fun q hq => ?_)
            rw [hw' q hq]
            by_cases e : q = p
            · subst e
              rw [if_pos rfl, if_pos (by omega), decide_eq_true_iff]
              by_cases z : P_X2_isSo (100000 + o) (f_X3_value (dk d (2 * rgN o (c i) 0)) (di d (2 * rgN o (c i) 0) q)) (f_X3_value (dk d (2 * rgN o (c i) 0)) (di d (2 * rgN o (c i) 1) q))
              · rw [pI_t z]; exact ⟨fun _ => ⟨lt, Or.inl ⟨on, z⟩⟩, fun _ => rfl⟩
              · rw [pI_f z]; exact ⟨fun y => absurd y (by decide), fun y => y.2.elim (fun u => absurd u.2 z) (fun u => absurd on u.1)⟩
            · rw [if_neg e, hw q hq]
              by_cases e2 : q < p
              · rw [if_pos e2, if_pos (by omega)]
              · rw [if_neg e2, if_neg (by omega)]
          rw [nI_1]
          refine ⟨fun z => step _ (fun q hq => ?_), fun z => step _ (fun q hq => ?_)⟩
          · rw [b_or, b_0, Bool.or_false, clr q hq, z]
            by_cases e : q = p
            · rw [if_pos e, decide_eq_true e]; simp
            · rw [if_neg e, decide_eq_false e]; simp
          · rw [b_or, clr q hq, shl1_bt (by omega) hq]
            have z1 : pI (P_X2_isSo (100000 + o) (f_X3_value (dk d (2 * rgN o (c i) 0)) (di d (2 * rgN o (c i) 0) p)) (f_X3_value (dk d (2 * rgN o (c i) 0)) (di d (2 * rgN o (c i) 1) p))) = 1 := pI_t (Classical.byContradiction (fun u => z (pI_f u)))
            rw [z1]
            by_cases e : q = p
            · rw [if_pos e, decide_eq_true e]; simp
            · rw [if_neg e, decide_eq_false e]; simp
      · rw [hy1]
        refine ih (p + 1) (by omega) _ (fun q hq => ?_)
        rw [clr q hq]
        by_cases e : q = p
        · subst e
          rw [decide_eq_true rfl, if_pos (by omega)]
          exact ⟨fun z => by simp at z, fun z => absurd z.1 ge⟩
        · rw [decide_eq_false e, Bool.not_false, Bool.and_true, hw q hq]
          by_cases e2 : q < p
          · rw [if_pos e2, if_pos (by omega)]
          · rw [if_neg e2, if_neg (by omega)]
  refine loop 32 0 rfl _ (fun q hq => ?_)
  rw [if_neg (Nat.not_lt_zero q)]
end
end RCMP
