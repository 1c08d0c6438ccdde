section RBYL
section
variable {M M' : Mem} {K : RT} {n i : Nat} {c : Nat → Nat → Int64}
theorem zand1 (y : Int32) : y &&& 1 = 0 ∨ y &&& 1 = 1 := by
  have h : (y &&& 1).toBitVec.toNat = y.toBitVec.toNat % 2 := by
    rw [Int32.toBitVec_and, BitVec.toNat_and]
    show y.toBitVec.toNat &&& (2 ^ 1 - 1) = _
    rw [Nat.and_two_pow_sub_one_eq_mod]
  rcases Nat.mod_two_eq_zero_or_one y.toBitVec.toNat with z | z
  · left
    apply Int32.toBitVec_inj.mp
    apply BitVec.eq_of_toNat_eq
    rw [h, z]; rfl
  · right
    apply Int32.toBitVec_inj.mp
    apply BitVec.eq_of_toNat_eq
    rw [h, z]; rfl
/-- the mask that is on, of the reference -/
noncomputable def olR (c : Nat → Int64) (d : DS) : Int32 := if c 5 < 0 then -1 else dm d (c 5).toInt.toNat
theorem mask_is (hC : RC M n c i) : vp_in (nI i) 100 ∧ ((gI M 620 (nI i).toNatClampNeg) < 0 ↔ c i 5 < 0) ∧ (¬ c i 5 < 0 → (c i 5).toInt.toNat < 4 ∧ gI M 620 (nI i).toNatClampNeg = nI (c i 5).toInt.toNat) := by
  obtain ⟨-, h2, h3, h4, h5⟩ := hC
  rw [nI_clamp (by omega), (h2 i h4).2.2]
  refine ⟨vpN (by omega) (by decide), ?_⟩
  rcases (h5.at rfl).2.2 with e | ⟨-, v, v1, e⟩
  · rw [e]
    exact ⟨⟨fun _ => by decide, fun _ => by decide⟩, fun z => absurd (by decide) z⟩
  · rw [e, lN_toI]
    have a : ¬ lN v < 0 := fun z => by
      rw [Int64.lt_iff_toInt_lt, l6_int (by omega)] at z
      have : (0 : Int64).toInt = 0 := by decide
      omega
    have b : ¬ nI v < 0 := fun z => by
      rw [show (0 : Int32) = nI 0 from rfl, nI_ltI (by omega) (by decide)] at z
      omega
    refine ⟨⟨fun z => absurd z b, fun z => absurd z a⟩, fun _ => ?_⟩
    rw [l6_int (by omega)]
    exact ⟨v1, rfl⟩
theorem isOn_is {d : DS} {j nn : Nat} (hC : RC M n c i) (hO : gI M 605 70 = olR (c i) d) (hj : j < nn) (hn : nn ≤ 32) : q_X13_isOn (nI i) (nI j) M ∧ (P_X13_isOn (nI i) (nI j) M ↔ onW (onS (nI nn) (c i) (dm d)) j) := by
  obtain ⟨m1, m2, m3⟩ := mask_is hC
  unfold q_X13_isOn P_X13_isOn
  refine ⟨m1, ?_⟩
  rw [m2, hO, onW_bt (by omega)]
  unfold onS olR
  by_cases z : c i 5 < 0
  · rw [if_pos z, if_pos z, below_bt hn (by omega)]
    exact ⟨fun _ => by simpa using hj, fun _ => Or.inl z⟩
  · rw [if_neg z, if_neg z, bt_and, below_bt hn (by omega), decide_eq_true hj, Bool.true_and, ← onW_bt (by omega)]
    unfold onW
    have := zand1 (dm d (c i 5).toInt.toNat >>> (nI j &&& 31))
    constructor
    · rintro (y | y)
      · exact absurd y z
      · rw [y]; decide
    · intro y
      exact Or.inr (this.resolve_left y)
/-- lanes of a register copied -/
theorem c_copyL {w x q : Nat} (hW : Wf M) (hs : (w = 643 ∧ x = 644) ∨ (w = 645 ∧ x = 646)) (hq : q < 8) (h : ∀ M', Wf M' → FrC (fun a _ => a = w ∨ a = x) M M' → (∀ j, j < 32 → gL M' w j = gL M 626 (32 * q + j) ∧ gD M' x j = gD M 627 (32 * q + j)) → K none M') : sp_X13_copyLanes [.ref 605, .int (nI q), .ref w, .ref x] M K := by
  have hx2 : Sh w = (14, 32) := by
    rcases hs with ⟨rfl, rfl⟩ | ⟨rfl, rfl⟩
    · exact Ss_643
    · exact Ss_645
  have hx3 : Sh x = (12, 32) := by
    rcases hs with ⟨rfl, rfl⟩ | ⟨rfl, rfl⟩
    · exact Ss_644
    · exact Ss_646
  have ne : w ≠ 626 ∧ w ≠ 627 ∧ x ≠ 626 ∧ x ≠ 627 := by rcases hs with ⟨rfl, rfl⟩ | ⟨rfl, rfl⟩ <;> decide
  refine wX13_copyLanes hW hx2 hx3 (fun {G} hc => ?_)
  have loop : ∀ f p : Nat, p + f = 32 → ∀ M1, Wf M1 → FrC (fun a _ => a = w ∨ a = x) M M1 → (∀ j, j < p → gL M1 w j = gL M 626 (32 * q + j) ∧ gD M1 x j = gD M 627 (32 * q + j)) → G 3 [some (.ref 605), some (.int (nI q)), some (.ref w), some (.ref x), some (.int (nI p))] [] M1 := by
    intro f
    induction f with
    | zero =>
      intro p hp M1 hW1 hF hd
      have : p = 32 := by omega
      subst this
      exact eX13_copyLanes_3 hc hW1 hx2 hx3 ⟨fun _ => h M1 hW1 hF hd, fun z => absurd (by decide) z⟩
    | succ f ih =>
      intro p hp M1 hW1 hF hd
      refine eX13_copyLanes_3 hc hW1 hx2 hx3 ⟨fun z => absurd ((nI_leI (a := 32) (by decide) (by omega)).mp z) (by omega), fun _ => ⟨fun z => ?_, fun _ => ?_⟩⟩
      · rw [show (0 : Int32) = nI 0 from rfl, nI_ltI (by omega) (by decide)] at z
        omega
      · rw [show (32 : Int32) = nI 32 from rfl, pk_mul, nI_add, nI_clamp (by omega), nI_clamp (by omega), nI_1]
        refine ⟨vpN (by omega) (by decide), vpN (by omega) (by decide), vpN (by omega) (by decide), vpN (by omega) (by decide), ih (p + 1) (by omega) _ ?_ ?_ ?_⟩
        · exact ((FrC_uL (S := fun a _ => a = w ∨ a = x) (Or.inl rfl)).tr (FrC_uD (Or.inr rfl))).wf hW1
        · exact hF.tr ((FrC_uL (Or.inl rfl)).tr (FrC_uD (Or.inr rfl)))
        · intro j hj
          rw [gL_uD, gL_uL, gD_uD, gD_uL]
          by_cases e : j = p
          · rw [if_pos ⟨rfl, e⟩, if_pos ⟨rfl, e⟩, hF.l (by omega), hF.d (by omega), e]
            exact ⟨rfl, rfl⟩
          · rw [if_neg (fun z => e z.2), if_neg (fun z => e z.2)]
            exact hd j (by omega)
  exact loop 32 0 rfl M hW FrC.rf (fun j hj => absurd hj (Nat.not_lt_zero j))
/-- no register: nothing -/
theorem c_copyN {w x : Nat} (hW : Wf M) (hs : (w = 643 ∧ x = 644) ∨ (w = 645 ∧ x = 646)) (h : K none M) : sp_X13_copyLanes [.ref 605, .int (-1 : Int32), .ref w, .ref x] M K := by
  have hx2 : Sh w = (14, 32) := by
    rcases hs with ⟨rfl, rfl⟩ | ⟨rfl, rfl⟩
    · exact Ss_643
    · exact Ss_645
  have hx3 : Sh x = (12, 32) := by
    rcases hs with ⟨rfl, rfl⟩ | ⟨rfl, rfl⟩
    · exact Ss_644
    · exact Ss_646
  refine wX13_copyLanes hW hx2 hx3 (fun {G} hc => eX13_copyLanes_3 hc hW hx2 hx3 ⟨fun _ => h, fun _ => ⟨fun _ => h, fun z => absurd (by decide) z⟩⟩)
/-- cells that an instruction may change -/
def rinS (a j : Nat) : Prop := (a = 605 ∧ (j = 50 ∨ j = 63 ∨ j = 64 ∨ j = 69)) ∨ (624 ≤ a ∧ a ≤ 631) ∨ (643 ≤ a ∧ a ≤ 646)
theorem rinS_pr {a j : Nat} (h : rinS a j) : ¬ prS a := by unfold rinS at h; unfold prS; omega
/-- one row of the data is other: a register -/
theorem RDc.row {S : Nat → Nat → Prop} {v : Nat} {d : DS} {g : Nat → Int64} (hd : WD d) (hf : FrC S M M') (hS : ∀ a j, S a j → (624 ≤ a ∧ a ≤ 631) → (a = 626 ∨ a = 627) ∧ 32 * v ≤ j ∧ j < 32 * v + 32) (hv : v < 8) (h : RDc M d) (hg : ∀ j, j < dn d (2 * v) → VR (dk d (2 * v)) (gL M' 626 (32 * v + j)) (gD M' 627 (32 * v + j)) (g j)) : RDc M' (setIt d (2 * v) g) := by
  obtain ⟨h1, h2, h3, h4⟩ := h
  have ne : ∀ a j, (624 ≤ a ∧ a ≤ 631) → ¬ ((a = 626 ∨ a = 627) ∧ 32 * v ≤ j ∧ j < 32 * v + 32) → ¬ S a j := fun a j q q' z => q' (hS a j z q)
  refine ⟨fun u hu => ?_, fun u hu => ?_, fun m hm => ?_, fun k hk => ?_⟩
  · obtain ⟨a1, a2, a3⟩ := h1 u hu
    have hl : dn d (2 * u) ≤ 32 := by
      rcases (hd.1 (2 * u) (by omega)).1 with z | z
      · omega
      · exact (z.2.2 (by omega)).2
    refine ⟨by rw [hf.i (ne _ _ (by omega) (by omega))]; exact a1, by rw [hf.i (ne _ _ (by omega) (by omega))]; exact a2, fun j hj => ?_⟩
    have hj : j < dn d (2 * u) := hj
    show VR (dk d (2 * u)) _ _ (up1 (di d) (2 * v) g (2 * u) j)
    unfold up1
    by_cases e : u = v
    · subst e
      rw [if_pos rfl]
      exact hg j hj
    · rw [if_neg (by omega), hf.l (ne _ _ (by omega) (by omega)), hf.d (ne _ _ (by omega) (by omega))]
      exact a3 j hj
  · obtain ⟨a1, a2, a3⟩ := h2 u hu
    refine ⟨by rw [hf.i (ne _ _ (by omega) (by omega))]; exact a1, by rw [hf.i (ne _ _ (by omega) (by omega))]; exact a2, fun j hj => ?_⟩
    have hj : j < dn d (2 * u + 1) := hj
    show VR (dk d (2 * u + 1)) _ _ (up1 (di d) (2 * v) g (2 * u + 1) j)
    unfold up1
    rw [if_neg (by omega), hf.l (ne _ _ (by omega) (by omega)), hf.d (ne _ _ (by omega) (by omega))]
    exact a3 j hj
  · rw [hf.i (ne _ _ (by omega) (by omega))]; exact h3 m hm
  · rw [hf.l (ne _ _ (by omega) (by omega))]; exact h4 k hk
/-- .. an array -/
theorem RDc.arr {S : Nat → Nat → Prop} {v : Nat} {d : DS} {g : Nat → Int64} (hd : WD d) (hf : FrC S M M') (hS : ∀ a j, S a j → (624 ≤ a ∧ a ≤ 631) → (a = 626 ∨ a = 627) ∧ 256 + 64 * v ≤ j ∧ j < 256 + 64 * v + 64) (hv : v < 8) (h : RDc M d) (hg : ∀ j, j < dn d (2 * v + 1) → VR (dk d (2 * v + 1)) (gL M' 626 (256 + 64 * v + j)) (gD M' 627 (256 + 64 * v + j)) (g j)) : RDc M' (setIt d (2 * v + 1) g) := by
  obtain ⟨h1, h2, h3, h4⟩ := h
  have ne : ∀ a j, (624 ≤ a ∧ a ≤ 631) → ¬ ((a = 626 ∨ a = 627) ∧ 256 + 64 * v ≤ j ∧ j < 256 + 64 * v + 64) → ¬ S a j := fun a j q q' z => q' (hS a j z q)
  have hl : ∀ u, u < 8 → dn d (2 * u) ≤ 32 ∧ dn d (2 * u + 1) ≤ 64 := fun u hu => by
    constructor
    · rcases (hd.1 (2 * u) (by omega)).1 with z | z
      · omega
      · exact (z.2.2 (by omega)).2
    · rcases (hd.1 (2 * u + 1) (by omega)).1 with z | z
      · omega
      · exact z.2.1
  refine ⟨fun u hu => ?_, fun u hu => ?_, fun m hm => ?_, fun k hk => ?_⟩
  · obtain ⟨a1, a2, a3⟩ := h1 u hu
    have := (hl u hu).1
    refine ⟨by rw [hf.i (ne _ _ (by omega) (by omega))]; exact a1, by rw [hf.i (ne _ _ (by omega) (by omega))]; exact a2, fun j hj => ?_⟩
    have hj : j < dn d (2 * u) := hj
    show VR (dk d (2 * u)) _ _ (up1 (di d) (2 * v + 1) g (2 * u) j)
    unfold up1
    rw [if_neg (by omega), hf.l (ne _ _ (by omega) (by omega)), hf.d (ne _ _ (by omega) (by omega))]
    exact a3 j hj
  · obtain ⟨a1, a2, a3⟩ := h2 u hu
    have := (hl u hu).2
    refine ⟨by rw [hf.i (ne _ _ (by omega) (by omega))]; exact a1, by rw [hf.i (ne _ _ (by omega) (by omega))]; exact a2, fun j hj => ?_⟩
    have hj : j < dn d (2 * u + 1) := hj
    show VR (dk d (2 * u + 1)) _ _ (up1 (di d) (2 * v + 1) g (2 * u + 1) j)
    unfold up1
    by_cases e : u = v
    · subst e
      rw [if_pos rfl]
      exact hg j hj
    · rw [if_neg (by omega), hf.l (ne _ _ (by omega) (by omega)), hf.d (ne _ _ (by omega) (by omega))]
      exact a3 j hj
  · rw [hf.i (ne _ _ (by omega) (by omega))]; exact h3 m hm
  · rw [hf.l (ne _ _ (by omega) (by omega))]; exact h4 k hk
/-- how an instruction goes on -/
def rinC (M : Mem) (K : RT) (r : Int32 × Int32 × Nat × DS) : Prop := ∀ M', Wf M' → FrC rinS M M' → RDc M' r.2.2.2 → (r.1 = 0 → gI M' 605 69 = nI r.2.2.1 ∧ gI M' 605 50 = gI M 605 50) → (r.1 ≠ 0 → gI M' 605 50 = r.2.1) → K (some (.int r.1)) M'
end
end RBYL
