section RWATCH
section
variable {M M' : Mem} {K : RT}
def RWw (M : Mem) (ww : Nat → Int64) : Prop := ∀ j, j < 512 → gI M 634 j = blI (wbB ww j)
def rWtd (ww : Nat → Int64) (d : DS) (k : Nat) : Prop := wbB ww k = true ∧ dk d (2 * (k / 64) + 1) ≠ -1 ∧ k % 64 < dn d (2 * (k / 64) + 1)
theorem kw {k : Nat} (h : k < 512) : nI k / (64 : Int32) = nI (k / 64) ∧ nI k - nI k / (64 : Int32) * (64 : Int32) = nI (k % 64) ∧ k / 64 < 8 ∧ k % 64 < 64 := by
  refine ⟨by rw [show (64 : Int32) = nI 64 from rfl, pk_div (by omega) (by omega) (by omega)], pk_rem (by omega) (by decide) (by decide), by omega, by omega⟩
theorem rWtd_is {ww : Nat → Int64} {d : DS} {k : Nat} (hd : WD d) (hD : RDc M d) (hw : RWw M ww) (h : k < 512) : q_X13_isWatched (nI k) M ∧ (P_X13_isWatched (nI k) M ↔ rWtd ww d k) := by
  obtain ⟨k1, k2, k3, k4⟩ := kw h
  obtain ⟨a1, a2, a3⟩ := hD.2.1 (k / 64) k3
  have nl := dn_le hd (j := 2 * (k / 64) + 1) (by omega)
  unfold q_X13_isWatched P_X13_isWatched rWtd
  rw [k2, k1, nI_clamp (show k < 2 ^ 31 by omega), nI_clamp (show k / 64 < 2 ^ 31 by omega), hw k h, a1, a2]
  refine ⟨⟨vpN h (by decide), fun _ => ⟨vpN k3 (by decide), fun _ => vpN k3 (by decide)⟩⟩, ?_⟩
  rw [nI_leI (by omega) (by omega), Nat.not_le]
  cases wbB ww k
  · exact ⟨fun z => absurd rfl z.1, fun z => absurd z.1 (by decide)⟩
  · exact ⟨fun z => ⟨rfl, z.2.1, z.2.2⟩, fun z => ⟨by decide, z.2.1, z.2.2⟩⟩
theorem sum_is {d : DS} {a i : Nat} (hd : WD d) (hD : RDc M d) (ha : a < 8) (hi : i < dn d (2 * a + 1)) : q_X13_watchSum (nI a) (nI i) M ∧ f_X13_watchSum (nI a) (nI i) M = di d (2 * a + 1) i := by
  obtain ⟨a1, a2, a3⟩ := hD.2.1 a ha
  have nl := dn_le hd (j := 2 * a + 1) (by omega)
  obtain ⟨w1, w2⟩ := hd.1 (2 * a + 1) (by omega)
  have hk : isK (dk d (2 * a + 1)) := by
    rcases w1 with z | z
    · omega
    · exact z.1
  obtain ⟨b1, b2⟩ := bits_is hk (w2 i hi) (a3 i hi)
  have e : (256 : Int32) + (64 : Int32) * nI a + nI i = nI (256 + 64 * a + i) := by rw [show (64 : Int32) = nI 64 from rfl, show (256 : Int32) = nI 256 from rfl, pk_mul, nI_add, nI_add]
  unfold q_X13_watchSum f_X13_watchSum
  rw [e, nI_clamp (show a < 2 ^ 31 by omega), nI_clamp (show 256 + 64 * a + i < 2 ^ 31 by omega), a1]
  exact ⟨⟨vpN ha (by decide), vpN (by omega) (by decide), vpN (by omega) (by decide), b2⟩, b1⟩
/-- what was watched -/
def RWd (M : Mem) (ww : Nat → Int64) (d : DS) : Prop := ∀ k, k < 512 → rWtd ww d k → gL M 647 k = di d (2 * (k / 64) + 1) (k % 64)
theorem wbit_wb {ww : Nat → Int64} {k : Nat} : wbB ww k = true ↔ wbit (ww (k / 64)) (k % 64) := by
  unfold wbB
  exact @decide_eq_true_iff _ (Classical.propDecidable _)
theorem c_didChange13 {ww : Nat → Int64} {d d' : DS} (hW : Wf M) (hd : WD d) (hd' : WD d') (hD : RDc M d') (hw : RWw M ww) (hs : ∀ a, a < 8 → dk d' (2 * a + 1) = dk d (2 * a + 1) ∧ dn d' (2 * a + 1) = dn d (2 * a + 1)) (hR : RWd M ww d) (h : K (some (.int (pI (chgD ww d d')))) M) : sp_X13_didChange [.ref 605] M K := by
  refine wX13_didChange hW (fun {G} hc => ?_)
  have loop : ∀ f p : Nat, p + f = 512 → ∀ x : Int32, x = pI (∃ k, k < p ∧ rWtd ww d' k ∧ ¬ di d (2 * (k / 64) + 1) (k % 64) = di d' (2 * (k / 64) + 1) (k % 64)) → G 4 [some (.ref 605), some (.int x), some (.int (nI p))] [] M := by
    intro f
    induction f with
    | zero =>
      intro p hp x hx
      have hp : p = 512 := by omega
      subst hp
      refine eX13_didChange_4 hc hW ⟨fun _ => ?_, fun z => absurd (by decide) z⟩
      have e : (∃ k, k < 512 ∧ rWtd ww d' k ∧ ¬ di d (2 * (k / 64) + 1) (k % 64) = di d' (2 * (k / 64) + 1) (k % 64)) ↔ chgD ww d d' := by
        unfold rWtd chgD
        constructor
        · rintro ⟨k, k1, ⟨k2, k3, k4⟩, k5⟩
          exact ⟨k / 64, by omega, k % 64, by rw [← (hs (k / 64) (by omega)).2]; exact k4, wbit_wb.mp k2, k5⟩
        · rintro ⟨a, a8, i, i1, i2, i3⟩
          have nl := dn_le hd (j := 2 * a + 1) (by omega)
          have e1 : (64 * a + i) / 64 = a := by omega
          have e2 : (64 * a + i) % 64 = i := by omega
          refine ⟨64 * a + i, by omega, ⟨wbit_wb.mpr (by rw [e1, e2]; exact i2), ?_, ?_⟩, by rw [e1, e2]; exact i3⟩
          · rw [e1, (hs a a8).1]
            intro z
            rcases (hd.1 (2 * a + 1) (by omega)).1 with y | y
            · omega
            · rw [z] at y; exact absurd y.1 (by unfold isK; decide)
          · rw [e1, e2, (hs a a8).2]; exact i1
      rw [hx, propext e]
      refine ⟨?_, h⟩
      by_cases z : chgD ww d d'
      · exact Or.inr (pI_t z)
      · exact Or.inl (pI_f z)
    | succ f ih =>
      intro p hp x hx
      obtain ⟨q1, q2⟩ := rWtd_is hd' hD hw (show p < 512 by omega)
      obtain ⟨k1, k2, k3, k4⟩ := kw (show p < 512 by omega)
      refine eX13_didChange_4 hc hW ⟨fun z => absurd ((nI_leI (a := 512) (by decide) (by omega)).mp z) (by omega), fun _ => ?_⟩
      rw [k2, k1, nI_clamp (show p < 2 ^ 31 by omega), q2, nI_1, hx]
      have t : ∀ P : Prop, (pI P = 0 ↔ ¬ P) := fun P => ⟨fun z y => by rw [pI_t y] at z; exact absurd z (by decide), pI_f⟩
      rw [t]
      refine ⟨fun z => ih (p + 1) (by omega) 1 (pI_t ?_).symm, fun z => ⟨q1, fun nw => ih (p + 1) (by omega) 0 (pI_f ?_).symm, fun w => ⟨vpN (by omega) (by decide), ?_⟩⟩⟩
      · obtain ⟨k, y1, y2⟩ := Classical.not_not.mp z
        exact ⟨k, by omega, y2⟩
      · rintro ⟨k, y1, y2, y3⟩
        by_cases e : k = p
        · subst e; exact nw y2
        · exact z ⟨k, by omega, y2, y3⟩
      · obtain ⟨s1, s2⟩ := sum_is hd' hD k3 w.2.2
        have wd : rWtd ww d p := ⟨w.1, by rw [← (hs _ k3).1]; exact w.2.1, by rw [← (hs _ k3).2]; exact w.2.2⟩
        rw [s2, hR p (by omega) wd]
        refine ⟨s1, fun e => ih (p + 1) (by omega) 0 (pI_f ?_).symm, fun ne => ih (p + 1) (by omega) 1 (pI_t ⟨p, by omega, w, ne⟩).symm⟩
        rintro ⟨k, y1, y2, y3⟩
        by_cases e' : k = p
        · subst e'; exact y3 e
        · exact z ⟨k, by omega, y2, y3⟩
  exact loop 512 0 rfl 0 (pI_f (fun ⟨k, k1, _⟩ => absurd k1 (Nat.not_lt_zero k))).symm
/-- the list of steps -/
def RTr (M : Mem) (w : Nat) : Nat → List TE → Prop
  | _, [] => True
  | k, t :: rest => (gI M 641 (slN w k) = nI t.1 ∧ gI M 642 (slN w k) = nI t.2.1 ∧ REs M (slN w k) t.2.2) ∧ RTr M w (k + 1) rest
theorem rSlN_lt {w k : Nat} : slN w k < 64 := Nat.mod_lt _ (by decide)
theorem RTr.fr {S : Nat → Nat → Prop} {w : Nat} {n : Nat} (hf : FrC S M M') : ∀ (tr : List TE) (k : Nat), k + tr.length ≤ 64 → (∀ t, t ∈ tr → EOk n t.2.2) → (∀ j, k ≤ j → j < k + tr.length → ∀ a b, S a b → ¬ saS (slN w j) a b ∧ ¬ ((a = 641 ∨ a = 642) ∧ b = slN w j)) → RTr M w k tr → RTr M' w k tr := by
  intro tr
  induction tr with
  | nil => intro k _ _ _ _; trivial
  | cons t tr ih =>
    intro k hk hE hS ⟨⟨a1, a2, a3⟩, h⟩
    have h0 := hS k (Nat.le_refl k) (by rw [List.length_cons]; omega)
    have e := hE t (List.mem_cons_self ..)
    refine ⟨⟨?_, ?_, a3.fr e.2.2.2.2 e.2.1 hf (fun a b z => (h0 a b z).1)⟩, ih (k + 1) (by rw [List.length_cons] at hk; omega) (fun t ht => hE t (List.mem_cons_of_mem _ ht)) (fun j j1 j2 => hS j (by omega) (by rw [List.length_cons]; omega)) h⟩
    · rw [hf.i (fun z => (h0 _ _ z).2 ⟨Or.inl rfl, rfl⟩)]; exact a1
    · rw [hf.i (fun z => (h0 _ _ z).2 ⟨Or.inr rfl, rfl⟩)]; exact a2
/-- one slot further on -/
theorem RTr.shift {w w' : Nat} : ∀ (tr : List TE) (k : Nat), (∀ j, k ≤ j → j < k + tr.length → slN w' (j + 1) = slN w j) → RTr M w k tr → RTr M w' (k + 1) tr := by
  intro tr
  induction tr with
  | nil => intro k _ _; trivial
  | cons t tr ih =>
    intro k hS ⟨a, h⟩
    have e := hS k (Nat.le_refl k) (by rw [List.length_cons]; omega)
    refine ⟨?_, ih (k + 1) (fun j j1 j2 => hS j (by omega) (by rw [List.length_cons]; omega)) h⟩
    rw [e]
    exact a
theorem RTr.take {w : Nat} : ∀ (tr : List TE) (m k : Nat), RTr M w k tr → RTr M w k (tr.take m) := by
  intro tr
  induction tr with
  | nil => intro m k h; cases m <;> exact h
  | cons t tr ih =>
    intro m k ⟨a, h⟩
    cases m with
    | zero => trivial
    | succ m => exact ⟨a, ih m (k + 1) h⟩
end
end RWATCH
