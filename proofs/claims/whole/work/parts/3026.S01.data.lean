section DATA
/-- the data of a state: 16 rows (register v: row 2v, array a: row 2a+1): kinds, lengths, items; masks; scalars -/
abbrev DS : Type := (Nat → Int32) × (Nat → Nat) × (Nat → Nat → Int64) × (Nat → Int32) × (Nat → Int64)
def dk (d : DS) : Nat → Int32 := d.1
def dn (d : DS) : Nat → Nat := d.2.1
def di (d : DS) : Nat → Nat → Int64 := d.2.2.1
def dm (d : DS) : Nat → Int32 := d.2.2.2.1
def dsc (d : DS) : Nat → Int64 := d.2.2.2.2
def up1 {α : Type} (f : Nat → α) (i : Nat) (x : α) : Nat → α := fun j => if j = i then x else f j
def setRow (d : DS) (j : Nat) (k : Int32) (n : Nat) (f : Nat → Int64) : DS := (up1 d.1 j k, up1 d.2.1 j n, up1 d.2.2.1 j f, d.2.2.2.1, d.2.2.2.2)
def setIt (d : DS) (j : Nat) (f : Nat → Int64) : DS := (d.1, d.2.1, up1 d.2.2.1 j f, d.2.2.2.1, d.2.2.2.2)
def setM (d : DS) (m : Nat) (x : Int32) : DS := (d.1, d.2.1, d.2.2.1, up1 d.2.2.2.1 m x, d.2.2.2.2)
def setS (d : DS) (k : Nat) (x : Int64) : DS := (d.1, d.2.1, d.2.2.1, d.2.2.2.1, up1 d.2.2.2.2 k x)
theorem up1_eq {α : Type} {f : Nat → α} {i : Nat} {x : α} : up1 f i x i = x := by unfold up1; rw [if_pos rfl]
theorem up1_ne {α : Type} {f : Nat → α} {i j : Nat} {x : α} (h : j ≠ i) : up1 f i x j = f j := by unfold up1; rw [if_neg h]
/-- the class's state object s holds d -/
def RD (M : Mem) (s : Nat) (d : DS) : Prop := (∀ j, j < 16 → RowIs M (s + 5 + 2 * j) (dk d j) (dn d j) (di d j)) ∧ (∀ m, m < 4 → gI M (s + 3) m = dm d m) ∧ ∀ k, k < 8 → gL M (s + 4) k = dsc d k
theorem RD.mo {S : Nat → Prop} {M M' : Mem} (h : Mo S M M') {s : Nat} {d : DS} (hs : ∀ b, S b → ¬ (s + 3 ≤ b ∧ b < s + 37)) (hr : RD M s d) : RD M' s d := by
  refine ⟨fun j hj => (hr.1 j hj).mo h (fun q => hs _ q ⟨by omega, by omega⟩) (fun q => hs _ q ⟨by omega, by omega⟩), fun m hm => ?_, fun k hk => ?_⟩
  · rw [h.I (fun q => hs _ q ⟨by omega, by omega⟩)]; exact hr.2.1 m hm
  · rw [h.L (fun q => hs _ q ⟨by omega, by omega⟩)]; exact hr.2.2 k hk
/-- one row was written -/
theorem RD.row {M M' : Mem} {s j : Nat} {d : DS} (hj : j < 16) (h : Mo (rowS (s + 5 + 2 * j)) M M') (hr : RD M s d) {k : Int32} {n : Nat} {f : Nat → Int64} (hn : RowIs M' (s + 5 + 2 * j) k n f) : RD M' s (setRow d j k n f) := by
  refine ⟨fun i hi => ?_, fun m hm => ?_, fun k hk => ?_⟩
  · by_cases q : i = j
    · subst q
      unfold setRow dk dn di
      dsimp only
      rw [up1_eq, up1_eq, up1_eq]
      exact hn
    · unfold setRow dk dn di
      dsimp only
      rw [up1_ne q, up1_ne q, up1_ne q]
      exact (hr.1 i hi).mo h (by unfold rowS; omega) (by unfold rowS; omega)
  · rw [h.I (by unfold rowS; omega)]; exact hr.2.1 m hm
  · rw [h.L (by unfold rowS; omega)]; exact hr.2.2 k hk
theorem RD.wm {M : Mem} {s m : Nat} {d : DS} {x : Int32} (hm : m < 4) (hr : RD M s d) : RD (uI M (s + 3) m x) s (setM d m x) := by
  have h : Mo (fun b => b = s + 3) M (uI M (s + 3) m x) := Mo_uI rfl
  refine ⟨fun i hi => (hr.1 i hi).mo h (by omega) (by omega), fun q hq => ?_, fun k hk => hr.2.2 k hk⟩
  unfold setM dm
  dsimp only
  by_cases w : q = m
  · subst w; rw [rI_eq, up1_eq]
  · rw [rI_k w, up1_ne w]; exact hr.2.1 q hq
theorem RD.ws {M : Mem} {s k : Nat} {d : DS} {x : Int64} (hk : k < 8) (hr : RD M s d) : RD (uL M (s + 4) k x) s (setS d k x) := by
  have h : Mo (fun b => b = s + 4) M (uL M (s + 4) k x) := Mo_uL rfl
  refine ⟨fun i hi => (hr.1 i hi).mo h (by omega) (by omega), fun q hq => hr.2.1 q hq, fun q hq => ?_⟩
  unfold setS dsc
  dsimp only
  by_cases w : q = k
  · subst w; rw [rL_eq, up1_eq]
  · rw [rL_k w, up1_ne w]; exact hr.2.2 q hq
/-- bits of a kind -/
def okJ (k : Int32) (x : Int64) : Prop := (isRk k → finJ k x) ∧ (¬ isRk k → f_X3_lowBits k x = x)
/-- data as they can be -/
def WD (d : DS) : Prop := (∀ j, j < 16 → ((dk d j = -1 ∧ dn d j = 0) ∨ (isK (dk d j) ∧ dn d j ≤ 64 ∧ (j % 2 = 0 → 1 ≤ dn d j ∧ dn d j ≤ 32))) ∧ ∀ i, i < dn d j → okJ (dk d j) (di d j i))
  ∧ dn d 1 + dn d 3 + dn d 5 + dn d 7 + dn d 9 + dn d 11 + dn d 13 + dn d 15 ≤ 400
/-- two states that are alike -/
def sameRow (d e : DS) (j : Nat) : Prop := dk d j = dk e j ∧ dn d j = dn e j ∧ ∀ i, i < dn d j → di d j i = di e j i
end DATA
