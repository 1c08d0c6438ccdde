section BASE
/-- the machine's locals hold what the list says -/
def LocR (w : Wd) (nL : Nat) (L : LocS) (ls : Array Slot) : Prop := ls.size = nL ∧ L.length = nL ∧ lv_wf ls ∧ ∀ (i : Nat) (v : Value), lget i L = some v → ls[i]? = some (.val (tr w v))
theorem lget_lt {L : LocS} : ∀ {i : Nat} {v : Value}, lget i L = some v → i < L.length := by
  induction L with
  | nil => intro i v h; simp [lget] at h
  | cons a t ih =>
    intro i v h
    cases i with
    | zero => simp
    | succ n => simp only [lget] at h; have := ih h; simp; omega
theorem lput_len (L : LocS) : ∀ (i : Nat) (o : Option Value), (lput i o L).length = L.length := by
  induction L with
  | nil => intro i o; cases i <;> rfl
  | cons a t ih => intro i o; cases i with
    | zero => rfl
    | succ n => simp only [lput, List.length_cons, ih]
theorem lkill_len (L : LocS) : ∀ (i : Nat), (lkill i L).length = L.length := by
  induction L with
  | nil => intro i; cases i <;> rfl
  | cons a t ih => intro i; cases i with
    | zero => rfl
    | succ n => simp only [lkill, List.length_cons, ih]
theorem lset1_len (L : LocS) (i : Nat) (v : Value) : (lset1 i v L).length = L.length := by
  cases i with
  | zero => exact lput_len _ _ _
  | succ n => simp only [lset1, lput_len, lkill_len]
theorem lset2_len (L : LocS) (i : Nat) (v : Value) : (lset2 i v L).length = L.length := by simp only [lset2, lput_len, lset1_len]
theorem lget_lput (L : LocS) : ∀ (i j : Nat) (o : Option Value) (v : Value), lget j (lput i o L) = some v → (j = i ∧ o = some v) ∨ (j ≠ i ∧ lget j L = some v) := by
  induction L with
  | nil => intro i j o v h; cases i <;> cases j <;> simp [lput, lget] at h
  | cons a t ih =>
    intro i j o v h
    cases i with
    | zero =>
      cases j with
      | zero => simp only [lput, lget] at h; exact Or.inl ⟨rfl, h⟩
      | succ j => simp only [lput, lget] at h; exact Or.inr ⟨by omega, by simpa only [lget] using h⟩
    | succ i =>
      cases j with
      | zero => simp only [lput, lget] at h; exact Or.inr ⟨by omega, by simpa only [lget] using h⟩
      | succ j =>
        simp only [lput, lget] at h
        rcases ih i j o v h with ⟨e, h⟩ | ⟨e, h⟩
        · exact Or.inl ⟨by omega, h⟩
        · exact Or.inr ⟨by omega, by simpa only [lget] using h⟩
theorem lk_some {o : Option Value} {v : Value} (h : lk o = some v) : o = some v ∧ ¬ v.category = 2 := by
  cases o with
  | none => simp [lk] at h
  | some x => cases x <;> simp_all [lk, Value.category] <;> (subst h; simp)
theorem lget_lkill (L : LocS) : ∀ (i j : Nat) (v : Value), lget j (lkill i L) = some v → lget j L = some v ∧ (j = i → ¬ v.category = 2) := by
  induction L with
  | nil => intro i j v h; cases i <;> cases j <;> simp [lkill, lget] at h
  | cons a t ih =>
    intro i j v h
    cases i with
    | zero =>
      cases j with
      | zero => simp only [lkill, lget] at h; obtain ⟨h1, h2⟩ := lk_some h; exact ⟨by simpa only [lget] using h1, fun _ => h2⟩
      | succ j => simp only [lkill, lget] at h; exact ⟨by simpa only [lget] using h, by omega⟩
    | succ i =>
      cases j with
      | zero => simp only [lkill, lget] at h; exact ⟨by simpa only [lget] using h, by omega⟩
      | succ j =>
        simp only [lkill, lget] at h
        obtain ⟨h1, h2⟩ := ih i j v h
        exact ⟨by simpa only [lget] using h1, fun e => h2 (by omega)⟩
theorem lget_lset1 {L : LocS} {i j : Nat} {v x : Value} (h : lget j (lset1 i v L) = some x) : (j = i ∧ x = v) ∨ (j ≠ i ∧ lget j L = some x ∧ ¬ (j + 1 = i ∧ x.category = 2)) := by
  cases i with
  | zero =>
    simp only [lset1] at h
    rcases lget_lput _ _ _ _ _ h with ⟨e, h⟩ | ⟨e, h⟩
    · exact Or.inl ⟨e, by cases h; rfl⟩
    · exact Or.inr ⟨e, h, by omega⟩
  | succ n =>
    simp only [lset1] at h
    rcases lget_lput _ _ _ _ _ h with ⟨e, h⟩ | ⟨e, h⟩
    · exact Or.inl ⟨e, by cases h; rfl⟩
    · obtain ⟨h1, h2⟩ := lget_lkill _ _ _ _ h
      exact Or.inr ⟨e, h1, fun q => h2 (by omega) q.2⟩
theorem lget_lset2 {L : LocS} {i j : Nat} {v x : Value} (h : lget j (lset2 i v L) = some x) : (j = i ∧ x = v) ∨ (j ≠ i ∧ j ≠ i + 1 ∧ lget j L = some x ∧ ¬ (j + 1 = i ∧ x.category = 2)) := by
  rcases lget_lput _ _ _ _ _ h with ⟨e, h⟩ | ⟨e, h⟩
  · cases h
  · rcases lget_lset1 h with h | ⟨h1, h2, h3⟩
    · exact Or.inl h
    · exact Or.inr ⟨h1, e, h2, h3⟩
theorem tr_cat (w : Wd) (v : Value) : (tr w v).category = v.category := by cases v <;> rfl
def lvL (w : Wd) (L : LocS) : List (Nat × Value) := (List.range L.length).filterMap fun i => (lget i L).map fun v => (i, tr w v)
theorem lvL_mem {w : Wd} {L : LocS} {i : Nat} {v : Value} (h : lget i L = some v) : (i, tr w v) ∈ lvL w L := List.mem_filterMap.mpr ⟨i, List.mem_range.mpr (lget_lt h), by rw [h]; rfl⟩
theorem LocR.has {w : Wd} {nL : Nat} {L : LocS} {ls : Array Slot} (h : LocR w nL L ls) : lv_has ls nL (lvL w L) := by
  refine ⟨h.1, h.2.2.1, fun q hq => ?_⟩
  obtain ⟨i, hi, he⟩ := List.mem_filterMap.mp hq
  cases hv : lget i L with
  | none => rw [hv] at he; cases he
  | some v => rw [hv] at he; cases he; exact h.2.2.2 i v hv
theorem LocR.store1 {w : Wd} {nL i : Nat} {L : LocS} {ls ls' : Array Slot} {v : Value} (h : LocR w nL L ls) (hs : lv_has ls' nL ((i, tr w v) :: (lvL w L).filter (fun q => !(q.1 == i) && !(q.1 + 1 == i && q.2.category == 2)))) : LocR w nL (lset1 i v L) ls' := by
  refine ⟨hs.1, by rw [lset1_len]; exact h.2.1, hs.2.1, fun j x hj => ?_⟩
  rcases lget_lset1 hj with ⟨rfl, rfl⟩ | ⟨h1, h2, h3⟩
  · exact hs.2.2 _ List.mem_cons_self
  · refine hs.2.2 (j, tr w x) (List.mem_cons_of_mem _ (List.mem_filter.mpr ⟨lvL_mem h2, ?_⟩))
    have e : ((tr w x).category == 2) = (x.category == 2) := by rw [tr_cat]
    simp only [e, Bool.and_eq_true, Bool.not_eq_true', beq_eq_false_iff_ne, ne_eq, Bool.and_eq_false_iff]
    refine ⟨h1, ?_⟩
    by_cases q : j + 1 = i
    · exact Or.inr fun z => h3 ⟨q, z⟩
    · exact Or.inl q
theorem LocR.store2 {w : Wd} {nL i : Nat} {L : LocS} {ls ls' : Array Slot} {v : Value} (h : LocR w nL L ls) (hs : lv_has ls' nL ((i, tr w v) :: (lvL w L).filter (fun q => !(q.1 == i) && (!(q.1 == i + 1) && !(q.1 + 1 == i && q.2.category == 2))))) : LocR w nL (lset2 i v L) ls' := by
  refine ⟨hs.1, by rw [lset2_len]; exact h.2.1, hs.2.1, fun j x hj => ?_⟩
  rcases lget_lset2 hj with ⟨rfl, rfl⟩ | ⟨h1, h4, h2, h3⟩
  · exact hs.2.2 _ List.mem_cons_self
  · refine hs.2.2 (j, tr w x) (List.mem_cons_of_mem _ (List.mem_filter.mpr ⟨lvL_mem h2, ?_⟩))
    have e : ((tr w x).category == 2) = (x.category == 2) := by rw [tr_cat]
    simp only [e, Bool.and_eq_true, Bool.not_eq_true', beq_eq_false_iff_ne, ne_eq, Bool.and_eq_false_iff]
    refine ⟨h1, h4, ?_⟩
    by_cases q : j + 1 = i
    · exact Or.inr fun z => h3 ⟨q, z⟩
    · exact Or.inl q
theorem lget_app (A B : LocS) (i : Nat) : lget i (A ++ B) = if i < A.length then lget i A else lget (i - A.length) B := by
  induction A generalizing i with
  | nil => simp
  | cons a t ih =>
    cases i with
    | zero => simp [lget]
    | succ n => simp only [List.cons_append, lget, ih, List.length_cons, Nat.add_lt_add_iff_right, Nat.add_sub_add_right]
theorem lget_rep (n i : Nat) : lget i (List.replicate n none) = none := by
  induction n generalizing i with
  | zero => cases i <;> rfl
  | succ n ih => cases i with
    | zero => rfl
    | succ i => simp only [List.replicate_succ, lget, ih]
theorem lent_args (w : Wd) (As : List Value) : ∀ (i k : Nat) (v : Value), lget i (lent As) = some v → (k + i, tr w v) ∈ lv_args k (As.map (tr w)) := by
  induction As with
  | nil => intro i k v h; cases i <;> simp [lent, lget] at h
  | cons a t ih =>
    intro i k v h
    cases a <;> simp only [lent] at h <;> (cases i with
      | zero => simp only [lget, Option.some.injEq] at h; subst h; simp [lv_args]
      | succ n =>
        first
          | (cases n with
              | zero => simp [lget] at h; done
              | succ n =>
                simp only [lget] at h
                have := ih n (k + 2) v h
                rw [show k + (n + 1 + 1) = k + 2 + n by omega]
                exact List.mem_cons_of_mem _ this)
          | (simp only [lget] at h
             have := ih n (k + 1) v h
             rw [show k + (n + 1) = k + 1 + n by omega]
             exact List.mem_cons_of_mem _ this))
theorem lent_len (w : Wd) (As : List Value) : (lg_sl (As.map (tr w))).length = (lent As).length := by
  induction As with
  | nil => rfl
  | cons a t ih =>
    have e : lg_sl ((a :: t).map (tr w)) = (if (tr w a).category = 2 then [Slot.val (tr w a), Slot.second] else [Slot.val (tr w a)]) ++ lg_sl (t.map (tr w)) := rfl
    rw [e]
    cases a <;> simp [lent, tr, Value.category, ih]
theorem LocR.entry {w : Wd} {nL : Nat} {As : List Value} (hn : (lent As).length ≤ nL) : LocR w nL (lini nL As) ((lg_sl (As.map (tr w)) ++ List.replicate (nL - (lg_sl (As.map (tr w))).length) Slot.unset).toArray) := by
  have hl := lv_entry (As.map (tr w)) (n := nL) (by rw [lent_len]; exact hn)
  refine ⟨hl.1, by simp [lini]; omega, hl.2.1, fun i v h => ?_⟩
  simp only [lini, lget_app, lget_rep] at h
  split at h
  · have := lent_args w As i 0 v h
    rw [Nat.zero_add] at this
    exact hl.2.2 _ this
  · cases h
end BASE
