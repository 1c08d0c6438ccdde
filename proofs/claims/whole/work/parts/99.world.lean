section WORLD
theorem arrP {s : State} {args : Array Value} {ty : FieldType} (h9 : ∀ C, ty ≠ .object C) (h : (Cond.arrayClass ty).before args s = true) : ∃ c, ArrOfT s c ty ∧ va_RA s c ty := by
  obtain ⟨c, k, comp, h1, h2, h3⟩ := Cond.arrayClass_spec h
  refine ⟨c, fun n z => ⟨fun k h => (by cases h), k, h2, comp, h3⟩, ?_⟩
  cases ty with
  | object C => exact absurd rfl (h9 C)
  | _ => exact h1
theorem arrO {s : State} {args : Array Value} {C : String} (h : (Cond.arrayOver (.object C)).before args s = true) : ∃ c, ArrOfT s c (.object C) ∧ va_RA s c (.object C) := by
  obtain ⟨comp, c, k, h1, h2, h3, h4, h5⟩ := Cond.arrayOver_spec h
  exact ⟨c, fun n z => ⟨fun k h => (by cases h), k, h3, comp, h4⟩, k, comp, h3, h4, h1, h5⟩
theorem arr_ref {s : State} {args : Array Value} {t : Term} {ty : FieldType} (h : (Cond.arrayOf t ty).before args s = true) : ∃ a : Nat, t.eval args s none [] s = some (.ref a) := by
  cases ht : t.eval args s none [] s with
  | none => simp [Cond.before, Cond.holds, Cond.value, ht] at h
  | some v =>
    cases v with
    | ref a => exact ⟨a, rfl⟩
    | _ => simp [Cond.before, Cond.holds, Cond.value, ht] at h
theorem vw_all : ∀ q ∈ vwCl, (∀ x ∈ u_ws q.1 q.2.1 q.2.2, x ∈ lw_tbl) ∧ Cond.instantiable q.1 q.2.2 ∈ lw_tbl := by decide +kernel
theorem c_all : ∀ k ∈ List.range 500, cOk k = true → (Cond.exactly (cTm k) "LaneMachine$Op" ∈ nwL ∨ Cond.exactly (cTm k) "java/lang/String" ∈ nwL ∨ Cond.exactly (cTm k) "[B" ∈ nwL) ∨ Cond.arrayOf (cTm k) .int ∈ nwL ∨ Cond.arrayOf (cTm k) (.object "LaneMachine$Op") ∈ nwL := by decide +kernel
theorem world {s : State} {args : Array Value} (hts : ∀ x ∈ lw_tbl, x.before args s = true) (hgv : (Jvm.Cond.and given_1 narrow_1).before args s = true) : ∃ w : Wd, wS w = s ∧ Ok w := by
  have hK : ∀ c, ∃ (cC : ClassId) (iS : Nat → Nat), ∀ q, vwCl[c]? = some q → u_Kn s q.1 q.2.1 q.2.2 cC iS := by
    intro c
    cases hc : vwCl[c]? with
    | none => exact ⟨0, fun _ => 0, fun q h => by cases h⟩
    | some q =>
      obtain ⟨h1, h2⟩ := vw_all q (List.mem_of_getElem? hc)
      obtain ⟨cC, iS, h3⟩ := u_known hts h1 (hts _ h2)
      exact ⟨cC, iS, fun q' h => by cases h; exact h3⟩
  have hA : ∀ k, ∃ c : ClassId, k < 8 → ArrOfT s c (tyS.getD k .int) ∧ va_RA s c (tyS.getD k .int) := by
    intro k
    match k with
    | 0 => obtain ⟨c, h⟩ := arrP (ty := .byte) (fun _ h => by cases h) (hts (.arrayClass .byte) (List.mem_of_getElem? (i := 751) (by decide +kernel))); exact ⟨c, fun _ => h⟩
    | 1 => obtain ⟨c, h⟩ := arrP (ty := .double) (fun _ h => by cases h) (hts (.arrayClass .double) (List.mem_of_getElem? (i := 2156) (by decide +kernel))); exact ⟨c, fun _ => h⟩
    | 2 => obtain ⟨c, h⟩ := arrP (ty := .int) (fun _ h => by cases h) (hts (.arrayClass .int) (List.mem_of_getElem? (i := 243) (by decide +kernel))); exact ⟨c, fun _ => h⟩
    | 3 => obtain ⟨c, h⟩ := arrP (ty := .long) (fun _ h => by cases h) (hts (.arrayClass .long) (List.mem_of_getElem? (i := 206) (by decide +kernel))); exact ⟨c, fun _ => h⟩
    | 4 => obtain ⟨c, h⟩ := arrP (ty := .boolean) (fun _ h => by cases h) (hts (.arrayClass .boolean) (List.mem_of_getElem? (i := 512) (by decide +kernel))); exact ⟨c, fun _ => h⟩
    | 5 => obtain ⟨c, h⟩ := arrO (C := RX8) (hts (.arrayOver (.object RX8)) (List.mem_of_getElem? (i := 354) (by decide +kernel))); exact ⟨c, fun _ => h⟩
    | 6 => obtain ⟨c, h⟩ := arrO (C := RX9) (hts (.arrayOver (.object RX9)) (List.mem_of_getElem? (i := 303) (by decide +kernel))); exact ⟨c, fun _ => h⟩
    | 7 => obtain ⟨c, h⟩ := arrO (C := RX10) (hts (.arrayOver (.object RX10)) (List.mem_of_getElem? (i := 514) (by decide +kernel))); exact ⟨c, fun _ => h⟩
    | k + 8 => exact ⟨0, fun h => absurd h (by omega)⟩
  have hC : ∀ k, ∃ a : Nat, cOk k = true → (cTm k).eval args s none [] s = some (.ref a) := by
    intro k
    by_cases hk : cOk k = true
    · have hk9 : k < 500 := by
        unfold cOk nTx at hk
        simp at hk
        omega
      have hf : ∀ x ∈ nwL, x.before args s = true := flat_of_before _ hgv
      rcases c_all k (List.mem_range.mpr hk9) hk with (h | h | h) | h | h
      · obtain ⟨a, c, cell, k9, q1, -⟩ := Cond.exactly_spec (hf _ h); exact ⟨a, fun _ => q1⟩
      · obtain ⟨a, c, cell, k9, q1, -⟩ := Cond.exactly_spec (hf _ h); exact ⟨a, fun _ => q1⟩
      · obtain ⟨a, c, cell, k9, q1, -⟩ := Cond.exactly_spec (hf _ h); exact ⟨a, fun _ => q1⟩
      · obtain ⟨a, q1⟩ := arr_ref (hf _ h); exact ⟨a, fun _ => q1⟩
      · obtain ⟨a, q1⟩ := arr_ref (hf _ h); exact ⟨a, fun _ => q1⟩
    · exact ⟨0, fun h => absurd h hk⟩
  refine ⟨⟨(fun c => Classical.choose (hK c), fun c => Classical.choose (Classical.choose_spec (hK c))), fun k => Classical.choose (hA (k - 11)), s, fun k => Classical.choose (hC k), args⟩, rfl, ⟨fun c q hq => Classical.choose_spec (Classical.choose_spec (hK c)) q hq, fun k q hq => ?_⟩, hts, hgv, fun k hk => Classical.choose_spec (hC k) hk⟩
  unfold tysW at hq
  rw [List.getElem?_map] at hq
  by_cases hk : k < 8
  · rw [List.getElem?_range hk] at hq
    cases hq
    have := Classical.choose_spec (hA k) hk
    show ArrOfT s (Classical.choose (hA (11 + k - 11))) _ ∧ va_RA s (Classical.choose (hA (11 + k - 11))) _
    rw [Nat.add_sub_cancel_left]
    exact this
  · rw [List.getElem?_eq_none (by simpa using hk)] at hq
    cases hq
end WORLD
