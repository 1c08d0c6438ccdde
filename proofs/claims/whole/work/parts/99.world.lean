section WORLD
theorem arrP {s : State} {args : Array Value} {ty : FieldType} (h9 : ∀ C, ty ≠ .object C) (h : (Cond.arrayClass ty).before args s = true) : ∃ c, ArrOfT s c ty ∧ va_RA s c ty := by
  obtain ⟨c, k, comp, h1, h2, h3⟩ := Cond.arrayClass_spec h
  refine ⟨c, fun n z => ⟨fun k h => (by cases h), k, h2, comp, h3⟩, ?_⟩
  cases ty with
  | object C => exact absurd rfl (h9 C)
  | _ => exact h1
theorem arrO {s : State} {args : Array Value} {C : String} (h : (Cond.arrayOver (.object C)).before args s = true) : ∃ c, ArrOfT s c (.object C) ∧ va_RA s c (.object C) := by
  obtain ⟨comp, c, k, h1, h2, h3, h4, h5⟩ := Cond.arrayOver_spec h
  exact ⟨c, fun n z => ⟨fun k h => (by cases h), k, h3, comp, h4⟩, k, comp, h3, h4, h1, h5⟩
theorem arr_ref {s : State} {args : Array Value} {t : Term} {ty : FieldType} (h : (Cond.arrayOf t ty).before args s = true) : ∃ a : Nat, t.eval args s none [] s = some (.ref a) := by
  cases ht : t.eval args s none [] s with
  | none => simp [Cond.before, Cond.holds, Cond.value, ht] at h
  | some v =>
    cases v with
    | ref a => exact ⟨a, rfl⟩
    | _ => simp [Cond.before, Cond.holds, Cond.value, ht] at h
theorem tl_in {C : String} {T : u_T} {N : Nat} (ps : List Nat) (h : ∀ k, k < N → lw_tbl[ps.getD k 0]? = some (u_lay C T k)) : ∀ x ∈ u_ws C T N, x ∈ lw_tbl := by
  intro x hx
  obtain ⟨k, hk, rfl⟩ := List.mem_map.mp hx
  exact List.mem_of_getElem? (h k (List.mem_range.mp hk))
theorem kn_wd {s : State} {args : Array Value} (hts : ∀ x ∈ lw_tbl, x.before args s = true) {C : String} {T : u_T} {N c i : Nat} (hin : ∀ x ∈ u_ws C T N, x ∈ lw_tbl) (hi : lw_tbl[i]? = some (.instantiable C N)) (hc : vwCl[c]? = some (C, T, N)) : ∃ (cC : ClassId) (iS : Nat → Nat), ∀ q, vwCl[c]? = some q → u_Kn s q.1 q.2.1 q.2.2 cC iS := by
  obtain ⟨cC, iS, h3⟩ := u_known hts hin (hts _ (List.mem_of_getElem? hi))
  refine ⟨cC, iS, fun q h => ?_⟩
  rw [hc] at h
  cases h
  exact h3
theorem okin {C : String} {T : u_T} {N : Nat} (h : ∀ x ∈ u_ws C T N, x ∈ lw_ok) : ∀ x ∈ u_ws C T N, x ∈ lw_tbl := fun x hx => (List.mem_filter.mp (h x hx)).1
theorem world {s : State} {args : Array Value} (hts : ∀ x ∈ lw_tbl, x.before args s = true) (hgv : (Jvm.Cond.and given_1 narrow_1).before args s = true) : ∃ w : Wd, wS w = s ∧ Ok w := by
  have hK : ∀ c : Nat, ∃ (cC : ClassId) (iS : Nat → Nat), ∀ q, vwCl[c]? = some q → u_Kn s q.1 q.2.1 q.2.2 cC iS := by
    intro c
    match c with
    | 0 => exact kn_wd hts (tl_in (C := RJ0) (T := TJ0) (N := 4) [955, 957, 959, 961] (by decide +kernel)) (i := 886) (by decide +kernel) rfl
    | 1 => exact kn_wd hts (tl_in (C := RJ4) (T := TJ4) (N := 4) [742, 744, 746, 748] (by decide +kernel)) (i := 722) (by decide +kernel) rfl
    | 2 => exact kn_wd hts (tl_in (C := RJx00060) (T := TJx00060) (N := 6) [970, 971, 972, 973, 974, 988] (by decide +kernel)) (i := 965) (by decide +kernel) rfl
    | 3 => exact kn_wd hts (okin cl_0) (i := 494) (by decide +kernel) rfl
    | 4 => exact kn_wd hts (okin cl_1) (i := 342) (by decide +kernel) rfl
    | 5 => exact kn_wd hts (okin cl_2) (i := 245) (by decide +kernel) rfl
    | 6 => exact kn_wd hts (okin cl_3) (i := 185) (by decide +kernel) rfl
    | 7 => exact kn_wd hts (okin cl_4) (i := 179) (by decide +kernel) rfl
    | 8 => exact kn_wd hts (okin cl_5) (i := 265) (by decide +kernel) rfl
    | 9 => exact kn_wd hts (okin cl_6) (i := 259) (by decide +kernel) rfl
    | 10 => exact kn_wd hts (okin cl_7) (i := 348) (by decide +kernel) rfl
    | 11 => exact kn_wd hts (okin cl_8) (i := 253) (by decide +kernel) rfl
    | 12 => exact kn_wd hts (okin cl_9) (i := 171) (by decide +kernel) rfl
    | 13 => exact kn_wd hts (okin cl_10) (i := 1821) (by decide +kernel) rfl
    | n + 14 => exact ⟨0, fun _ => 0, fun q h => by cases h⟩
  have hA : ∀ k, ∃ c : ClassId, k < 8 → ArrOfT s c (tyS.getD k .int) ∧ va_RA s c (tyS.getD k .int) := by
    intro k
    match k with
    | 0 => obtain ⟨c, h⟩ := arrP (ty := .byte) (fun _ h => by cases h) (hts (.arrayClass .byte) (List.mem_of_getElem? (i := 751) (by decide +kernel))); exact ⟨c, fun _ => h⟩
    | 1 => obtain ⟨c, h⟩ := arrP (ty := .double) (fun _ h => by cases h) (hts (.arrayClass .double) (List.mem_of_getElem? (i := 2156) (by decide +kernel))); exact ⟨c, fun _ => h⟩
    | 2 => obtain ⟨c, h⟩ := arrP (ty := .int) (fun _ h => by cases h) (hts (.arrayClass .int) (List.mem_of_getElem? (i := 243) (by decide +kernel))); exact ⟨c, fun _ => h⟩
    | 3 => obtain ⟨c, h⟩ := arrP (ty := .long) (fun _ h => by cases h) (hts (.arrayClass .long) (List.mem_of_getElem? (i := 206) (by decide +kernel))); exact ⟨c, fun _ => h⟩
    | 4 => obtain ⟨c, h⟩ := arrP (ty := .boolean) (fun _ h => by cases h) (hts (.arrayClass .boolean) (List.mem_of_getElem? (i := 512) (by decide +kernel))); exact ⟨c, fun _ => h⟩
    | 5 => obtain ⟨c, h⟩ := arrO (C := RX8) (hts (.arrayOver (.object RX8)) (List.mem_of_getElem? (i := 354) (by decide +kernel))); exact ⟨c, fun _ => h⟩
    | 6 => obtain ⟨c, h⟩ := arrO (C := RX9) (hts (.arrayOver (.object RX9)) (List.mem_of_getElem? (i := 303) (by decide +kernel))); exact ⟨c, fun _ => h⟩
    | 7 => obtain ⟨c, h⟩ := arrO (C := RX10) (hts (.arrayOver (.object RX10)) (List.mem_of_getElem? (i := 514) (by decide +kernel))); exact ⟨c, fun _ => h⟩
    | k + 8 => exact ⟨0, fun h => absurd h (by omega)⟩
  have hf : ∀ x ∈ nwL, x.before args s = true := flat_of_before _ hgv
  have hex : ∀ {t : Term} {C : String}, Cond.exactly t C ∈ nwL → ∃ a : Nat, t.eval args s none [] s = some (.ref a) := by
    intro t C h
    obtain ⟨a, c, cell, k9, q1, -⟩ := Cond.exactly_spec (hf _ h)
    exact ⟨a, q1⟩
  have hC : ∀ k, ∃ a : Nat, cOk k = true → (cTm k).eval args s none [] s = some (.ref a) := by
    intro k
    by_cases hk : cOk k = true
    · have hk9 : k < 68 ∨ k = 100 ∨ k = 101 ∨ (200 ≤ k ∧ k < 298) ∨ (400 ≤ k ∧ k < 498) := by
        unfold cOk nTx at hk
        simp at hk
        omega
      rcases hk9 with h | rfl | rfl | h | h
      · obtain ⟨a, q⟩ := hex (List.mem_of_getElem? (nw_exact k h))
        refine ⟨a, fun _ => ?_⟩
        unfold cTm
        rw [if_pos (by omega)]
        exact q
      · obtain ⟨a, q⟩ := arr_ref (hf _ (List.mem_of_getElem? (nw_misc 2 (by decide))))
        exact ⟨a, fun _ => q⟩
      · obtain ⟨a, q⟩ := arr_ref (hf _ (List.mem_of_getElem? (nw_misc 0 (by decide))))
        exact ⟨a, fun _ => q⟩
      · obtain ⟨a, q⟩ := hex (List.mem_of_getElem? (nw_tex (k - 200) (by omega)))
        refine ⟨a, fun _ => ?_⟩
        unfold cTm
        rw [if_neg (by omega), if_neg (by omega), if_neg (by omega), if_pos (by omega)]
        exact q
      · obtain ⟨a, q⟩ := arr_ref (hf _ (List.mem_of_getElem? (nw_tar (k - 400) (by omega))))
        refine ⟨a, fun _ => ?_⟩
        unfold cTm
        rw [if_neg (by omega), if_neg (by omega), if_neg (by omega), if_neg (by omega)]
        exact q
    · exact ⟨0, fun h => absurd h hk⟩
  refine ⟨⟨(fun c => Classical.choose (hK c), fun c => Classical.choose (Classical.choose_spec (hK c))), fun k => Classical.choose (hA (k - 11)), s, fun k => Classical.choose (hC k), args⟩, rfl, ⟨fun c q hq => Classical.choose_spec (Classical.choose_spec (hK c)) q hq, fun k q hq => ?_⟩, hts, hgv, fun k hk => Classical.choose_spec (hC k) hk⟩
  unfold tysW at hq
  rw [List.getElem?_map] at hq
  by_cases hk : k < 8
  · rw [List.getElem?_range hk] at hq
    cases hq
    have := Classical.choose_spec (hA k) hk
    show ArrOfT s (Classical.choose (hA (11 + k - 11))) _ ∧ va_RA s (Classical.choose (hA (11 + k - 11))) _
    rw [Nat.add_sub_cancel_left]
    exact this
  · rw [List.getElem?_eq_none (by simpa using hk)] at hq
    cases hq
end WORLD
