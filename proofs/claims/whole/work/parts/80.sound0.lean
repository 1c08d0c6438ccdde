section SOUND0
theorem soJx29ce0_ordinal_8abf5 {p : Program} {l : Launch} {e : Jvm.Env} {R : Room} {s : State} {m : MethodId} {args : Array Value} {below : List Frame} {meth : Method} {c : Code} {Q : State → Prop} {w : Wd} {n0 : Nat} {K : RT} {t1 : Nat × Bool} (h : Cx p s m args c w cJx29ce0_ordinal_8abf5 RJx29ce0 1) (hr : Cr R 2 n0 t1.1 0) (hre : Re p l e R s m args below meth c Q w n0 t1 K (some .int)) : cloJx29ce0_ordinal_8abf5 (Gm p l e R s m args below meth c Q w 1 n0 t1.1 0) K t1 :=
  (s_aload_n h (show decode cJx29ce0_ordinal_8abf5 0 = .ok (.aload_n 0, 1) from by decide +kernel) rfl (s_ordinal h (lw_in 2718 (by decide +kernel) rfl) (show decode cJx29ce0_ordinal_8abf5 1 = .ok (.getfield 7, 3) from by decide +kernel) (s_iret h hre (show decode cJx29ce0_ordinal_8abf5 4 = .ok (.ireturn, 1) from by decide +kernel))))
theorem yk_Jx29ce0_ordinal_8abf5 : Cond.instanceMethod yJx29ce0_ordinal_8abf5 ∈ lw_ok ∧ Cond.initialized yJx29ce0_ordinal_8abf5.cls ∈ lw_ok ∧ Cond.code yJx29ce0_ordinal_8abf5 cJx29ce0_ordinal_8abf5 1 (some .int) ∈ lw_ok := ⟨lw_in 1155 (by decide +kernel) rfl, lw_in 164 (by decide +kernel) rfl, lw_in 1156 (by decide +kernel) rfl⟩
theorem ct_Jx29ce0_ordinal_8abf5 : Ctr yJx29ce0_ordinal_8abf5 cJx29ce0_ordinal_8abf5 1 (some .int) 2 0 sp_Jx29ce0_ordinal_8abf5 := Ctr_of (by decide +kernel) (fun _ _ _ hs => hs.1) (fun h hr hre hs => hs.2 _ (soJx29ce0_ordinal_8abf5 h hr hre))
theorem sp_ordinal : ∀ (a : Nat) (M : Mem) (K : RT), isOp a → K (some (.int (Int32.ofNat (a - 100000)))) M → sp_Jx29ce0_ordinal_8abf5 [.ref a] M K := by
  intro a M K ha hK
  refine ⟨Nat.le_refl _, fun G hc => ?_⟩
  refine hc _ _ _ ?_
  simp only [BJx29ce0_ordinal_8abf5_0, w_aload, w_ordinal, w_iret, lini, lent, lget]
  exact ⟨ha, trivial, hK⟩
theorem or_T {own : String} {idx : Nat} (hl : Cond.methodLink own idx ⟨"LaneMachine$Op", "ordinal", "()I"⟩ ∈ lw_ok) : GoodIn lw_ok (va_wsU own idx "LaneMachine$Op" "java/lang/Enum" ⟨"LaneMachine$Op", "ordinal", "()I"⟩ yJx29ce0_ordinal_8abf5 (.code yJx29ce0_ordinal_8abf5 cJx29ce0_ordinal_8abf5 1 (some .int) :: lw_ok)) := by
  have h2 : Cond.sameMethod "LaneMachine$Op" "java/lang/Enum" "ordinal" "()I" ∈ lw_ok := lw_in 1152 (by decide +kernel) rfl
  have h3 : Cond.selects "LaneMachine$Op" ⟨"LaneMachine$Op", "ordinal", "()I"⟩ yJx29ce0_ordinal_8abf5 ∈ lw_ok := lw_in 1154 (by decide +kernel) rfl
  intro x hx
  have hm : x ∈ lw_ok := by
    rcases List.mem_append.mp hx with hx | hx
    · simp only [List.mem_cons, List.not_mem_nil, or_false] at hx
      rcases hx with rfl | rfl | rfl | rfl | rfl
      · exact hl
      · exact h2
      · exact h3
      · exact yk_Jx29ce0_ordinal_8abf5.1
      · exact yk_Jx29ce0_ordinal_8abf5.2.1
    · rcases List.mem_cons.mp hx with rfl | hx
      · exact yk_Jx29ce0_ordinal_8abf5.2.2
      · exact hx
  exact ⟨hm, good_of_word (List.mem_filter.mp hm).2⟩
end SOUND0
