section SHIFT13
theorem and_m1 (x : Int64) : x &&& (((-1 : Int64).toUInt64 >>> (((64 : Int32) - (f_X3_width 4)).toInt64.toUInt64 &&& Int64.toUInt64 63)).toInt64) = x := by
  have e : (((-1 : Int64).toUInt64 >>> (((64 : Int32) - (f_X3_width 4)).toInt64.toUInt64 &&& Int64.toUInt64 63)).toInt64) = -1 := by decide +kernel
  rw [e]
  apply Int64.toBitVec_inj.mp
  rw [Int64.toBitVec_and]
  show x.toBitVec &&& BitVec.allOnes 64 = x.toBitVec
  exact BitVec.and_allOnes
theorem c_shift13 {o : Nat} {k : Int32} {w b S : Int64} {M : Mem} {K : RT} (ho : o = 11 ∨ o = 12 ∨ o = 13) (hW : Wf M) (hk : isK k) (hr : ¬ isRk k) (hb : okJ k b) (hv : w = b) (h : mkC M K k (0, shS o k b S)) : sp_X13_shift [.ref 605, .int (nI o), .int k, .long w, .long S] M K := by
  have hh := h.ok rfl
  subst hv
  refine wX13_shift hW (fun {G} hc => ?_)
  have amt : ∀ m : Int32, m = f_X3_width k - 1 → m.toInt64.toInt32 = m → (S &&& m.toInt64).toInt32 = S.toInt32 &&& (f_X3_width k - 1) := by
    intro m e e2
    rw [Int64.toInt32_and, e2, e]
  have last : ∀ s0 : Int64, (o = 13 → s0 = w &&& (((-1 : Int64).toUInt64 >>> (((64 : Int32) - (f_X3_width k)).toInt64.toUInt64 &&& Int64.toUInt64 63)).toInt64)) → ∀ o5 o6 o8 o9, G 62 [some (.ref 605), some (.int (nI o)), some (.int k), some (.long w), none, o5, o6, some (.int (S.toInt32 &&& (f_X3_width k - 1))), o8, o9] [.long s0] M := by
    intro s0 e13 o5 o6 o8 o9
    refine eX13_shift_62 hc hW ?_
    rcases ho with rfl | rfl | rfl
    · exact ⟨fun z => absurd rfl z, fun _ => gv_W hW hk hr rfl hh⟩
    · have hx := shr_ok hk hr hb ((S.toInt32 &&& (f_X3_width k - 1)).toInt64 &&& 63)
      exact ⟨fun _ => ⟨fun z => absurd rfl z, fun _ => gv_W hW hk hr (hx.2 hr) hh⟩, fun z => absurd z (by decide)⟩
    · rw [e13 rfl]
      exact ⟨fun _ => ⟨fun _ => gv_W hW hk hr rfl hh, fun z => absurd z (by decide)⟩, fun z => absurd z (by decide)⟩
  have mid : ∀ m : Int32, m = f_X3_width k - 1 → m.toInt64.toInt32 = m → ∀ o5 o6 o7 o8 o9, G 38 [some (.ref 605), some (.int (nI o)), some (.int k), some (.long w), none, o5, o6, o7, o8, o9] [.int m, .long S] M := by
    intro m e e2 o5 o6 o7 o8 o9
    refine eX13_shift_38 hc hW ?_
    rw [amt m e e2]
    refine ⟨fun n4 => last _ (fun _ => ?_) _ _ _ _, fun e4 => last _ (fun _ => ?_) _ _ _ _⟩
    · congr 1
      rcases hk with rfl | rfl | rfl | rfl | rfl | rfl | rfl
      · decide +kernel
      · decide +kernel
      · decide +kernel
      · decide +kernel
      · exact absurd rfl n4
      · exact absurd (Or.inl rfl) hr
      · exact absurd (Or.inr rfl) hr
    · subst e4
      exact (and_m1 w).symm
  refine ⟨fun n0 => ⟨fun e => ?_, fun n1 => ⟨fun n2 => ⟨fun n3 => ?_, fun e => ?_⟩, fun e => ?_⟩⟩, fun e => ?_⟩
  · subst e; exact mid _ (by decide) (by decide) _ _ _ _ _
  · have e : k = 4 := by
      rcases hk with rfl | rfl | rfl | rfl | rfl | rfl | rfl
      · exact absurd rfl n0
      · exact absurd rfl n1
      · exact absurd rfl n2
      · exact absurd rfl n3
      · rfl
      · exact absurd (Or.inl rfl) hr
      · exact absurd (Or.inr rfl) hr
    subst e; exact mid _ (by decide) (by decide) _ _ _ _ _
  · subst e; exact mid _ (by decide) (by decide) _ _ _ _ _
  · subst e; exact mid _ (by decide) (by decide) _ _ _ _ _
  · subst e; exact mid _ (by decide) (by decide) _ _ _ _ _
end SHIFT13
