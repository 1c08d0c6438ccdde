section FACE1
section
variable {M : Mem} {K : RT} {X : Mem → Prop} {s : SG} {Fl : Mem → Nat → (Nat → Nat → Int64) → Prop}
theorem elN_sum (d : DS) : elN d = dn d 1 + dn d 3 + dn d 5 + dn d 7 + dn d 9 + dn d 11 + dn d 13 + dn d 15 := by
  show 0 + dn d 1 + dn d 3 + dn d 5 + dn d 7 + dn d 9 + dn d 11 + dn d 13 + dn d 15 = _
  rw [Nat.zero_add]
theorem elN_set {d : DS} {a n : Nat} {k : Int32} {f : Nat → Int64} (ha : a < 8) : elN (setRow d (2 * a + 1) k n f) + dn d (2 * a + 1) = elN d + n := by
  have e : ∀ b, dn (setRow d (2 * a + 1) k n f) (2 * b + 1) = if b = a then n else dn d (2 * b + 1) := fun b => by
    show up1 d.2.1 (2 * a + 1) n (2 * b + 1) = _
    by_cases h : b = a
    · subst h; rw [up1_eq, if_pos rfl]
    · rw [up1_ne (by omega), if_neg h]; rfl
  have e0 := e 0
  have e1 := e 1
  have e2 := e 2
  have e3 := e 3
  have e4 := e 4
  have e5 := e 5
  have e6 := e 6
  have e7 := e 7
  simp only [Nat.mul_zero, Nat.zero_add, Nat.mul_one, Nat.reduceMul, Nat.reduceAdd] at e0 e1 e2 e3 e4 e5 e6 e7
  rw [elN_sum, elN_sum, e0, e1, e2, e3, e4, e5, e6, e7]
  have hc : a = 0 ∨ a = 1 ∨ a = 2 ∨ a = 3 ∨ a = 4 ∨ a = 5 ∨ a = 6 ∨ a = 7 := by omega
  rcases hc with rfl | rfl | rfl | rfl | rfl | rfl | rfl | rfl <;> simp <;> omega
theorem WD.arr {d : DS} {a n : Nat} {k : Int32} {f : Nat → Int64} (h : WD d) (ha : a < 8) (hk : (k = -1 ∧ n = 0) ∨ (isK k ∧ n ≤ 64)) (hf : okN k n f) (hs : elN d + n ≤ 400 + dn d (2 * a + 1)) : WD (setRow d (2 * a + 1) k n f) := by
  refine ⟨fun i hi => ?_, ?_⟩
  · by_cases q : i = 2 * a + 1
    · subst q
      have e1 : dk (setRow d (2 * a + 1) k n f) (2 * a + 1) = k := up1_eq
      have e2 : dn (setRow d (2 * a + 1) k n f) (2 * a + 1) = n := up1_eq
      have e3 : di (setRow d (2 * a + 1) k n f) (2 * a + 1) = f := up1_eq
      rw [e1, e2, e3]
      refine ⟨?_, hf⟩
      rcases hk with w | w
      · exact Or.inl w
      · exact Or.inr ⟨w.1, w.2, fun z => by omega⟩
    · have e1 : dk (setRow d (2 * a + 1) k n f) i = dk d i := up1_ne q
      have e2 : dn (setRow d (2 * a + 1) k n f) i = dn d i := up1_ne q
      have e3 : di (setRow d (2 * a + 1) k n f) i = di d i := up1_ne q
      rw [e1, e2, e3]
      exact h.1 i hi
  · have := elN_set (d := d) (k := k) (n := n) (f := f) ha
    have e := elN_sum (setRow d (2 * a + 1) k n f)
    omega
theorem WD.el {d : DS} (h : WD d) : elN d ≤ 400 := by have := h.2; rw [elN_sum]; exact this
theorem WD.le_el {d : DS} {a : Nat} (ha : a < 8) : dn d (2 * a + 1) ≤ elN d := by
  rw [elN_sum]
  have hc : a = 0 ∨ a = 1 ∨ a = 2 ∨ a = 3 ∨ a = 4 ∨ a = 5 ∨ a = 6 ∨ a = 7 := by omega
  rcases hc with rfl | rfl | rfl | rfl | rfl | rfl | rfl | rfl <;> simp <;> omega
theorem fst_spec {d : DS} : ∀ j i, (∃ a, i ≤ a ∧ a < i + j ∧ fstF d j i = a ∧ dk d (2 * a + 1) = -1 ∧ ∀ b, i ≤ b → b < a → ¬ dk d (2 * b + 1) = -1) ∨ (fstF d j i = i + j ∧ ∀ b, i ≤ b → b < i + j → ¬ dk d (2 * b + 1) = -1) := by
  intro j
  induction j with
  | zero => intro i; exact Or.inr ⟨rfl, fun b h1 h2 => absurd h2 (by omega)⟩
  | succ j ih =>
    intro i
    have e : fstF d (j + 1) i = if dk d (2 * i + 1) = -1 then i else fstF d j (i + 1) := rfl
    rw [e]
    by_cases h : dk d (2 * i + 1) = -1
    · rw [if_pos h]
      exact Or.inl ⟨i, Nat.le_refl _, by omega, rfl, h, fun b h1 h2 => absurd h2 (by omega)⟩
    · rw [if_neg h]
      rcases ih (i + 1) with ⟨a, a1, a2, a3, a4, a5⟩ | ⟨a1, a2⟩
      · refine Or.inl ⟨a, by omega, by omega, a3, a4, fun b h1 h2 => ?_⟩
        by_cases z : b = i
        · subst z; exact h
        · exact a5 b (by omega) h2
      · refine Or.inr ⟨by omega, fun b h1 h2 => ?_⟩
        by_cases z : b = i
        · subst z; exact h
        · exact a2 b (by omega) (by omega)
theorem ffN_spec {d : DS} : ffN d ≤ 8 ∧ (ffN d < 8 → dk d (2 * ffN d + 1) = -1) ∧ (∀ b, b < ffN d → ¬ dk d (2 * b + 1) = -1) := by
  unfold ffN
  rcases fst_spec (d := d) 8 0 with ⟨a, a1, a2, a3, a4, a5⟩ | ⟨a1, a2⟩
  · rw [a3]; exact ⟨by omega, fun _ => a4, fun b hb => a5 b (by omega) hb⟩
  · rw [a1]; exact ⟨by omega, fun z => absurd z (by omega), fun b hb => a2 b (by omega) (by omega)⟩
theorem ffR_ffN {d : DS} {r : Int32} (h : ffR d r) : r = if ffN d < 8 then nI (ffN d) else -1 := by
  refine ffR_one h ?_
  obtain ⟨a, b, c⟩ := ffN_spec (d := d)
  by_cases z : ffN d < 8
  · rw [if_pos z]; exact Or.inl ⟨_, z, rfl, b z, c⟩
  · rw [if_neg z]; exact Or.inr ⟨rfl, fun b hb => c b (by omega)⟩
theorem isK_of {k : Int32} (h : inI k 7) : isK k := by
  have hk := inI_lt h
  rw [inI_nI h]
  have hc : iv k = 0 ∨ iv k = 1 ∨ iv k = 2 ∨ iv k = 3 ∨ iv k = 4 ∨ iv k = 5 ∨ iv k = 6 := by omega
  unfold isK
  rcases hc with z | z | z | z | z | z | z <;> rw [z]
  · exact Or.inl rfl
  · exact Or.inr (Or.inl rfl)
  · exact Or.inr (Or.inr (Or.inl rfl))
  · exact Or.inr (Or.inr (Or.inr (Or.inl rfl)))
  · exact Or.inr (Or.inr (Or.inr (Or.inr (Or.inl rfl))))
  · exact Or.inr (Or.inr (Or.inr (Or.inr (Or.inr (Or.inl rfl)))))
  · exact Or.inr (Or.inr (Or.inr (Or.inr (Or.inr (Or.inr rfl)))))
theorem k_memory {k n : Int32} (hFl : FlOK Fl) (hW : Wf M) (hC : CI Fl M s) (h : ∀ M', Wf M' → Mo clsS M M' → CI Fl M' (sMemory k n s).2 → K (some (.int (sMemory k n s).1)) M') : sp_X12_memory [.ref 0, .int k, .int n] M K := by
  obtain ⟨hr, hd⟩ := hC.rd
  have no : ¬ (inI k 7 ∧ inI n 65) → K (some (.int (-1 : Int32))) M := fun z => by
    have hh := h M hW Mo.rf
    unfold sMemory at hh
    rw [iT_f z] at hh
    exact hh hC
  refine wX12_memory hW (fun {G} hc => ⟨fun z => no (fun w => ((inI_iff (by decide)).mp w.1).1 z), fun a => ⟨fun z => no (fun w => ((inI_iff (N := 7) (by decide)).mp w.1).2 z), fun b => ⟨fun z => no (fun w => ((inI_le (N := 64) (by decide)).mp w.2).1 z), fun e => ⟨fun g => ?_, fun z => no (fun w => z ((inI_le (N := 64) (by decide)).mp w.2).2)⟩⟩⟩⟩)
  have hk : inI k 7 := (inI_iff (by decide)).mpr ⟨a, b⟩
  have hn : inI n 65 := (inI_le (N := 64) (by decide)).mpr ⟨e, g⟩
  have hn65 := inI_lt hn
  have es : sMemory k n s = (if ffN (gD_ s) < 8 ∧ elN (gD_ s) + iv n ≤ 400 then (nI (ffN (gD_ s)), wDat s (setRow (gD_ s) (2 * ffN (gD_ s) + 1) k (iv n) (fun _ => 0))) else (-2, s)) := iT_t ⟨hk, hn⟩
  rw [es] at h
  refine c_firstFree hW Sk_405 hr (fun r hr1 => rX12_memory_22_2 hc hW ?_)
  have hel := hd.el
  rw [ffR_ffN hr1]
  by_cases z : ffN (gD_ s) < 8
  · rw [if_pos z]
    refine ⟨fun w => absurd w (nI_pos (by omega)), fun _ => c_elements hW Sk_405 hr (rX12_memory_34_2 hc hW ?_)⟩
    have e1 : nI (elN (gD_ s)) + n = nI (elN (gD_ s) + iv n) := by
      conv => lhs; rw [inI_nI hn]
      exact nI_add _ _
    rw [e1, show (400 : Int32) = nI 400 from rfl, nI_leI (by omega) (by decide), nI_clamp (by omega)]
    refine ⟨fun w => ⟨vpN z (by decide), ?_⟩, fun w => ?_⟩
    · have ka : (Sh (412 + 4 * ffN (gD_ s))).1 = 5 := SstAN (a := 405) rfl Sk_405 z
      have e5 : 405 + 5 + 2 * (2 * ffN (gD_ s) + 1) = 412 + 4 * ffN (gD_ s) := by omega
      rw [inI_nI hn]
      refine c_X8_make hW ka (by omega) (fun M1 hW1 hm1 hR1 hrow => rX12_memory_52_7 hc hW1 ?_)
      have hm1' : Mo (stS 405) M M1 := hm1.mono (fun b hb => by rcases hb with y | y <;> exact ⟨by omega, by omega⟩)
      have hr1' : RD M1 405 (setRow (gD_ s) (2 * ffN (gD_ s) + 1) k (iv n) (fun _ => 0)) := RD.row (by omega) (by rw [e5]; exact hm1) hr (by rw [e5]; exact hrow)
      rw [if_pos ⟨z, w⟩] at h
      exact h _ (Wf_uI hW1) (dat_cls hm1') (hC.dat hFl hm1' hr1' (hd.arr z (Or.inr ⟨isK_of hk, by omega⟩) (fun _ _ => zero_ok (isK_of hk)) (by omega)))
    · rw [if_neg (fun y => w y.2)] at h
      exact h M hW Mo.rf hC
  · rw [if_neg z]
    rw [if_neg (fun y => z y.1)] at h
    exact ⟨fun _ => h M hW Mo.rf hC, fun w => absurd (by decide) w⟩
theorem k_free {m : Int32} (hFl : FlOK Fl) (hW : Wf M) (hC : CI Fl M s) (h : ∀ M', Wf M' → Mo clsS M M' → CI Fl M' (sFree m s).2 → K (some (.int (sFree m s).1)) M') : sp_X12_free [.ref 0, .int m] M K := by
  obtain ⟨hr, hd⟩ := hC.rd
  obtain ⟨q, hp⟩ := isA_P (m := m) hC
  unfold sFree at h
  refine wX12_free hW ⟨q, ?_⟩
  rw [hp]
  refine ⟨fun z => ?_, fun z => ?_⟩
  · rw [iT_t z] at h
    have hi := z.1
    have hi8 := inI_lt hi
    have hel := hd.el
    have hle := WD.le_el (d := gD_ s) hi8
    refine ⟨vp_of hi (by decide), ?_⟩
    rw [cl_of hi (by decide)]
    have ka : (Sh (412 + 4 * iv m)).1 = 5 := SstAN (a := 405) rfl Sk_405 hi8
    have e5 : 405 + 5 + 2 * (2 * iv m + 1) = 412 + 4 * iv m := by omega
    have hm1 : Mo (rowS (412 + 4 * iv m)) M (m_X8_unmake (412 + 4 * iv m) M) := by
      unfold m_X8_unmake
      exact (Mo_uI (Or.inl rfl)).tr (Mo_uI (Or.inl rfl))
    have hrow : RowIs (m_X8_unmake (412 + 4 * iv m) M) (412 + 4 * iv m) (-1) 0 (di (gD_ s) (2 * iv m + 1)) := by
      unfold m_X8_unmake
      refine ⟨by rw [rI_k (by decide), rI_eq], rI_eq, by decide, fun i hi => absurd hi (by omega)⟩
    have hm1' : Mo (stS 405) M (m_X8_unmake (412 + 4 * iv m) M) := hm1.mono (fun b hb => by rcases hb with y | y <;> exact ⟨by omega, by omega⟩)
    have hr1' : RD (m_X8_unmake (412 + 4 * iv m) M) 405 (setRow (gD_ s) (2 * iv m + 1) (-1) 0 (di (gD_ s) (2 * iv m + 1))) := RD.row (by omega) (by rw [e5]; exact hm1) hr (by rw [e5]; exact hrow)
    exact h _ (Wf_m_X11_empty (Wf_m_X8_unmake _ hW)) (dat_cls hm1') (hC.dat hFl hm1' hr1' (hd.arr hi8 (Or.inl ⟨rfl, rfl⟩) (fun i hi => absurd hi (by omega)) (by omega)))
  · rw [iT_f z] at h
    exact h M hW Mo.rf hC
theorem k_resize {m n : Int32} (hFl : FlOK Fl) (hW : Wf M) (hC : CI Fl M s) (h : ∀ M', Wf M' → Mo clsS M M' → CI Fl M' (sResize m n s).2 → K (some (.int (sResize m n s).1)) M') : sp_X12_resize [.ref 0, .int m, .int n] M K := by
  obtain ⟨hr, hd⟩ := hC.rd
  obtain ⟨q, hp⟩ := isA_P (m := m) hC
  have no : ¬ (isA (gD_ s) m ∧ inI n 65) → K (some (.int (-1 : Int32))) M := fun z => by
    have hh := h M hW Mo.rf
    unfold sResize at hh
    rw [iT_f z] at hh
    exact hh hC
  refine wX12_resize hW (fun {G} hc => ⟨q, ?_⟩)
  rw [hp]
  refine ⟨fun z => no (fun w => z w.1), fun z => ⟨fun y => no (fun w => ((inI_le (N := 64) (by decide)).mp w.2).1 y), fun e => ⟨fun g => ?_, fun y => no (fun w => y ((inI_le (N := 64) (by decide)).mp w.2).2)⟩⟩⟩
  have hi := z.1
  have hi8 := inI_lt hi
  have hn : inI n 65 := (inI_le (N := 64) (by decide)).mpr ⟨e, g⟩
  have hn65 := inI_lt hn
  have hel := hd.el
  have hle := WD.le_el (d := gD_ s) hi8
  have row := hr.arr hi8
  have es : sResize m n s = (if elN (gD_ s) - dn (gD_ s) (2 * iv m + 1) + iv n ≤ 400 then (nI (dn (gD_ s) (2 * iv m + 1)), wDat s (setRow (gD_ s) (2 * iv m + 1) (dk (gD_ s) (2 * iv m + 1)) (iv n) (fun i => if i < dn (gD_ s) (2 * iv m + 1) then di (gD_ s) (2 * iv m + 1) i else 0))) else (-2, s)) := iT_t ⟨z, hn⟩
  rw [es] at h
  refine ⟨vp_of hi (by decide), ?_⟩
  rw [cl_of hi (by decide), row.2.1]
  refine c_elements hW Sk_405 hr (rX12_resize_20_9 hc hW ?_)
  have e1 : nI (elN (gD_ s)) - nI (dn (gD_ s) (2 * iv m + 1)) + n = nI (elN (gD_ s) - dn (gD_ s) (2 * iv m + 1) + iv n) := by
    conv => lhs; rw [inI_nI hn]
    rw [pk_sub hle, nI_add]
  rw [e1, show (400 : Int32) = nI 400 from rfl, nI_leI (by omega) (by decide), cl_of hi (by decide)]
  refine ⟨fun w => ⟨vp_of hi (by decide), ?_⟩, fun w => ?_⟩
  · have ka : (Sh (412 + 4 * iv m)).1 = 5 := SstAN (a := 405) rfl Sk_405 hi8
    have e5 : 405 + 5 + 2 * (2 * iv m + 1) = 412 + 4 * iv m := by omega
    have hw := (hd.1 (2 * iv m + 1) (by omega))
    have hk : isK (dk (gD_ s) (2 * iv m + 1)) := by
      rcases hw.1 with y | y
      · exact absurd y.1 z.2
      · exact y.1
    rw [inI_nI hn]
    refine c_X8_reach hW ka row (by omega) (fun M1 hW1 hm1 hR1 hrow => rX12_resize_53_6 hc hW1 ?_)
    have hm1' : Mo (stS 405) M M1 := hm1.mono (fun b hb => by rcases hb with y | y <;> exact ⟨by omega, by omega⟩)
    have hr1' : RD M1 405 (setRow (gD_ s) (2 * iv m + 1) (dk (gD_ s) (2 * iv m + 1)) (iv n) (fun i => if i < dn (gD_ s) (2 * iv m + 1) then di (gD_ s) (2 * iv m + 1) i else 0)) := RD.row (by omega) (by rw [e5]; exact hm1) hr (by rw [e5]; exact hrow)
    rw [if_pos w] at h
    refine h _ (Wf_uI hW1) (dat_cls hm1') (hC.dat hFl hm1' hr1' (hd.arr hi8 (Or.inr ⟨hk, by omega⟩) (fun i hi => ?_) (by omega)))
    show okJ _ (if i < dn (gD_ s) (2 * iv m + 1) then di (gD_ s) (2 * iv m + 1) i else 0)
    split
    · rename_i y; exact hw.2 i y
    · exact zero_ok hk
  · rw [if_neg w] at h
    exact h M hW Mo.rf hC
end
end FACE1
