section EXOK
section
variable {n : Nat} {c : Nat → Int64} {x : ES}
theorem leX_ok {o : Nat} (h : 59 ≤ o ∧ o < 68) (hn : n ≤ 100) (ho : cn c 0 = o) (hv : VI n c) (hx : EOk n x) (hp : ePc x < n) : (leX o c x).1 = 0 → (leX o c x).2.1 ≤ n ∧ (leX o c x).2.2.1 ≤ 16 ∧ (∀ j, j < (leX o c x).2.2.1 → (leX o c x).2.2.2.1 j ≤ n) ∧ (∀ j, j + 1 < eK x → j < (leX o c x).2.2.1 ∧ (leX o c x).2.2.2.1 j = eCf x j) ∧ OT (tgX c).1 (tgX c).2 (eD x) (leX o c x).2.2.2.2.2 ∧ WD (leX o c x).2.2.2.2.2 := by
  have l2 := op_let2 o (List.mem_range.mpr (by omega))
  have l3 := op_let3 o (List.mem_range.mpr (by omega))
  have tn := (tgN_all o (List.mem_range.mpr (by omega))).2.1
  obtain ⟨x1, x2, x3, x4, x5⟩ := hx
  have hc : o = 59 ∨ (60 ≤ o ∧ o ≤ 63) ∨ o = 64 ∨ o = 65 ∨ o = 66 ∨ o = 67 := by omega
  rcases hc with rfl | q | rfl | rfl | rfl | rfl
  · obtain ⟨a, g⟩ := l2.2.1 (Or.inl rfl)
    have s1 : cn c 1 ≤ n ∧ c 1 = lN (cn c 1) := hv.l hn ho (k := 0) (by omega) a
    have el : leX 59 c x = (0, cn c 1, eK x, eCf x, false, eD x) := rfl
    rw [el]
    exact fun _ => ⟨s1.1, x2, x3, fun j hj => ⟨show j < eK x by omega, rfl⟩, OT.rf, x5⟩
  · obtain ⟨a, b, e, g⟩ := l2.2.2 q.1 q.2
    have s3 : cn c 3 ≤ n ∧ c 3 = lN (cn c 3) := hv.l hn ho (k := 2) (by omega) e
    rw [leX_cj q]
    refine fun _ => ⟨?_, x2, x3, fun j hj => ⟨show j < eK x by omega, rfl⟩, OT.rf, x5⟩
    show iT _ _ _ ≤ n
    by_cases z : jS o (dsc (eD x) (cn c 1)) (dsc (eD x) (cn c 2))
    · rw [iT_t z]; exact s3.1
    · rw [iT_f z]; omega
  · obtain ⟨a, b, g⟩ := l3.1 rfl
    have s1 : cn c 1 < 8 ∧ c 1 = lN (cn c 1) := hv.s ho (k := 0) (by omega) a
    have s2 : cn c 2 ≤ n ∧ c 2 = lN (cn c 2) := hv.l hn ho (k := 1) (by omega) b
    have el : leX 64 c x = (0, if dsc (eD x) (cn c 1) - 1 = 0 then ePc x + 1 else cn c 2, eK x, eCf x, false, setS (eD x) (cn c 1) (dsc (eD x) (cn c 1) - 1)) := rfl
    rw [el]
    have e1 : (tgX c).1 = 83 := by show tgN (cn c 0) = 83; rw [ho]; exact (tn (by decide) (Or.inr (by decide))).1
    have e2 : (tgX c).2 = cn c 1 := tgX_v s1.1 (by rw [if_neg (by omega)]; exact s1.2)
    rw [e1, e2]
    refine fun _ => ⟨?_, x2, x3, fun j hj => ⟨show j < eK x by omega, rfl⟩, OT.s, x5.s⟩
    show (if dsc (eD x) (cn c 1) - 1 = 0 then ePc x + 1 else cn c 2) ≤ n
    split
    · exact Nat.succ_le_of_lt hp
    · exact s2.1
  · obtain ⟨a, g⟩ := l2.2.1 (Or.inr rfl)
    have s1 : cn c 1 ≤ n ∧ c 1 = lN (cn c 1) := hv.l hn ho (k := 0) (by omega) a
    have el : leX 65 c x = (if eK x < 16 then (0, cn c 1, eK x + 1, up1 (eCf x) (eK x) (ePc x + 1), false, eD x) else (7, ePc x, eK x, eCf x, false, eD x)) := rfl
    rw [el]
    by_cases z : eK x < 16
    · rw [if_pos z]
      refine fun _ => ⟨s1.1, show eK x + 1 ≤ 16 by omega, fun j hj => ?_, fun j hj => ⟨show j < eK x + 1 by omega, up1_ne (by omega)⟩, OT.rf, x5⟩
      have hj : j < eK x + 1 := hj
      show up1 (eCf x) (eK x) (ePc x + 1) j ≤ n
      by_cases w : j = eK x
      · subst w; rw [up1_eq]; omega
      · rw [up1_ne w]; exact x3 j (by omega)
    · rw [if_neg z]
      exact fun w => absurd (show (7 : Int32) = 0 from w) (by decide)
  · have el : leX 66 c x = (if eK x = 0 then (0, ePc x + 1, 0, eCf x, true, eD x) else (0, eCf x (eK x - 1), eK x - 1, eCf x, false, eD x)) := rfl
    rw [el]
    by_cases z : eK x = 0
    · rw [if_pos z]
      exact fun _ => ⟨show ePc x + 1 ≤ n by omega, Nat.zero_le _, fun j hj => absurd (show j < 0 from hj) (by omega), fun j hj => absurd hj (by omega), OT.rf, x5⟩
    · rw [if_neg z]
      exact fun _ => ⟨x3 _ (by omega), show eK x - 1 ≤ 16 by omega, fun j hj => x3 j (by have hj : j < eK x - 1 := hj; omega), fun j hj => ⟨show j < eK x - 1 by omega, rfl⟩, OT.rf, x5⟩
  · have el : leX 67 c x = (0, ePc x + 1, eK x, eCf x, true, eD x) := rfl
    rw [el]
    exact fun _ => ⟨show ePc x + 1 ≤ n by omega, x2, x3, fun j hj => ⟨show j < eK x by omega, rfl⟩, OT.rf, x5⟩
theorem maD_wd {o : Nat} {d : DS} (h : WD d) : WD (maD o c d) := by
  unfold maD
  split
  · exact h.m
  · split
    · exact h.m
    · split
      · exact h.m
      · split
        · exact h.m
        · split
          · exact h.m
          · split
            · exact h.s
            · exact h.s
theorem scD_wd {o : Nat} {d : DS} (h : WD d) : WD (scD o c d).2 := by
  unfold scD
  split
  · exact h.s
  · split
    · exact h.s
    · split
      · exact h.s
      · split
        · exact h.s
        · split
          · exact h
          · split
            · exact h.s
            · exact h.s
/-- masks' and scalars' targets, without a memory -/
theorem maD_OT {o : Nat} {d : DS} (h : 46 ≤ o ∧ o < 53) (ho : cn c 0 = o) (hv : VI n c) : OT (tgX c).1 (tgX c).2 d (maD o c d) := by
  have l1 := op_let1 o (List.mem_range.mpr (by omega))
  have tn := tgN_all o (List.mem_range.mpr (by omega))
  have wm : ∀ x, cn c 1 < 4 ∧ c 1 = lN (cn c 1) → tgN o = 77 → OT (tgX c).1 (tgX c).2 d (setM d (cn c 1) x) := fun x hk ht => by
    have e1 : (tgX c).1 = 77 := by show tgN (cn c 0) = 77; rw [ho]; exact ht
    have e2 : (tgX c).2 = cn c 1 := tgX_v (by omega) (by rw [if_neg (by omega)]; exact hk.2)
    rw [e1, e2]
    exact OT.m
  have ws : ∀ x, cn c 1 < 8 ∧ c 1 = lN (cn c 1) → tgN o = 83 → OT (tgX c).1 (tgX c).2 d (setS d (cn c 1) x) := fun x hk ht => by
    have e1 : (tgX c).1 = 83 := by show tgN (cn c 0) = 83; rw [ho]; exact ht
    have e2 : (tgX c).2 = cn c 1 := tgX_v (by omega) (by rw [if_neg (by omega)]; exact hk.2)
    rw [e1, e2]
    exact OT.s
  rcases msk_cases h with rfl | rfl | rfl | rfl | rfl | rfl | rfl
  · obtain ⟨a, b, e, g⟩ := l1.1.1 (by decide) (by decide)
    exact wm _ (hv.m ho (by omega) a) (tn.1.2 (by decide) (by decide)).1
  · obtain ⟨a, b, e, g⟩ := l1.1.1 (by decide) (by decide)
    exact wm _ (hv.m ho (by omega) a) (tn.1.2 (by decide) (by decide)).1
  · obtain ⟨a, b, e, g⟩ := l1.1.1 (by decide) (by decide)
    exact wm _ (hv.m ho (by omega) a) (tn.1.2 (by decide) (by decide)).1
  · obtain ⟨a, b, g⟩ := l1.1.2 rfl
    exact wm _ (hv.m ho (by omega) a) (tn.1.2 (by decide) (by decide)).1
  · obtain ⟨a, b, g⟩ := l1.2.1 rfl
    exact wm _ (hv.m ho (by omega) a) (tn.1.2 (by decide) (by decide)).1
  · obtain ⟨a, b, g⟩ := l1.2.2 (by decide) (by decide)
    exact ws _ (hv.s ho (by omega) a) (tn.2.1 (by decide) (Or.inl (by decide))).1
  · obtain ⟨a, b, g⟩ := l1.2.2 (by decide) (by decide)
    exact ws _ (hv.s ho (by omega) a) (tn.2.1 (by decide) (Or.inl (by decide))).1
theorem scD_OT {o : Nat} {d : DS} (h : 53 ≤ o ∧ o < 59) (ho : cn c 0 = o) (hv : VI n c) : OT (tgX c).1 (tgX c).2 d (scD o c d).2 := by
  have l2 := op_let2 o (List.mem_range.mpr (by omega))
  have tn := (tgN_all o (List.mem_range.mpr (by omega))).2.1
  have a : letN o 0 = 83 ∧ 0 < (opL o).length := by
    by_cases z : o = 53
    · have := l2.1.1 z; exact ⟨this.1, by omega⟩
    · have := l2.1.2 (by omega) (by omega); exact ⟨this.1, by omega⟩
  have hk : cn c 1 < 8 ∧ c 1 = lN (cn c 1) := hv.s ho a.2 a.1
  have ws : ∀ x, OT (tgX c).1 (tgX c).2 d (setS d (cn c 1) x) := fun x => by
    have e1 : (tgX c).1 = 83 := by show tgN (cn c 0) = 83; rw [ho]; exact (tn (by omega) (Or.inl (by omega))).1
    have e2 : (tgX c).2 = cn c 1 := tgX_v (by omega) (by rw [if_neg (by omega)]; exact hk.2)
    rw [e1, e2]
    exact OT.s
  unfold scD
  split
  · exact ws _
  · split
    · exact ws _
    · split
      · exact ws _
      · split
        · exact ws _
        · split
          · exact OT.rf
          · split
            · exact ws _
            · exact ws _
theorem adv_ok {d : DS} {pc k wr : Nat} {cf : Nat → Nat} {fin : Bool} (h1 : pc ≤ n) (h2 : k ≤ 16) (h3 : ∀ j, j < k → cf j ≤ n) (h4 : WD d) : EOk n (adv n x d pc k cf wr fin) := by
  refine ⟨h1, h2, h3, fun h => ?_, h4⟩
  have h : (fin || decide (n ≤ pc)) = false := h
  have := (Bool.or_eq_false_iff.mp h).2
  have := of_decide_eq_false this
  show pc < n
  omega
/-- the state behind an instruction is sound -/
theorem ex_ok (hn : n ≤ 100) (hv : VI n c) (hx : EOk n x) (he : eEn x = false) : EOk n (exX n c x).2.2.2 ∧ OT (tgX c).1 (tgX c).2 (eD x) (eD (exX n c x).2.2.2) ∧ ((exX n c x).1 = 0 → StepR (exX n c x).2.2.2 x (ePc x) (exX n c x).2.2.1) ∧ ((exX n c x).1 ≠ 0 → (exX n c x).2.2.2 = (eD (exX n c x).2.2.2, x.2)) := by
  have hp := hx.2.2.2.1 he
  have ho := hv.o.1
  unfold exX
  by_cases h1 : cn c 0 < 46
  · rw [if_pos h1]
    have hot := insD_OT (c := c) (d := eD x) h1
    have hwd := WD_insD h1 hv.vc hv.vx hx.2.2.2.2
    have htg := (hv.tg h1).1
    rw [htg]
    dsimp only
    by_cases z : (insD (cn c 0) c (eD x)).1 = 0
    · rw [if_pos z]
      exact ⟨adv_ok (by omega) hx.2.1 hx.2.2.1 hwd, hot, fun _ => ⟨rfl, he, rfl, rfl, fun j hj => ⟨show j < eK x by omega, rfl⟩⟩, fun w => absurd z w⟩
    · rw [if_neg z]
      exact ⟨⟨hx.1, hx.2.1, hx.2.2.1, hx.2.2.2.1, hwd⟩, hot, fun w => absurd w z, fun _ => rfl⟩
  · rw [if_neg h1]
    by_cases h2 : cn c 0 < 53
    · rw [if_pos h2]
      have hot := maD_OT (d := eD x) ⟨by omega, h2⟩ rfl hv
      exact ⟨adv_ok (by omega) hx.2.1 hx.2.2.1 (maD_wd hx.2.2.2.2), hot, fun _ => ⟨rfl, he, rfl, rfl, fun j hj => ⟨show j < eK x by omega, rfl⟩⟩, fun w => absurd rfl w⟩
    · rw [if_neg h2]
      by_cases h3 : cn c 0 < 59
      · rw [if_pos h3]
        have hot := scD_OT (d := eD x) ⟨by omega, h3⟩ rfl hv
        dsimp only
        by_cases z : (scD (cn c 0) c (eD x)).1 = 0
        · rw [if_pos z]
          exact ⟨adv_ok (by omega) hx.2.1 hx.2.2.1 (scD_wd hx.2.2.2.2), hot, fun _ => ⟨rfl, he, rfl, rfl, fun j hj => ⟨show j < eK x by omega, rfl⟩⟩, fun w => absurd z w⟩
        · rw [if_neg z]
          exact ⟨hx, OT.rf, fun w => absurd w z, fun _ => rfl⟩
      · rw [if_neg h3]
        dsimp only
        by_cases z : (leX (cn c 0) c x).1 = 0
        · rw [if_pos z]
          obtain ⟨a1, a2, a3, a4, a5, a6⟩ := leX_ok ⟨by omega, ho⟩ hn rfl hv hx hp z
          exact ⟨adv_ok a1 a2 a3 a6, a5, fun _ => ⟨rfl, he, rfl, rfl, a4⟩, fun w => absurd z w⟩
        · rw [if_neg z]
          exact ⟨hx, OT.rf, fun w => absurd w z, fun _ => rfl⟩
end
end EXOK
