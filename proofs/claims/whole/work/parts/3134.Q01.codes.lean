section CODES
def cdO (x : Int32) : Prop := x = 0 ∨ 0 < x
theorem cd_if {P : Prop} [Decidable P] {α : Type} {x y : Int32 × α} (hx : cdO x.1) (hy : cdO y.1) : cdO (if P then x else y).1 := by
  split
  · exact hx
  · exact hy
theorem cd_iT {P : Prop} {α : Type} {x y : Int32 × α} (hx : cdO x.1) (hy : cdO y.1) : cdO (iT P x y).1 := by
  by_cases z : P
  · rw [iT_t z]; exact hx
  · rw [iT_f z]; exact hy
theorem cd0 : cdO 0 := Or.inl rfl
theorem cd4 : cdO 4 := Or.inr (by decide)
theorem lrun_cd {mk : Option Int64 → Nat → Int32 × Int64} {on : Nat → Prop} (h : ∀ t i, cdO (mk t i).1) : ∀ j i t f, cdO (lrun mk on j i t f).1 := by
  intro j
  induction j with
  | zero => intro i t f; exact cd0
  | succ j ih =>
    intro i t f
    unfold lrun
    exact cd_iT (cd_if (ih _ _ _) (h t i)) (ih _ _ _)
theorem strun_cd {el : Nat → Int64} {m : Nat} {f : Nat → Int64} {on : Nat → Prop} : ∀ j i g, cdO (strun el m f on j i g).1 := by
  intro j
  induction j with
  | zero => intro i g; exact cd0
  | succ j ih =>
    intro i g
    unfold strun
    exact cd_iT (cd_iT (ih _ _) cd4) (ih _ _)
theorem add_cd {k : Int32} {x y : Int64} : cdO (addS k x y).1 := by
  rcases bin1_cd (k := k) (x := x) (y := y) with z | z
  · exact Or.inl z
  · rw [z]; exact Or.inr (by decide)
theorem hin_cd {k : Int32} {h : Nat} : ∀ j i L, cdO (hin k h j i L).1 := by
  intro j
  induction j with
  | zero => intro i L; exact cd0
  | succ j ih =>
    intro i L
    unfold hin
    exact cd_if (ih _ _) add_cd
theorem hrun_cd {k : Int32} : ∀ f n L, cdO (hrun k f n L).1 := by
  intro f
  induction f with
  | zero => intro n L; exact cd0
  | succ f ih =>
    intro n L
    unfold hrun
    exact cd_if cd0 (cd_if (ih _ _) (hin_cd _ _ _))
theorem mkS_cd {o : Nat} {k k1 : Int32} {n : Nat} {X Y : Nat → Int64} {S : Int64} {m : Nat} {E : Nat → Int64} (t : Option Int64) (i : Nat) : cdO (mkS o k k1 n X Y S m E t i).1 := by
  unfold mkS
  split
  · unfold scanS
    split
    · exact cd0
    · exact iT_cd (rea_cd ..) (who_cd ..)
  · exact made_cd
theorem mfR_cd {o : Nat} {kd : Nat → Int32} {eqL : Nat → Bool} : ∀ j k sh seen un, cdO (mfR o kd eqL j k sh seen un) := by
  intro j
  induction j with
  | zero =>
    intro k sh seen un
    unfold mfR
    split
    · exact Or.inr (by decide)
    · exact cd0
  | succ j ih =>
    intro k sh seen un
    unfold mfR
    have c1 : cdO 1 := Or.inr (by decide)
    repeat' split
    all_goals first | exact c1 | exact ih _ _ _ _
theorem mfD_cd {o : Nat} {r : Nat → Int64} {d : DS} : cdO (mfD o r d) := by
  unfold mfD mfS
  split
  · exact cd0
  · split
    · unfold mfA
      repeat' split
      all_goals first | exact cd0 | exact Or.inr (by decide)
    · exact mfR_cd _ _ _ _ _
theorem insG_cd {o : Nat} {r : Nat → Int64} {d : DS} : cdO (insG o r d).1 := by
  unfold insG
  dsimp only
  refine cd_if cd0 (cd_if cd0 (cd_if cd0 (cd_if (strun_cd _ _ _) (cd_if cd0 (cd_if cd0 (cd_if cd0 (cd_if (hrun_cd _ _ _) (cd_if cd0 (cd_if (cd_if cd0 cd4) (cd_if (cd_if cd0 cd4) (lrun_cd (fun t i => mkS_cd t i) _ _ _ _)))))))))))
theorem insX_cd {o : Nat} {r : Nat → Int64} {d : DS} : cdO (insX o r d).1 := by
  unfold insX insD
  refine cd_if (cd_if insG_cd mfD_cd) (cd_if cd0 ?_)
  show cdO (scD o r d).1
  unfold scD
  exact cd_if cd0 (cd_if cd0 (cd_if cd0 (cd_if cd0 (cd_if (Or.inr (show (0 : Int32) < 5 by decide)) (cd_if cd0 cd0)))))
theorem leX_cd {o : Nat} {r : Nat → Int64} {x : ES} : cdO (leX o r x).1 := by
  unfold leX
  exact cd_if cd0 (cd_if cd0 (cd_if cd0 (cd_if (cd_if cd0 (Or.inr (show (0 : Int32) < 7 by decide))) (cd_if (cd_if cd0 cd0) cd0))))
theorem prun_le {X : Nat → Int64} {on : Nat → Prop} : ∀ j i c f, (prun X on j i c f).1 ≤ c + j := by
  intro j
  induction j with
  | zero => intro i c f; exact Nat.le_refl _
  | succ j ih =>
    intro i c f
    unfold prun
    by_cases z : on i
    · rw [iT_t z]; have := ih (i + 1) (c + 1) (up1 f c (X i)); omega
    · rw [iT_f z]; have := ih (i + 1) c f; omega
theorem srun_le {X : Nat → Int64} {on : Nat → Prop} : ∀ j i c f, (srun X on j i c f).1 ≤ c + j := by
  intro j
  induction j with
  | zero => intro i c f; exact Nat.le_refl _
  | succ j ih =>
    intro i c f
    unfold srun
    by_cases z : on i
    · rw [iT_t z]; have := ih (i + 1) (c + 1) (up1 f i (X c)); omega
    · rw [iT_f z]; have := ih (i + 1) c f; omega
theorem cntW_le (w : Int32) : cntW w ≤ 32 := fb_ct_le _ _
theorem wr_if {P : Prop} [Decidable P] {x y : Int32 × Int32 × Nat × DS} {N : Nat} (hx : x.2.2.1 ≤ N) (hy : y.2.2.1 ≤ N) : (if P then x else y).2.2.1 ≤ N := by
  split
  · exact hx
  · exact hy
theorem insG_wr {o : Nat} {r : Nat → Int64} {d : DS} (h0 : o = 0 → cn r 3 ≤ 64) (hn : dn d (2 * rgN o r 0) ≤ 64) : (insG o r d).2.2.1 ≤ 64 := by
  have c32 : ∀ w, cntW w ≤ 64 := fun w => Nat.le_trans (cntW_le w) (by decide)
  have p : ∀ X on f, (prun X on (dn d (2 * rgN o r 0)) 0 0 f).1 ≤ 64 := fun X on f => by have := prun_le (X := X) (on := on) (dn d (2 * rgN o r 0)) 0 0 f; omega
  have s : ∀ X on f, (srun X on (dn d (2 * rgN o r 0)) 0 0 f).1 ≤ 64 := fun X on f => by have := srun_le (X := X) (on := on) (dn d (2 * rgN o r 0)) 0 0 f; omega
  by_cases z : o = 0
  · subst z
    rw [insG_0]
    exact h0 rfl
  · unfold insG
    dsimp only
    rw [if_neg z]
    refine wr_if (Nat.zero_le _) (wr_if hn (wr_if (c32 _) (wr_if (p _ _ _) (wr_if (s _ _ _) (wr_if hn (wr_if (show 1 ≤ 64 by decide) (wr_if (Nat.zero_le _) (wr_if (wr_if (Nat.zero_le _) (Nat.zero_le _)) (wr_if (wr_if (show 1 ≤ 64 by decide) (Nat.zero_le _)) (c32 _)))))))))) 
theorem insX_wr {n : Nat} {r : Nat → Int64} {d : DS} (hv : VI n r) (hd : WD d) : (insX (cn r 0) r d).2.2.1 ≤ 64 := by
  unfold insX
  by_cases h46 : cn r 0 < 46
  · rw [if_pos h46]
    unfold insD
    refine wr_if (insG_wr (fun z => ?_) ?_) (Nat.zero_le _)
    · obtain ⟨l1, l2, l3, l4⟩ := let0
      obtain ⟨-, hb, -⟩ := hv.at z
      obtain ⟨m, m1, m2, m3⟩ := (hb 2 (by omega)).2.2.2.1 l4
      have : cn r 3 = m := cn_lN m3 (by omega)
      omega
    · rcases Nat.eq_zero_or_pos (cntR (cn r 0) 4) with z | z
      · have tb : ∀ o ∈ List.range 46, 0 < cntR o 4 := by decide +kernel
        have := tb _ (List.mem_range.mpr h46)
        omega
      · obtain ⟨r1, -⟩ := rg_is h46 hv.vc z
        exact dn_le hd (by omega)
  · rw [if_neg h46]
    exact wr_if (Nat.zero_le _) (Nat.zero_le _)
end CODES
