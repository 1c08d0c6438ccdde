section WDINS
section
variable {k : Int32} {n : Nat}
def okN (k : Int32) (n : Nat) (f : Nat → Int64) : Prop := ∀ p, p < n → okJ k (f p)
theorem okN.up {f : Nat → Int64} {i : Nat} {x : Int64} (h : okN k n f) (hx : okJ k x) : okN k n (up1 f i x) := by
  intro p hp
  unfold up1
  split
  · exact hx
  · exact h p hp
theorem lrun_ok {mk : Option Int64 → Nat → Int32 × Int64} {on : Nat → Prop} (h : ∀ i t, i < n → (∀ v, t = some v → okJ k v) → (mk t i).1 = 0 → okJ k (mk t i).2) : ∀ j i t f, i + j = n → (∀ v, t = some v → okJ k v) → okN k n f → okN k n (lrun mk on j i t f).2.2 := by
  intro j
  induction j with
  | zero => intro i t f _ _ hf; exact hf
  | succ j ih =>
    intro i t f hi ht hf
    have e : lrun mk on (j + 1) i t f = iT (on i) (if (mk t i).1 = 0 then lrun mk on j (i + 1) (some (mk t i).2) (up1 f i (mk t i).2) else ((mk t i).1, i, f)) (lrun mk on j (i + 1) t f) := rfl
    rw [e]
    by_cases q : on i
    · rw [iT_t q]
      by_cases z : (mk t i).1 = 0
      · rw [if_pos z]
        have := h i t (by omega) ht z
        exact ih _ _ _ (by omega) (fun v w => by cases w; exact this) (hf.up this)
      · rw [if_neg z]; exact hf
    · rw [iT_f q]; exact ih _ _ _ (by omega) ht hf
theorem prun_ok {X : Nat → Int64} {on : Nat → Prop} (hX : okN k n X) : ∀ j i c f, i + j = n → okN k n f → okN k n (prun X on j i c f).2 := by
  intro j
  induction j with
  | zero => intro i c f _ hf; exact hf
  | succ j ih =>
    intro i c f hi hf
    have e : prun X on (j + 1) i c f = iT (on i) (prun X on j (i + 1) (c + 1) (up1 f c (X i))) (prun X on j (i + 1) c f) := rfl
    rw [e]
    by_cases q : on i
    · rw [iT_t q]; exact ih _ _ _ (by omega) (hf.up (hX i (by omega)))
    · rw [iT_f q]; exact ih _ _ _ (by omega) hf
theorem srun_ok {X : Nat → Int64} {on : Nat → Prop} (hX : okN k n X) : ∀ j i c f, i + j = n → c ≤ i → okN k n f → okN k n (srun X on j i c f).2 := by
  intro j
  induction j with
  | zero => intro i c f _ _ hf; exact hf
  | succ j ih =>
    intro i c f hi hc hf
    have e : srun X on (j + 1) i c f = iT (on i) (srun X on j (i + 1) (c + 1) (up1 f i (X c))) (srun X on j (i + 1) c f) := rfl
    rw [e]
    by_cases q : on i
    · rw [iT_t q]; exact ih _ _ _ (by omega) (by omega) (hf.up (hX c (by omega)))
    · rw [iT_f q]; exact ih _ _ _ (by omega) (by omega) hf
theorem strun_ok {el : Nat → Int64} {m : Nat} {f : Nat → Int64} {on : Nat → Prop} (hf : okN k n f) {M : Nat} : ∀ j i g, i + j = n → okN k M g → okN k M (strun el m f on j i g).2.2 := by
  intro j
  induction j with
  | zero => intro i g _ hg; exact hg
  | succ j ih =>
    intro i g hi hg
    have e : strun el m f on (j + 1) i g = iT (on i) (iT (inS (el i) m) (strun el m f on j (i + 1) (up1 g (el i).toInt.toNat (f i))) (4, i, g)) (strun el m f on j (i + 1) g) := rfl
    rw [e]
    by_cases q : on i
    · rw [iT_t q]
      by_cases z : inS (el i) m
      · rw [iT_t z]; exact ih _ _ (by omega) (hg.up (hf i (by omega)))
      · rw [iT_f z]; exact hg
    · rw [iT_f q]; exact ih _ _ (by omega) hg
theorem insR_ok {lt : Int64 → Int64 → Prop} {x : Int64} (hx : okJ k x) : ∀ j f, j < n → okN k n f → okN k n (insR lt x j f) := by
  intro j
  induction j with
  | zero => intro f _ hf; exact hf.up hx
  | succ j ih =>
    intro f hj hf
    have e : insR lt x (j + 1) f = iT (lt x (f j)) (insR lt x j (up1 f (j + 1) (f j))) (up1 f (j + 1) x) := rfl
    rw [e]
    by_cases q : lt x (f j)
    · rw [iT_t q]; exact ih _ (by omega) (hf.up (hf j (by omega)))
    · rw [iT_f q]; exact hf.up hx
theorem sortR_ok {lt : Int64 → Int64 → Prop} {X : Nat → Int64} (hX : okN k n X) : ∀ j i f, i + j = n → okN k n f → okN k n (sortR lt X j i f) := by
  intro j
  induction j with
  | zero => intro i f _ hf; exact hf
  | succ j ih =>
    intro i f hi hf
    exact ih (i + 1) _ (by omega) (insR_ok (hX i (by omega)) i f (by omega) hf)
theorem hin_ok {h : Nat} : ∀ j i L, okN k n L → okN k n (hin k h j i L).2.2 := by
  intro j
  induction j with
  | zero => intro i L hL; exact hL
  | succ j ih =>
    intro i L hL
    have e : hin k h (j + 1) i L = if (addS k (L i) (L (i + h))).1 = 0 then hin k h j (i + 1) (up1 L i (addS k (L i) (L (i + h))).2) else ((addS k (L i) (L (i + h))).1, i, L) := rfl
    rw [e]
    by_cases q : (addS k (L i) (L (i + h))).1 = 0
    · rw [if_pos q]; exact ih _ _ (hL.up (okJ_add q))
    · rw [if_neg q]; exact hL
theorem hrun_ok : ∀ fu c L, okN k n L → okN k n (hrun k fu c L).2.2 := by
  intro fu
  induction fu with
  | zero => intro c L hL; exact hL
  | succ fu ih =>
    intro c L hL
    have e : hrun k (fu + 1) c L = if c ≤ 1 then (0, 0, L) else if (hin k ((c + 1) / 2) (c - (c + 1) / 2) 0 L).1 = 0 then hrun k fu ((c + 1) / 2) (hin k ((c + 1) / 2) (c - (c + 1) / 2) 0 L).2.2 else hin k ((c + 1) / 2) (c - (c + 1) / 2) 0 L := rfl
    rw [e]
    have hi := hin_ok (k := k) (n := n) (h := (c + 1) / 2) (c - (c + 1) / 2) 0 L hL
    by_cases q : c ≤ 1
    · rw [if_pos q]; exact hL
    · rw [if_neg q]
      by_cases z : (hin k ((c + 1) / 2) (c - (c + 1) / 2) 0 L).1 = 0
      · rw [if_pos z]; exact ih _ _ hi
      · rw [if_neg z]; exact hi
end
theorem WD.it {d : DS} {j : Nat} {f : Nat → Int64} (h : WD d) (hf : okN (dk d j) (dn d j) f) : WD (setIt d j f) := by
  refine ⟨fun i hi => ⟨(h.1 i hi).1, fun p hp => ?_⟩, h.2⟩
  show okJ (dk d i) (up1 d.2.2.1 j f i p)
  by_cases q : i = j
  · subst q; rw [up1_eq]; exact hf p hp
  · rw [up1_ne q]; exact (h.1 i hi).2 p hp
theorem WD.m {d : DS} {j : Nat} {x : Int32} (h : WD d) : WD (setM d j x) := h
theorem WD.s {d : DS} {j : Nat} {x : Int64} (h : WD d) : WD (setS d j x) := h
theorem WD.reg {d : DS} {v n : Nat} {k : Int32} {f : Nat → Int64} (h : WD d) (hk : isK k) (hn : 1 ≤ n ∧ n ≤ 32) (hf : okN k n f) : WD (setRow d (2 * v) k n f) := by
  have e : ∀ a, dn (setRow d (2 * v) k n f) (2 * a + 1) = dn d (2 * a + 1) := fun a => up1_ne (by omega)
  refine ⟨fun i hi => ?_, ?_⟩
  · by_cases q : i = 2 * v
    · subst q
      have e1 : dk (setRow d (2 * v) k n f) (2 * v) = k := up1_eq
      have e2 : dn (setRow d (2 * v) k n f) (2 * v) = n := up1_eq
      have e3 : di (setRow d (2 * v) k n f) (2 * v) = f := up1_eq
      rw [e1, e2, e3]
      exact ⟨Or.inr ⟨hk, by omega, fun _ => hn⟩, hf⟩
    · have e1 : dk (setRow d (2 * v) k n f) i = dk d i := up1_ne q
      have e2 : dn (setRow d (2 * v) k n f) i = dn d i := up1_ne q
      have e3 : di (setRow d (2 * v) k n f) i = di d i := up1_ne q
      rw [e1, e2, e3]
      exact h.1 i hi
  · have e0 := e 0
    have e1 := e 1
    have e2 := e 2
    have e3 := e 3
    have e4 := e 4
    have e5 := e 5
    have e6 := e 6
    have e7 := e 7
    have := h.2
    simp only [Nat.mul_zero, Nat.zero_add, Nat.mul_one, Nat.reduceMul, Nat.reduceAdd] at e0 e1 e2 e3 e4 e5 e6 e7
    rw [e0, e1, e2, e3, e4, e5, e6, e7]
    exact this
theorem kOf_is {c : Nat → Int64} {k : Nat} (hk : k < 7) (h : c 2 = lN k) : isK (c 2).toInt32 := by
  rw [h, lN_toI]
  have hc : k = 0 ∨ k = 1 ∨ k = 2 ∨ k = 3 ∨ k = 4 ∨ k = 5 ∨ k = 6 := by omega
  rcases hc with rfl | rfl | rfl | rfl | rfl | rfl | rfl
  · exact Or.inl rfl
  · exact Or.inr (Or.inl rfl)
  · exact Or.inr (Or.inr (Or.inl rfl))
  · exact Or.inr (Or.inr (Or.inr (Or.inl rfl)))
  · exact Or.inr (Or.inr (Or.inr (Or.inr (Or.inl rfl))))
  · exact Or.inr (Or.inr (Or.inr (Or.inr (Or.inr (Or.inl rfl)))))
  · exact Or.inr (Or.inr (Or.inr (Or.inr (Or.inr (Or.inr rfl)))))
theorem zero_ok {k : Int32} (hk : isK k) : okJ k 0 := by
  by_cases hr : isRk k
  · have h : finJ k (bk k false 0) := finJ_bk hr (by rcases hr with rfl | rfl <;> first | (rw [iN5]; decide) | (rw [iN6]; decide))
    exact okJ_fin hr h
  · rw [okJ_rng hk hr]
    exact lo_hi hk hr
/-- only the target is other -/
def OT (s q : Nat) (d d' : DS) : Prop := (∀ j, j < 16 → ¬ (s = 86 ∧ j = 2 * q) → ¬ (s = 65 ∧ j = 2 * q + 1) → dk d' j = dk d j ∧ dn d' j = dn d j ∧ di d' j = di d j) ∧ (s ≠ 77 → dm d' = dm d) ∧ (s = 77 → ∀ m, m ≠ q → dm d' m = dm d m) ∧ (s ≠ 83 → dsc d' = dsc d) ∧ (s = 83 → ∀ k, k ≠ q → dsc d' k = dsc d k)
  ∧ (∀ j, j % 2 = 1 → dk d' j = dk d j ∧ dn d' j = dn d j)
theorem OT.rf {s q : Nat} {d : DS} : OT s q d d := ⟨fun _ _ _ _ => ⟨rfl, rfl, rfl⟩, fun _ => rfl, fun _ _ _ => rfl, fun _ => rfl, fun _ _ _ => rfl, fun _ _ => ⟨rfl, rfl⟩⟩
theorem OT.it {q : Nat} {d : DS} {f : Nat → Int64} : OT 86 q d (setIt d (2 * q) f) :=
  ⟨fun j _ h _ => ⟨rfl, rfl, up1_ne (fun z => h ⟨rfl, z⟩)⟩, fun _ => rfl, fun h => absurd h (by decide), fun _ => rfl, fun h => absurd h (by decide), fun _ _ => ⟨rfl, rfl⟩⟩
theorem OT.ar {q : Nat} {d : DS} {f : Nat → Int64} : OT 65 q d (setIt d (2 * q + 1) f) :=
  ⟨fun j _ _ h => ⟨rfl, rfl, up1_ne (fun z => h ⟨rfl, z⟩)⟩, fun _ => rfl, fun h => absurd h (by decide), fun _ => rfl, fun h => absurd h (by decide), fun _ _ => ⟨rfl, rfl⟩⟩
theorem OT.row {q n : Nat} {d : DS} {k : Int32} {f : Nat → Int64} : OT 86 q d (setRow d (2 * q) k n f) :=
  ⟨fun j _ h _ => ⟨up1_ne (fun z => h ⟨rfl, z⟩), up1_ne (fun z => h ⟨rfl, z⟩), up1_ne (fun z => h ⟨rfl, z⟩)⟩, fun _ => rfl, fun h => absurd h (by decide), fun _ => rfl, fun h => absurd h (by decide), fun j hj => ⟨up1_ne (by omega), up1_ne (by omega)⟩⟩
theorem OT.m {q : Nat} {d : DS} {x : Int32} : OT 77 q d (setM d q x) :=
  ⟨fun j _ _ _ => ⟨rfl, rfl, rfl⟩, fun h => absurd rfl h, fun _ m h => up1_ne h, fun _ => rfl, fun h => absurd h (by decide), fun _ _ => ⟨rfl, rfl⟩⟩
theorem OT.s {q : Nat} {d : DS} {x : Int64} : OT 83 q d (setS d q x) :=
  ⟨fun j _ _ _ => ⟨rfl, rfl, rfl⟩, fun _ => rfl, fun h => absurd h (by decide), fun h => absurd rfl h, fun _ m h => up1_ne h, fun _ _ => ⟨rfl, rfl⟩⟩
/-- an instruction's target -/
def tgQ (o : Nat) (c : Nat → Int64) : Nat := if o = 27 ∨ o = 29 then cn c 2 else cn c 1
theorem tg_all : ∀ o ∈ List.range 46, (((17 ≤ o ∧ o ≤ 22) → tgN o = 77) ∧ ((41 ≤ o ∧ o ≤ 44) → tgN o = 83)) ∧ ((o = 27 ∨ o = 29) → tgN o = 65) ∧ (¬ (17 ≤ o ∧ o ≤ 22) → ¬ (41 ≤ o ∧ o ≤ 44) → ¬ (o = 27 ∨ o = 29) → tgN o = 86 ∧ posR o 0 = 0) := by decide +kernel
theorem insG_OT {o : Nat} {c : Nat → Int64} {d : DS} (ho : o < 46) : OT (tgN o) (tgQ o c) d (insG o c d).2.2.2 := by
  obtain ⟨⟨t1, t2⟩, t3, t4⟩ := tg_all o (List.mem_range.mpr ho)
  by_cases q1 : 17 ≤ o ∧ o ≤ 22
  · rw [t1 q1, insG_cmp q1]
    have e : tgQ o c = mkN o c := by unfold tgQ mkN posM; rw [if_neg (by omega), if_neg (by omega)]
    rw [e]
    exact OT.m
  · by_cases q2 : 41 ≤ o ∧ o ≤ 44
    · rw [t2 q2]
      have e : tgQ o c = scN o c := by unfold tgQ scN posS; rw [if_neg (by omega), if_pos (by omega)]
      rw [e]
      by_cases q3 : o ≤ 43
      · rw [insG_fo ⟨q2.1, q3⟩]
        cases foEnd o (frun o (di d (2 * rgN o c 0)) (onW (onS (nI (dn d (2 * rgN o c 0))) c (dm d))) (dn d (2 * rgN o c 0)) 0 none) with
        | none => exact OT.rf
        | some v => exact OT.s
      · have : o = 44 := by omega
        subst this
        rw [insG_44]
        split
        · exact OT.s
        · exact OT.rf
    · by_cases q3 : o = 27 ∨ o = 29
      · rw [t3 q3, insG_st q3]
        have e : tgQ o c = arN c := by unfold tgQ; rw [if_pos q3]; rfl
        rw [e]
        exact OT.ar
      · obtain ⟨t5, t6⟩ := t4 q1 q2 q3
        have e : tgQ o c = rgN o c 0 := by unfold tgQ rgN; rw [if_neg q3, t6]
        rw [t5, e]
        have hc : o = 0 ∨ o = 23 ∨ o = 32 ∨ o = 33 ∨ o = 38 ∨ o = 40 ∨ o = 45 ∨ (o ∈ MKL ∨ o = 39) := by
          unfold MKL
          simp only [List.mem_cons, List.not_mem_nil, or_false]
          omega
        rcases hc with rfl | rfl | rfl | rfl | rfl | rfl | rfl | h
        · rw [insG_0]; exact OT.row
        · rw [insG_23]; exact OT.it
        · rw [insG_32]; exact OT.it
        · rw [insG_33]; exact OT.it
        · rw [insG_38]; exact OT.it
        · rw [insG_40]; exact OT.it
        · rw [insG_45]
          split
          · exact OT.it
          · exact OT.rf
        · rw [insG_mk h]; exact OT.it
theorem insD_OT {o : Nat} {c : Nat → Int64} {d : DS} (ho : o < 46) : OT (tgN o) (tgQ o c) d (insD o c d).2.2.2 := by
  unfold insD
  split
  · exact insG_OT ho
  · exact OT.rf
theorem WD_insG {o : Nat} {c : Nat → Int64} {d : DS} (ho : o < 46) (hv : VC o c) (hx : VX o c) (hd : WD d) (h0 : mfD o c d = 0) : WD (insG o c d).2.2.2 := by
  by_cases z0 : o = 0
  · subst z0
    obtain ⟨⟨k, k1, k2⟩, n, n1, n2, n3⟩ := hx.1 rfl
    rw [insG_0]
    have e : cn c 3 = n := cn_lN n3 (by omega)
    rw [e]
    have hk := kOf_is k1 k2
    exact hd.reg hk ⟨n1, n2⟩ (fun _ _ => zero_ok hk)
  · have hF := fit_of ho z0 hv hd h0
    have p1 := (pos_all o (List.mem_range.mpr ho)).2.1
    have hf : okN (dk d (2 * rgN o c 0)) (dn d (2 * rgN o c 0)) (di d (2 * rgN o c 0)) := fun p hp => (hF.1 0 (by omega)).2.2.2 p hp
    have hX : alB o 1 = true → 1 < cntR o 4 → okN (dk d (2 * rgN o c 0)) (dn d (2 * rgN o c 0)) (di d (2 * rgN o c 1)) := fun a h1 p hp => by
      have := hF.x1 ho h1 hp
      rw [(hF.1 1 h1).2.2.1 a] at this
      exact this
    have hY : alB o 2 = true → 2 < cntR o 4 → okN (dk d (2 * rgN o c 0)) (dn d (2 * rgN o c 0)) (di d (2 * rgN o c 2)) := fun a h1 p hp => by
      have := hF.x2 ho h1 hp
      rw [(hF.1 2 h1).2.2.1 a] at this
      exact this
    by_cases q1 : 17 ≤ o ∧ o ≤ 22
    · rw [insG_cmp q1]; exact hd.m
    · by_cases q2 : 41 ≤ o ∧ o ≤ 43
      · rw [insG_fo q2]
        cases foEnd o (frun o (di d (2 * rgN o c 0)) (onW (onS (nI (dn d (2 * rgN o c 0))) c (dm d))) (dn d (2 * rgN o c 0)) 0 none) with
        | none => exact hd
        | some v => exact hd.s
      · by_cases q3 : o = 27 ∨ o = 29
        · rw [insG_st q3]
          have hA := hF.2.2.2.2.2.2 (by unfold usA; simp; omega)
          refine hd.it ?_
          rw [hA.1]
          exact strun_ok hf _ _ _ (by omega) hA.2.2
        · have hc : o = 23 ∨ o = 32 ∨ o = 33 ∨ o = 38 ∨ o = 40 ∨ o = 44 ∨ o = 45 ∨ (o ∈ MKL ∨ o = 39) := by
            unfold MKL
            simp only [List.mem_cons, List.not_mem_nil, or_false]
            omega
          rcases hc with rfl | rfl | rfl | rfl | rfl | rfl | rfl | h
          · rw [insG_23]
            have c2 : 2 < cntR 23 4 := by have := (wh_all 23 (List.mem_range.mpr (by decide))).2.2.2.2.2.2.mpr (Or.inr (Or.inl rfl)); omega
            refine hd.it (fun p hp => ?_)
            by_cases z : onW (dm d (mkN 23 c)) p
            · show okJ _ (iT _ _ _)
              rw [iT_t z]; exact hX rfl (by omega) p hp
            · show okJ _ (iT _ _ _)
              rw [iT_f z]; exact hY rfl c2 p hp
          · rw [insG_32]
            exact hd.it (prun_ok (hX rfl (nm1 (by decide) (by decide) (by decide) (by decide))) _ _ _ _ (by omega) hf)
          · rw [insG_33]
            exact hd.it (srun_ok (hX rfl (nm1 (by decide) (by decide) (by decide) (by decide))) _ _ _ _ (by omega) (by omega) hf)
          · rw [insG_38]
            exact hd.it (sortR_ok (hX rfl (nm1 (by decide) (by decide) (by decide) (by decide))) _ _ _ (by omega) hf)
          · rw [insG_40]
            refine hd.it ?_
            split
            · exact hf.up (hrun_ok _ _ _ (hX rfl (nm1 (by decide) (by decide) (by decide) (by decide))) 0 (by have := hF.2.1; omega))
            · exact hf
          · rw [insG_44]
            split
            · exact hd.s
            · exact hd
          · rw [insG_45]
            split
            · exact hd.it (hf.up (putJ_ok _))
            · exact hd
          · rw [insG_mk h]
            refine hd.it (lrun_ok (fun i t hi ht z => mk_hres h hF i t hi ht z) _ _ _ _ (by omega) (fun v w => by cases w) hf)
theorem WD_insD {o : Nat} {c : Nat → Int64} {d : DS} (ho : o < 46) (hv : VC o c) (hx : VX o c) (hd : WD d) : WD (insD o c d).2.2.2 := by
  unfold insD
  split
  · rename_i h; exact WD_insG ho hv hx hd h
  · exact hd
end WDINS
