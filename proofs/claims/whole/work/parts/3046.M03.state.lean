section STATE
theorem c_X8_isAs {a b n m : Nat} {k l : Int32} {f g : Nat → Int64} {M : Mem} {K : RT} (hW : Wf M) (ha : (Sh a).1 = 5) (hb : (Sh b).1 = 5) (hr : RowIs M a k n f) (hq : RowIs M b l m g)
    (h : K (some (.int (pI (k = l ∧ n = m ∧ ∀ i, i < n → f i = g i)))) M) : sp_X8_isAs [.ref a, .ref b] M K := by
  refine ⟨Nat.le_of_ble_eq_true rfl, fun G hc => ?_⟩
  rw [hW.1] at hc
  obtain ⟨r1, r2, r3, r4⟩ := hr
  obtain ⟨q1, q2, q3, q4⟩ := hq
  refine eX8_isAs hc hW ha hb ?_
  rw [r1, r2, q1, q2]
  refine ⟨fun q => pI_goF h (fun z => q z.1), fun e1 => ⟨fun e2 => ?_, fun q => pI_goF h (fun z => q (by rw [z.2.1]))⟩⟩
  have e3 : n = m := (nI_eq (by omega) (by omega)).mp e2
  have loop : ∀ j i : Nat, i + j = n → (∀ q, q < i → f q = g q) → G 26 [some (.ref a), some (.ref b), some (.int (nI i))] [] M := by
    intro j
    induction j with
    | zero =>
      intro i hi hs
      refine eX8_isAs_26 hc hW ha hb ?_
      rw [r2]
      exact ⟨fun _ => pI_goT h ⟨e1, e3, fun q hq => hs q (by omega)⟩, fun q => absurd (nI_le (by omega) (by omega)) q⟩
    | succ j ih =>
      intro i hi hs
      refine eX8_isAs_26 hc hW ha hb ?_
      rw [r2, nI_clamp (by omega), r4 i (by omega), q4 i (by omega), nI_1]
      refine ⟨fun q => absurd ((nI_leI (by omega) (by omega)).mp q) (by omega), fun _ => ⟨vpN (by omega) (by decide), vpN (by omega) (by decide), fun e => ih (i + 1) (by omega) (fun q hq => ?_), fun e => pI_goF h (fun z => e (z.2.2 i (by omega)))⟩⟩
      by_cases w : q = i
      · rw [w]; exact e
      · exact hs q (by omega)
  exact loop n 0 (by omega) (fun q hq => absurd hq (by omega))
theorem st_row (s j : Nat) : s + 5 + 4 * j = s + 5 + 2 * (2 * j) ∧ s + 7 + 4 * j = s + 5 + 2 * (2 * j + 1) := by omega
theorem c_alikeR {a0 a1 : Nat} {d e : DS} {M : Mem} {K : RT} (hW : Wf M) (h0 : (Sh a0).1 = 7) (h1 : (Sh a1).1 = 7) (hr : RD M a0 d) (hq : RD M a1 e) (h : K (some (.int (pI (∀ j, j < 8 → sameRow d e (2 * j))))) M) : sp_X10_areAlike [.ref (a0 + 1), .ref (a1 + 1)] M K := by
  refine wX10_areAlikeR hW h0 h1 (fun {G} hc => ?_)
  have loop : ∀ j i : Nat, i + j = 8 → (∀ q, q < i → sameRow d e (2 * q)) → G 2 [some (.ref (a0 + 1)), some (.ref (a1 + 1)), some (.int (nI i))] [] M := by
    intro j
    induction j with
    | zero =>
      intro i hi hs
      have : i = 8 := by omega
      subst this
      exact eX10_areAlikeR_2 hc hW h0 h1 ⟨fun _ => pI_goT h hs, fun q => absurd (by decide) q⟩
    | succ j ih =>
      intro i hi hs
      refine eX10_areAlikeR_2 hc hW h0 h1 ⟨fun q => absurd ((nI_leI (a := 8) (by decide) (by omega)).mp q) (by omega), fun _ => ⟨vpN (by omega) (by decide), vpN (by omega) (by decide), ?_⟩⟩
      rw [nI_clamp (by omega)]
      have w1 := hr.1 (2 * i) (by omega)
      have w2 := hq.1 (2 * i) (by omega)
      rw [← (st_row a0 i).1] at w1
      rw [← (st_row a1 i).1] at w2
      refine c_X8_isAs hW (SstR h0 (by omega)) (SstR h1 (by omega)) w1 w2 (rX10_areAlikeR_8_6 hc hW (Sst h0).1 (Sst h1).1 ?_)
      rw [pI_0, Classical.not_not]
      refine ⟨fun q => ?_, fun q => pI_goF h (fun z => q (z i (by omega)))⟩
      rw [nI_1]
      refine ih (i + 1) (by omega) (fun p hp => ?_)
      by_cases w : p = i
      · rw [w]; exact q
      · exact hs p (by omega)
  exact loop 8 0 rfl (fun q hq => absurd hq (by omega))
theorem c_alikeA {a0 a1 : Nat} {d e : DS} {M : Mem} {K : RT} (hW : Wf M) (h0 : (Sh a0).1 = 7) (h1 : (Sh a1).1 = 7) (hr : RD M a0 d) (hq : RD M a1 e) (h : K (some (.int (pI (∀ j, j < 8 → sameRow d e (2 * j + 1))))) M) : sp_X10_areAlike [.ref (a0 + 2), .ref (a1 + 2)] M K := by
  refine wX10_areAlikeA hW h0 h1 (fun {G} hc => ?_)
  have loop : ∀ j i : Nat, i + j = 8 → (∀ q, q < i → sameRow d e (2 * q + 1)) → G 2 [some (.ref (a0 + 2)), some (.ref (a1 + 2)), some (.int (nI i))] [] M := by
    intro j
    induction j with
    | zero =>
      intro i hi hs
      have : i = 8 := by omega
      subst this
      exact eX10_areAlikeA_2 hc hW h0 h1 ⟨fun _ => pI_goT h hs, fun q => absurd (by decide) q⟩
    | succ j ih =>
      intro i hi hs
      refine eX10_areAlikeA_2 hc hW h0 h1 ⟨fun q => absurd ((nI_leI (a := 8) (by decide) (by omega)).mp q) (by omega), fun _ => ⟨vpN (by omega) (by decide), vpN (by omega) (by decide), ?_⟩⟩
      rw [nI_clamp (by omega)]
      have w1 := hr.1 (2 * i + 1) (by omega)
      have w2 := hq.1 (2 * i + 1) (by omega)
      rw [← (st_row a0 i).2] at w1
      rw [← (st_row a1 i).2] at w2
      refine c_X8_isAs hW (SstA h0 (by omega)) (SstA h1 (by omega)) w1 w2 (rX10_areAlikeA_8_6 hc hW (Sst h0).2.1 (Sst h1).2.1 ?_)
      rw [pI_0, Classical.not_not]
      refine ⟨fun q => ?_, fun q => pI_goF h (fun z => q (z i (by omega)))⟩
      rw [nI_1]
      refine ih (i + 1) (by omega) (fun p hp => ?_)
      by_cases w : p = i
      · rw [w]; exact q
      · exact hs p (by omega)
  exact loop 8 0 rfl (fun q hq => absurd hq (by omega))
/-- what differs first -/
noncomputable def dfJ (d e : DS) : Int32 := iT (∀ j, j < 8 → sameRow d e (2 * j)) (iT (∀ m, m < 4 → dm d m = dm e m) (iT (∀ k, k < 8 → dsc d k = dsc e k) (iT (∀ j, j < 8 → sameRow d e (2 * j + 1)) 0 4) 3) 2) 1
theorem c_firstDiff {a0 a1 : Nat} {d e : DS} {M : Mem} {K : RT} (hW : Wf M) (h0 : (Sh a0).1 = 7) (h1 : (Sh a1).1 = 7) (hr : RD M a0 d) (hq : RD M a1 e) (h : K (some (.int (dfJ d e))) M) : sp_X10_firstDifference [.ref a0, .ref a1] M K := by
  refine ⟨Nat.le_of_ble_eq_true rfl, fun G hc => ?_⟩
  rw [hW.1] at hc
  unfold dfJ at h
  refine eX10_firstDifference hc hW h0 h1 (c_alikeR hW h0 h1 hr hq (rX10_firstDifference_0_4 hc hW h0 h1 ?_))
  rw [pI_0, Classical.not_not]
  refine ⟨fun w => ?_, fun w => ?_⟩
  · rw [iT_t w] at h
    have loop2 : (∀ m, m < 4 → dm d m = dm e m) → ∀ j i : Nat, i + j = 8 → (∀ q, q < i → dsc d q = dsc e q) → G 48 [some (.ref a0), some (.ref a1), some (.int (nI i))] [] M := by
      intro w2
      rw [iT_t w2] at h
      intro j
      induction j with
      | zero =>
        intro i hi hs
        have : i = 8 := by omega
        subst this
        rw [iT_t hs] at h
        refine eX10_firstDifference_48 hc hW h0 h1 ⟨fun _ => c_alikeA hW h0 h1 hr hq (rX10_firstDifference_78_4 hc hW ?_), fun q => absurd (by decide) q⟩
        rw [pI_0, Classical.not_not]
        refine ⟨fun w => ?_, fun w => ?_⟩
        · rw [iT_f w] at h; exact h
        · rw [iT_t w] at h; exact h
      | succ j ih =>
        intro i hi hs
        refine eX10_firstDifference_48 hc hW h0 h1 ⟨fun q => absurd ((nI_leI (a := 8) (by decide) (by omega)).mp q) (by omega), fun _ => ⟨vpN (by omega) (by decide), vpN (by omega) (by decide), ?_⟩⟩
        rw [nI_clamp (by omega), hr.2.2 i (by omega), hq.2.2 i (by omega), nI_1]
        refine ⟨fun q => ih (i + 1) (by omega) (fun p hp => ?_), fun q => ?_⟩
        · by_cases z : p = i
          · rw [z]; exact q
          · exact hs p (by omega)
        · rw [iT_f (fun z => q (z i (by omega)))] at h; exact h
    have loop1 : ∀ j i : Nat, i + j = 4 → (∀ q, q < i → dm d q = dm e q) → G 18 [some (.ref a0), some (.ref a1), some (.int (nI i))] [] M := by
      intro j
      induction j with
      | zero =>
        intro i hi hs
        have : i = 4 := by omega
        subst this
        exact eX10_firstDifference_18 hc hW h0 h1 ⟨fun _ => loop2 hs 8 0 rfl (fun q hq => absurd hq (by omega)), fun q => absurd (by decide) q⟩
      | succ j ih =>
        intro i hi hs
        refine eX10_firstDifference_18 hc hW h0 h1 ⟨fun q => absurd ((nI_leI (a := 4) (by decide) (by omega)).mp q) (by omega), fun _ => ⟨vpN (by omega) (by decide), vpN (by omega) (by decide), ?_⟩⟩
        rw [nI_clamp (by omega), hr.2.1 i (by omega), hq.2.1 i (by omega), nI_1]
        refine ⟨fun q => ih (i + 1) (by omega) (fun p hp => ?_), fun q => ?_⟩
        · by_cases z : p = i
          · rw [z]; exact q
          · exact hs p (by omega)
        · rw [iT_f (fun z => q (z i (by omega)))] at h; exact h
    exact loop1 4 0 rfl (fun q hq => absurd hq (by omega))
  · rw [iT_f w] at h; exact h
/-- a state's own objects -/
def stS (s : Nat) (b : Nat) : Prop := s + 3 ≤ b ∧ b < s + 37
theorem row_st {s j : Nat} (hj : j < 16) : ∀ b, rowS (s + 5 + 2 * j) b → stS s b := by unfold rowS stS; omega
theorem RowIs.cg {M : Mem} {a n : Nat} {k : Int32} {f g : Nat → Int64} (h : RowIs M a k n f) (e : ∀ i, i < n → f i = g i) : RowIs M a k n g := ⟨h.1, h.2.1, h.2.2.1, fun i hi => (h.2.2.2 i hi).trans (e i hi)⟩
theorem c_stCopy {a0 a1 : Nat} {d : DS} {M : Mem} {K : RT} (hW : Wf M) (h0 : (Sh a0).1 = 7) (h1 : (Sh a1).1 = 7) (hap : a1 + 37 ≤ a0 ∨ a0 + 37 ≤ a1) (hr : RD M a1 d) (h : ∀ M', Wf M' → gR M' = gR M → Mo (stS a0) M M' → RD M' a0 d → K none M') : sp_X10_copyFrom [.ref a0, .ref a1] M K := by
  refine ⟨Nat.le_of_ble_eq_true rfl, fun G hc => ?_⟩
  rw [hW.1] at hc
  have loop : ∀ j i : Nat, i + j = 8 → ∀ M1, Wf M1 → gR M1 = gR M → Mo (stS a0) M M1 → (∀ q, q < 2 * i → RowIs M1 (a0 + 5 + 2 * q) (dk d q) (dn d q) (di d q)) → G 2 [some (.ref a0), some (.ref a1), some (.int (nI i))] [] M1 := by
    intro j
    induction j with
    | zero =>
      intro i hi M1 w1 w2 w3 w4
      have : i = 8 := by omega
      subst this
      have hr1 : RD M1 a1 d := hr.mo w3 (by unfold stS; omega)
      refine eX10_copyFrom_2 hc w1 h0 h1 ⟨fun _ => ?_, fun q => absurd (by decide) q⟩
      have s3 : stS a0 (a0 + 3) := by unfold stS; omega
      have s4 : stS a0 (a0 + 4) := by unfold stS; omega
      have m1 : Mo (fun b => b = a0 + 3 ∨ b = a0 + 4) M1 (bL (bI M1 (a0 + 3) (va_cpy (gI M1 (a1 + 3)) (gI M1 (a0 + 3)) 0 0 4)) (a0 + 4) (va_cpy (gL (bI M1 (a0 + 3) (va_cpy (gI M1 (a1 + 3)) (gI M1 (a0 + 3)) 0 0 4)) (a1 + 4)) (gL (bI M1 (a0 + 3) (va_cpy (gI M1 (a1 + 3)) (gI M1 (a0 + 3)) 0 0 4)) (a0 + 4)) 0 0 8)) := (Mo_bI (Or.inl rfl)).tr (Mo_bL (Or.inr rfl))
      refine h _ (Wf_bL (Wf_bI w1)) w2 (w3.tr (m1.mono (fun b hb => by rcases hb with rfl | rfl <;> assumption))) ⟨fun j hj => (w4 j (by omega)).mo m1 (by omega) (by omega), fun m hm => ?_, fun k hk => ?_⟩
      · show gI (bI M1 (a0 + 3) _) (a0 + 3) m = _
        rw [gI_bI, if_pos rfl, cpy_0I, if_pos hm]
        exact hr1.2.1 m hm
      · rw [gL_bL, if_pos rfl, cpy_0, if_pos hk]
        exact hr1.2.2 k hk
    | succ j ih =>
      intro i hi M1 w1 w2 w3 w4
      have hr1 : RD M1 a1 d := hr.mo w3 (by unfold stS; omega)
      have v1 := hr1.1 (2 * i) (by omega)
      rw [← (st_row a1 i).1] at v1
      obtain ⟨c1, c2, c3, c4⟩ := copy_row (a := a0 + 5 + 4 * i) (b := a1 + 5 + 4 * i) (SstR h0 (by omega)) (SstR h1 (by omega)) v1
      have hr2 : RD (m_X8_copyFrom (a0 + 5 + 4 * i) (a1 + 5 + 4 * i) M1) a1 d := hr1.mo c2 (by unfold rowS; omega)
      have v2 := hr2.1 (2 * i + 1) (by omega)
      rw [← (st_row a1 i).2] at v2
      obtain ⟨e1, e2, e3, e4⟩ := copy_row (a := a0 + 7 + 4 * i) (b := a1 + 7 + 4 * i) (SstA h0 (by omega)) (SstA h1 (by omega)) v2
      refine eX10_copyFrom_2 hc w1 h0 h1 ⟨fun q => absurd ((nI_leI (a := 8) (by decide) (by omega)).mp q) (by omega), fun _ => ?_⟩
      rw [nI_clamp (by omega), nI_1]
      have vp := vpN (n := i) (N := 8) (by omega) (by decide)
      refine ⟨vp, vp, c1, vp, vp, e1, ih (i + 1) (by omega) _ (Wf_m_X8_copyFrom _ _ (Wf_m_X8_copyFrom _ _ w1)) (e3.trans (c3.trans w2)) (w3.tr ((c2.mono (by unfold rowS stS; omega)).tr (e2.mono (by unfold rowS stS; omega)))) (fun q hq => ?_)⟩
      by_cases z1 : q = 2 * i + 1
      · subst z1
        rw [← (st_row a0 i).2]
        exact e4
      · by_cases z2 : q = 2 * i
        · subst z2
          rw [← (st_row a0 i).1]
          exact c4.mo e2 (by unfold rowS; omega) (by unfold rowS; omega)
        · exact ((w4 q (by omega)).mo c2 (by unfold rowS; omega) (by unfold rowS; omega)).mo e2 (by unfold rowS; omega) (by unfold rowS; omega)
  exact eX10_copyFrom hc hW h0 h1 (loop 8 0 rfl M hW rfl Mo.rf (fun q hq => absurd hq (by omega)))
end STATE
