section STATE2
/-- BEGIN's registers and masks -/
def clrD (d : DS) : DS := (fun j => if j % 2 = 0 then -1 else dk d j, fun j => if j % 2 = 0 then 0 else dn d j, di d, fun _ => 0, dsc d)
theorem c_clearReg {s : Nat} {d : DS} {M : Mem} {K : RT} (hW : Wf M) (h0 : (Sh s).1 = 7) (hr : RD M s d) (h : ∀ M', Wf M' → gR M' = gR M → Mo (stS s) M M' → RD M' s (clrD d) → K none M') : sp_X10_clearRegisters [.ref s] M K := by
  refine ⟨Nat.le_of_ble_eq_true rfl, fun G hc => ?_⟩
  rw [hW.1] at hc
  have loop : ∀ j i : Nat, i + j = 8 → ∀ M1, Wf M1 → gR M1 = gR M → Mo (stS s) M M1 → (∀ q, q < 16 → RowIs M1 (s + 5 + 2 * q) (if q % 2 = 0 ∧ q < 2 * i then -1 else dk d q) (if q % 2 = 0 ∧ q < 2 * i then 0 else dn d q) (di d q)) → (∀ k, k < 8 → gL M1 (s + 4) k = dsc d k) → G 2 [some (.ref s), some (.int (nI i))] [] M1 := by
    intro j
    induction j with
    | zero =>
      intro i hi M1 w1 w2 w3 w4 w5
      have : i = 8 := by omega
      subst this
      refine eX10_clearRegisters_2 hc w1 h0 ⟨fun _ => ?_, fun q => absurd (by decide) q⟩
      have m1 : Mo (fun b => b = s + 3) M1 (bI M1 (s + 3) (fun j => if j < 4 then 0 else gI M1 (s + 3) j)) := Mo_bI rfl
      refine c_fillI w1 (Sst h0).2.2.1 (by decide) (rX10_clearRegisters_23_3 hc (Wf_bI w1) (h _ (Wf_bI w1) w2 (w3.tr (m1.mono (by unfold stS; omega))) ⟨fun q hq => ?_, fun m hm => ?_, fun k hk => ?_⟩))
      · have := (w4 q hq).mo m1 (by omega) (by omega)
        unfold clrD dk dn di
        dsimp only
        by_cases z : q % 2 = 0
        · rw [if_pos ⟨z, by omega⟩, if_pos ⟨z, by omega⟩] at this
          rw [if_pos z, if_pos z]
          exact this
        · rw [if_neg (fun y => z y.1), if_neg (fun y => z y.1)] at this
          rw [if_neg z, if_neg z]
          exact this
      · rw [gI_bI, if_pos rfl, if_pos hm]
        rfl
      · exact w5 k hk
    | succ j ih =>
      intro i hi M1 w1 w2 w3 w4 w5
      refine eX10_clearRegisters_2 hc w1 h0 ⟨fun q => absurd ((nI_leI (a := 8) (by decide) (by omega)).mp q) (by omega), fun _ => ⟨vpN (by omega) (by decide), ?_⟩⟩
      rw [nI_clamp (by omega), nI_1, (st_row s i).1]
      have s1 : rowS (s + 5 + 2 * (2 * i)) (s + 5 + 2 * (2 * i)) := Or.inl rfl
      have m1 : Mo (rowS (s + 5 + 2 * (2 * i))) M1 (m_X8_unmake (s + 5 + 2 * (2 * i)) M1) := (Mo_uI s1).tr (Mo_uI s1)
      refine ih (i + 1) (by omega) _ (Wf_m_X8_unmake _ w1) w2 (w3.tr (m1.mono (row_st (by omega)))) (fun q hq => ?_) (fun k hk => ?_)
      · by_cases z : q = 2 * i
        · subst z
          rw [if_pos ⟨by omega, by omega⟩, if_pos ⟨by omega, by omega⟩]
          refine ⟨?_, rI_eq, by decide, fun i hi => absurd hi (by omega)⟩
          show gI (uI (uI M1 _ 0 (-1 : Int32)) _ 1 (0 : Int32)) _ 0 = -1
          rw [rI_k (by decide), rI_eq]
        · have := (w4 q hq).mo m1 (by unfold rowS; omega) (by unfold rowS; omega)
          have e : (q % 2 = 0 ∧ q < 2 * (i + 1)) ↔ (q % 2 = 0 ∧ q < 2 * i) := by omega
          simp only [e]
          exact this
      · rw [m1.L (by unfold rowS; omega)]
        exact w5 k hk
  refine eX10_clearRegisters hc hW h0 (loop 8 0 rfl M hW rfl Mo.rf (fun q hq => ?_) hr.2.2)
  rw [if_neg (by omega), if_neg (by omega)]
  exact hr.1 q hq
/-- all elements -/
def elN (d : DS) : Nat := fb_sm (fun a => dn d (2 * a + 1)) 8
theorem c_elements {s : Nat} {d : DS} {M : Mem} {K : RT} (hW : Wf M) (h0 : (Sh s).1 = 7) (hr : RD M s d) (h : K (some (.int (nI (elN d)))) M) : sp_X10_elements [.ref s] M K := by
  refine ⟨Nat.le_of_ble_eq_true rfl, fun G hc => ?_⟩
  rw [hW.1] at hc
  have loop : ∀ j i : Nat, i + j = 8 → G 4 [some (.ref s), some (.int (nI (fb_sm (fun a => dn d (2 * a + 1)) i))), some (.int (nI i))] [] M := by
    intro j
    induction j with
    | zero =>
      intro i hi
      have : i = 8 := by omega
      subst this
      exact eX10_elements_4 hc hW h0 ⟨fun _ => h, fun q => absurd (by decide) q⟩
    | succ j ih =>
      intro i hi
      refine eX10_elements_4 hc hW h0 ⟨fun q => absurd ((nI_leI (a := 8) (by decide) (by omega)).mp q) (by omega), fun _ => ⟨vpN (by omega) (by decide), ?_⟩⟩
      intro y1 hy1
      rw [nI_clamp (by omega), (st_row s i).2, (hr.1 (2 * i + 1) (by omega)).2.1, nI_add] at hy1
      rw [hy1, nI_1]
      exact ih (i + 1) (by omega)
  exact eX10_elements hc hW h0 (loop 8 0 rfl)
/-- the least array that is NONE -/
def ffR (d : DS) (r : Int32) : Prop := (∃ a, a < 8 ∧ r = nI a ∧ dk d (2 * a + 1) = -1 ∧ ∀ b, b < a → ¬ dk d (2 * b + 1) = -1) ∨ (r = -1 ∧ ∀ b, b < 8 → ¬ dk d (2 * b + 1) = -1)
theorem ffR_one {d : DS} {r r' : Int32} (h : ffR d r) (h' : ffR d r') : r = r' := by
  rcases h with ⟨a, h1, h2, h3, h4⟩ | ⟨h1, h2⟩
  · rcases h' with ⟨b, g1, g2, g3, g4⟩ | ⟨g1, g2⟩
    · have : a = b := by
        rcases Nat.lt_trichotomy a b with q | q | q
        · exact absurd h3 (g4 a q)
        · exact q
        · exact absurd g3 (h4 b q)
      rw [h2, g2, this]
    · exact absurd h3 (g2 a h1)
  · rcases h' with ⟨b, g1, g2, g3, g4⟩ | ⟨g1, g2⟩
    · exact absurd g3 (h2 b g1)
    · rw [h1, g1]
theorem c_firstFree {s : Nat} {d : DS} {M : Mem} {K : RT} (hW : Wf M) (h0 : (Sh s).1 = 7) (hr : RD M s d) (h : ∀ r, ffR d r → K (some (.int r)) M) : sp_X10_firstFreeArray [.ref s] M K := by
  refine ⟨Nat.le_of_ble_eq_true rfl, fun G hc => ?_⟩
  rw [hW.1] at hc
  have loop : ∀ j i : Nat, i + j = 8 → (∀ b, b < i → ¬ dk d (2 * b + 1) = -1) → G 2 [some (.ref s), some (.int (nI i))] [] M := by
    intro j
    induction j with
    | zero =>
      intro i hi hs
      have : i = 8 := by omega
      subst this
      exact eX10_firstFreeArray_2 hc hW h0 ⟨fun _ => h _ (Or.inr ⟨rfl, hs⟩), fun q => absurd (by decide) q⟩
    | succ j ih =>
      intro i hi hs
      refine eX10_firstFreeArray_2 hc hW h0 ⟨fun q => absurd ((nI_leI (a := 8) (by decide) (by omega)).mp q) (by omega), fun _ => ⟨vpN (by omega) (by decide), ?_⟩⟩
      rw [nI_clamp (by omega), (st_row s i).2, (hr.1 (2 * i + 1) (by omega)).1, nI_1]
      refine ⟨fun q => ih (i + 1) (by omega) (fun b hb => ?_), fun q => h _ (Or.inl ⟨i, by omega, rfl, q, hs⟩)⟩
      by_cases z : b = i
      · rw [z]; exact q
      · exact hs b (by omega)
  exact eX10_firstFreeArray hc hW h0 (loop 8 0 rfl (fun b hb => absurd hb (by omega)))
end STATE2
