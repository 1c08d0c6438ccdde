section ROWS
theorem i32_0 : (0 : Int32) = nI 0 := rfl
/-- Arrays.fill of a row of longs -/
theorem c_fillJ {a n f t : Nat} {v : Int64} {M : Mem} {K : RT} (hW : Wf M) (ha : Sh a = (14, n)) (hn : n < 2 ^ 31) (hft : f ≤ t) (ht : t ≤ n) (h : K none (bL M a (fun j => if f ≤ j ∧ j < t then v else gL M a j))) : sp_J7_fill_bad5a [.ref a, .int (nI f), .int (nI t), .long v] M K := by
  refine ⟨Nat.le_of_ble_eq_true rfl, fun G hc => ?_⟩
  rw [hW.1] at hc
  have loop : ∀ j i : Nat, i + j = t → f ≤ i → ∀ {o1 : Option Value}, G 10 [some (.ref a), o1, some (.int (nI t)), some (.long v), none, some (.int (nI i))] [] (bL M a (fun q => if f ≤ q ∧ q < i then v else gL M a q)) := by
    intro j
    induction j with
    | zero =>
      intro i hi hf o1
      have : i = t := by omega
      subst this
      exact eJ7_fill_bad5a_10 hc (Wf_bL hW) ha ⟨fun _ => h, fun q => absurd (nI_le (Nat.le_refl _) (by omega)) q⟩
    | succ j ih =>
      intro i hi hf o1
      refine eJ7_fill_bad5a_10 hc (Wf_bL hW) ha ⟨fun q => absurd ((nI_leI (by omega) (by omega)).mp q) (by omega), fun _ => ⟨vpN (by omega) hn, ?_⟩⟩
      rw [nI_clamp (by omega), bL_uL, nI_1]
      have e : (fun q => if q = i then v else if f ≤ q ∧ q < i then v else gL M a q) = (fun q => if f ≤ q ∧ q < i + 1 then v else gL M a q) := by
        funext q
        by_cases h1 : q = i
        · rw [if_pos h1, if_pos (by omega)]
        · rw [if_neg h1]
          by_cases h2 : f ≤ q ∧ q < i
          · rw [if_pos h2, if_pos (by omega)]
          · rw [if_neg h2, if_neg (by omega)]
      rw [e]
      exact ih (i + 1) (by omega) (by omega)
  refine eJ7_fill_bad5a hc hW ha ?_
  refine wJ7_rangeCheck_23922 hW ⟨fun _ => ⟨fun _ => ⟨fun _ => ?_, fun q => absurd ?_ q⟩, fun q => absurd ?_ q⟩, fun q => absurd ?_ q⟩
  · refine rJ7_fill_bad5a_0_4 hc hW ha ?_
    have l := @loop (t - f) f (by omega) (Nat.le_refl _) (some (.int (nI f)))
    rw [bL_id (fun j => if_neg (by omega))] at l
    exact l
  · exact (nI_leI (by omega) (by omega)).mpr ht
  · exact nI_pos' (by omega)
  · exact (nI_leI (by omega) (by omega)).mpr hft
/-- .. of a row of ints -/
theorem c_fillI {a n : Nat} {v : Int32} {M : Mem} {K : RT} (hW : Wf M) (ha : Sh a = (13, n)) (hn : n < 2 ^ 31) (h : K none (bI M a (fun j => if j < n then v else gI M a j))) : sp_J7_fill_53178 [.ref a, .int v] M K := by
  refine ⟨Nat.le_of_ble_eq_true rfl, fun G hc => ?_⟩
  rw [hW.1] at hc
  have loop : ∀ j i : Nat, i + j = n → G 5 [some (.ref a), some (.int v), some (.int (nI i)), some (.int (nI n))] [] (bI M a (fun q => if q < i then v else gI M a q)) := by
    intro j
    induction j with
    | zero =>
      intro i hi
      have : i = n := by omega
      subst this
      exact eJ7_fill_53178_5 hc (Wf_bI hW) ha ⟨fun _ => h, fun q => absurd (nI_le (Nat.le_refl _) (by omega)) q⟩
    | succ j ih =>
      intro i hi
      refine eJ7_fill_53178_5 hc (Wf_bI hW) ha ⟨fun q => absurd ((nI_leI (by omega) (by omega)).mp q) (by omega), fun _ => ⟨vpN (by omega) hn, ?_⟩⟩
      rw [nI_clamp (by omega), bI_uI, nI_1]
      have e : (fun q => if q = i then v else if q < i then v else gI M a q) = (fun q => if q < i + 1 then v else gI M a q) := by
        funext q
        by_cases h1 : q = i
        · rw [if_pos h1, if_pos (by omega)]
        · rw [if_neg h1]
          by_cases h2 : q < i
          · rw [if_pos h2, if_pos (by omega)]
          · rw [if_neg h2, if_neg (by omega)]
      rw [e]
      exact ih (i + 1) (by omega)
  refine eJ7_fill_53178 hc hW ha ?_
  have l := loop n 0 (by omega)
  rw [bI_id (fun j => if_neg (by omega))] at l
  exact l
/-- a row's own writes -/
def rowS (a : Nat) (b : Nat) : Prop := b = a ∨ b = a + 1
theorem c_X8_reach {a n m : Nat} {k : Int32} {f : Nat → Int64} {M : Mem} {K : RT} (hW : Wf M) (ha : (Sh a).1 = 5) (hr : RowIs M a k n f) (hm : m ≤ 64)
    (h : ∀ M', Wf M' → Mo (rowS a) M M' → gR M' = gR M → RowIs M' a k m (fun i => if i < n then f i else 0) → K none M') : sp_X8_reach [.ref a, .int (nI m)] M K := by
  refine ⟨Nat.le_of_ble_eq_true rfl, fun G hc => ?_⟩
  rw [hW.1] at hc
  obtain ⟨r1, r2, r3, r4⟩ := hr
  have s1 : rowS a a := Or.inl rfl
  have s2 : rowS a (a + 1) := Or.inr rfl
  refine eX8_reach hc hW ha ?_
  rw [r2, show (64 : Int32) = nI 64 from rfl, nI_leI (by omega) (by omega), nI_ltI (by omega) (by omega)]
  refine ⟨fun q => ?_, fun q => ⟨fun q2 => absurd q2 (by omega), fun q2 => ?_⟩⟩
  · refine h _ (Wf_uI hW) (Mo_uI s1) rfl ⟨?_, rI_eq, hm, fun i hi => ?_⟩
    · rw [rI_k (by decide)]; exact r1
    · show gL M (a + 1) i = (if i < n then f i else 0)
      rw [if_pos (by omega)]; exact r4 i (by omega)
  · refine c_fillJ hW (Srow ha) (by decide) (by omega) hm (rX8_reach_14_6 hc (Wf_bL hW) ha ?_)
    refine h _ (Wf_uI (Wf_bL hW)) ((Mo_bL s2).tr (Mo_uI s1)) rfl ⟨?_, rI_eq, hm, fun i hi => ?_⟩
    · rw [rI_k (by decide)]; exact r1
    · show gL (bL M (a + 1) _) (a + 1) i = _
      rw [gL_bL, if_pos rfl]
      show (if n ≤ i ∧ i < m then (0 : Int64) else gL M (a + 1) i) = (if i < n then f i else 0)
      by_cases w : i < n
      · rw [if_pos w, if_neg (by omega)]; exact r4 i w
      · rw [if_neg w, if_pos ⟨by omega, hi⟩]
theorem c_X8_make {a n : Nat} {k : Int32} {M : Mem} {K : RT} (hW : Wf M) (ha : (Sh a).1 = 5) (hn : n ≤ 64)
    (h : ∀ M', Wf M' → Mo (rowS a) M M' → gR M' = gR M → RowIs M' a k n (fun _ => 0) → K none M') : sp_X8_make [.ref a, .int k, .int (nI n)] M K := by
  refine ⟨Nat.le_of_ble_eq_true rfl, fun G hc => ?_⟩
  rw [hW.1] at hc
  have s1 : rowS a a := Or.inl rfl
  refine eX8_make hc hW ha ?_
  refine c_X8_reach (n := 0) (k := k) (f := fun _ => 0) (Wf_uI (Wf_uI hW)) ha ⟨?_, rI_eq, by decide, fun i hi => absurd hi (by omega)⟩ hn (fun M' w1 w2 w3 w4 => rX8_make_0_8 hc w1 (h M' w1 (((Mo_uI s1).tr (Mo_uI s1)).tr w2) w3 ⟨w4.1, w4.2.1, w4.2.2.1, fun i hi => ?_⟩))
  · rw [rI_k (by decide), rI_eq]
  · rw [w4.2.2.2 i hi]
    show (if i < 0 then (0 : Int64) else 0) = 0
    rw [if_neg (by omega)]
theorem cpy_0 {f g : Nat → Int64} {n i : Nat} : va_cpy f g 0 0 n i = if i < n then f i else g i := by
  unfold va_cpy
  by_cases h : i < n
  · rw [if_pos ⟨by omega, by omega⟩, if_pos h]
    congr 1
    omega
  · rw [if_neg (by omega), if_neg h]
theorem cpy_0I {f g : Nat → Int32} {n i : Nat} : va_cpy f g 0 0 n i = if i < n then f i else g i := by
  unfold va_cpy
  by_cases h : i < n
  · rw [if_pos ⟨by omega, by omega⟩, if_pos h]
    congr 1
    omega
  · rw [if_neg (by omega), if_neg h]
theorem copy_row {a b n : Nat} {k : Int32} {f : Nat → Int64} {M : Mem} (ha : (Sh a).1 = 5) (hb : (Sh b).1 = 5) (hr : RowIs M b k n f) : q_X8_copyFrom a b M ∧ Mo (rowS a) M (m_X8_copyFrom a b M) ∧ gR (m_X8_copyFrom a b M) = gR M ∧ RowIs (m_X8_copyFrom a b M) a k n f := by
  obtain ⟨r1, r2, r3, r4⟩ := hr
  have s1 : rowS a a := Or.inl rfl
  have s2 : rowS a (a + 1) := Or.inr rfl
  have e : gI (uI (uI M a 0 (gI M b 0)) a 1 (gI M b 1)) b 1 = nI n := by
    rw [gI_uI]
    by_cases q : b = a
    · subst q
      rw [if_pos ⟨rfl, rfl⟩, r2]
    · rw [if_neg (fun z => q z.1), gI_uI, if_neg (fun z => q z.1), r2]
  unfold q_X8_copyFrom m_X8_copyFrom
  rw [e, nI_clamp (by omega)]
  refine ⟨⟨by decide, by decide, nI_pos (by omega), by omega, by omega⟩, ((Mo_uI s1).tr (Mo_uI s1)).tr (Mo_bL s2), rfl, ?_, ?_, r3, fun i hi => ?_⟩
  · show gI (uI (uI M a 0 (gI M b 0)) a 1 (gI M b 1)) a 0 = k
    rw [rI_k (by decide), rI_eq, r1]
  · show gI (uI (uI M a 0 (gI M b 0)) a 1 (gI M b 1)) a 1 = nI n
    rw [rI_eq, r2]
  · rw [gL_bL, if_pos rfl, cpy_0, if_pos hi]
    exact r4 i hi
end ROWS
