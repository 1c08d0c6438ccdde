section STR
/-- a text's bytes -/
def tI (x : Nat) : List Nat := tBy.getD (x - 100200) []
theorem tby_all : ∀ t, t < 98 → (tBy.getD t []).length ≤ 7 ∧ ∀ b ∈ tBy.getD t [], b < 128 := by decide +kernel
theorem tI_len {x : Nat} (h : isTx x) : (tI x).length ≤ 7 := (tby_all (x - 100200) (by have := h.1; have := h.2; omega)).1
theorem tI_lt {x : Nat} (h : isTx x) {i : Nat} : (tI x).getD i 0 < 128 := by
  have h1 := (tby_all (x - 100200) (by have := h.1; have := h.2; omega)).2
  unfold tI
  rw [List.getD_eq_getElem?_getD]
  cases hq : (tBy.getD (x - 100200) [])[i]? with
  | none => decide
  | some b => exact h1 b (List.mem_of_getElem? hq)
theorem tI_by {x : Nat} : tBy.getD (x + 200 - 100400) [] = tI x := by
  have e : x + 200 - 100400 = x - 100200 := by omega
  unfold tI
  rw [e]
theorem c_len {x : Nat} (h : isTx x) : f_J0_length_8abf5 x = nI (tI x).length := by
  have hl := tI_len h
  unfold f_J0_length_8abf5 f_J0_coder_7d493
  rw [tI_by]
  show nI (tI x).length >>> ((0 : Int32) &&& 31) = _
  have : ∀ n, n ≤ 7 → nI n >>> ((0 : Int32) &&& 31) = nI n := by decide +kernel
  exact this _ hl
theorem c_chk {i n : Nat} {M : Mem} {K : RT} (hW : Wf M) (hi : i < n) (hn : n < 2 ^ 31) (h : K none M) : sp_J0_checkIndex_df160 [.int (nI i), .int (nI n)] M K := by
  refine ⟨Nat.le_of_ble_eq_true rfl, fun G hc => ?_⟩
  rw [hW.1] at hc
  refine hc _ _ _ ?_
  unfold BJ0_checkIndex_df160_0
  refine i_iload rfl (i_iload rfl ⟨?_, fun t => ?_⟩)
  · exact i_callS3 (Nat.le_of_ble_eq_true rfl) (wJ3_checkIndex_8e157N hW ⟨fun q => absurd q (nI_pos (by omega)), fun _ => ⟨fun _ => i_rI (i_pop rfl (i_vret hW.1 h)), fun q => absurd (nI_lt hi hn) q⟩⟩)
  · exact i_callS3 (Nat.le_of_ble_eq_true rfl) (wJ3_checkIndex_8e157 hW ⟨fun q => absurd q (nI_pos (by omega)), fun _ => ⟨fun _ => i_rI (i_pop rfl (i_vret hW.1 h)), fun q => absurd (nI_lt hi hn) q⟩⟩)
theorem ch_byte : ∀ b, b < 128 → (((Int32.ofNat b) &&& (255 : Int32)).toUInt32 % 65536).toInt32 = nI b := by decide +kernel
theorem c_charAt {x i : Nat} {M : Mem} {K : RT} (hW : Wf M) (hx : isTx x) (hi : i < (tI x).length) (h : K (some (.int (nI ((tI x).getD i 0)))) M) : sp_J0_charAt_5068e [.ref x, .int (nI i)] M K := by
  refine ⟨Nat.le_of_ble_eq_true rfl, fun G hc => ?_⟩
  rw [hW.1] at hc
  have hl := tI_len hx
  have hb := tI_lt hx (i := i)
  have r1 : 0 ≤ nI ((tI x).getD i 0) ∧ nI ((tI x).getD i 0) < 65536 := ⟨nI_pos' (by omega), nI_lt (b := 65536) (by omega) (by decide)⟩
  refine eJ0_charAt_5068e hc hW hx ⟨fun q => q trivial, fun _ => ?_⟩
  refine wJ1_charAt_3b067 hW (isBy_of hx) (fun {G2} hc2 => ?_)
  rw [tI_by]
  refine c_chk hW hi (by omega) (rJ1_charAt_3b067_0_3 hc2 hW (isBy_of hx) ?_)
  rw [tI_by, nI_clamp (by omega), ch_byte _ hb]
  exact ⟨vpN hi (by omega), r1, rJ0_charAt_5068e_7_3 hc hW ⟨r1, h⟩⟩
/-- the first place of a byte, or -1 -/
def ixL (c : Nat) : Nat → List Nat → Int32
  | _, [] => -1
  | i, b :: l => if b = c then nI i else ixL c (i + 1) l
def ixJ (l : List Nat) (c : Nat) : Int32 := ixL c 0 l
theorem tb8' : ∀ c ∈ List.range 256, (nI c).toInt8.toInt32.toInt = if c < 128 then (c : Int) else (c : Int) - 256 := by decide +kernel
theorem tb8 {c : Nat} (h : c < 256) : (nI c).toInt8.toInt32.toInt = if c < 128 then (c : Int) else (c : Int) - 256 := tb8' c (List.mem_range.mpr h)
theorem c_ixChar {y c n : Nat} {l : List Nat} {M : Mem} {K : RT} (hW : Wf M) (hy : isBy y) (el : tBy.getD (y - 100400) [] = l) (hl : l.length ≤ 7) (hlt : ∀ i, l.getD i 0 < 128) (hc' : c < 256) (hn : n = l.length) (h : K (some (.int (ixJ l c))) M) : sp_J1_indexOfChar_4cfef [.ref y, .int (nI c), .int (nI 0), .int (nI n)] M K := by
  refine ⟨Nat.le_of_ble_eq_true rfl, fun G hc => ?_⟩
  rw [hW.1] at hc
  have byc : ∀ b, b < 128 → ∀ c, c < 256 → ((nI b) = (nI c).toInt8.toInt32 ↔ b = c) := by
    intro b hb c hc
    rw [fa_eq, tb8 hc, nI_toInt (by omega)]
    split <;> omega
  have loop : ∀ j i : Nat, i + j = n → ixL c i (l.drop i) = ixJ l c → ∀ {o1 o2 : Option Value}, G 7 [some (.ref y), o1, o2, some (.int (nI n)), some (.int ((nI c).toInt8.toInt32)), some (.int (nI i))] [] M := by
    intro j
    induction j with
    | zero =>
      intro i hi hs o1 o2
      have : i = n := by omega
      subst this
      rw [List.drop_eq_nil_of_le (by omega)] at hs
      rw [← hs] at h
      exact eJ1_indexOfChar_4cfef_7 hc hW hy ⟨fun _ => h, fun q => absurd (nI_le (Nat.le_refl _) (by omega)) q⟩
    | succ j ih =>
      intro i hi hs o1 o2
      have hb := hlt i
      have hd : l.drop i = l.getD i 0 :: l.drop (i + 1) := by
        rw [List.drop_eq_getElem_cons (by omega), List.getD_eq_getElem?_getD, List.getElem?_eq_getElem (by omega)]
        rfl
      rw [hd] at hs
      unfold ixL at hs
      refine eJ1_indexOfChar_4cfef_7 hc hW hy ⟨fun q => absurd ((nI_leI (by omega) (by omega)).mp q) (by omega), fun _ => ?_⟩
      rw [el, nI_clamp (by omega)]
      refine ⟨vpN (by omega) (by omega), ?_⟩
      rw [show Int32.ofNat (l.getD i 0) = nI (l.getD i 0) from rfl, byc _ hb c hc', nI_1]
      refine ⟨fun q => ?_, fun q => ?_⟩
      · rw [if_neg q] at hs
        exact ih (i + 1) (by omega) hs
      · rw [if_pos q] at hs
        rw [← hs] at h
        exact h
  exact eJ1_indexOfChar_4cfef hc hW hy (loop n 0 (by omega) rfl)
theorem c_indexOf {x c : Nat} {M : Mem} {K : RT} (hW : Wf M) (hx : isTx x) (hc' : c < 256) (h : K (some (.int (ixJ (tI x) c))) M) : sp_J0_indexOf_0f7a4 [.ref x, .int (nI c)] M K := by
  refine ⟨Nat.le_of_ble_eq_true rfl, fun G hc => ?_⟩
  rw [hW.1] at hc
  have hl := tI_len hx
  refine eJ0_indexOf_0f7a4 hc hW hx (wJ0_indexOf_7cf53 hW hx (fun {G2} hc2 => ⟨fun q => q trivial, fun _ => wJ1_indexOf_4cfef hW (isBy_of hx) (fun {G3} hc3 => ⟨fun _ => ?_, fun q => absurd ?_ q⟩)⟩))
  · intro y1 hy1
    rw [c_len hx, tI_by] at hy1
    have e : y1 = nI (tI x).length := by
      rw [hy1]
      show f_J9_min_7cf53 (nI (tI x).length) (nI (tI x).length) = _
      unfold f_J9_min_7cf53
      split <;> rfl
    subst e
    have e0 : f_J9_max_7cf53 (0 : Int32) (0 : Int32) = nI 0 := by decide +kernel
    rw [e0]
    refine ⟨fun q => ?_, fun q => ?_⟩
    · exact c_ixChar hW (isBy_of hx) tI_by (tI_len hx) (fun _ => tI_lt hx) hc' rfl (rJ1_indexOf_4cfef_29_4 hc3 hW (rJ0_indexOf_7cf53_7_6 hc2 hW (rJ0_indexOf_0f7a4_0_3 hc hW h)))
    · have hz : (tI x).length = 0 := by
        rcases Nat.eq_zero_or_pos (tI x).length with w | w
        · exact w
        · exact absurd (nI_lt w (by omega)) q
      have : tI x = [] := List.length_eq_zero_iff.mp hz
      rw [this] at h
      exact rJ0_indexOf_7cf53_7_6 hc2 hW (rJ0_indexOf_0f7a4_0_3 hc hW h)
  · exact ⟨nI_pos (by omega), nI_nlt (b := c) (a := 255) (by omega) (by decide)⟩
end STR
