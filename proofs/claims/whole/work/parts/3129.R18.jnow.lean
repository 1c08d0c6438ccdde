section RJNOW
section
variable {M M' : Mem} {K : RT} {n i : Nat} {c : Nat → Nat → Int64}
theorem cntR_mono {o : Nat} : ∀ j k, cntR o k ≤ cntR o (k + j) := by
  intro j
  induction j with
  | zero => intro k; exact Nat.le_refl _
  | succ j ih => intro k; exact Nat.le_trans (ih k) (by show _ ≤ cntR o (k + j) + _; omega)
theorem cntR3 : ∀ o ∈ List.range 46, cntR o 4 ≤ 3 ∧ cntR o (opL o).length = cntR o 4 ∧ (∀ j ∈ List.range 3, j < cntR o 4 → posR o j < (opL o).length ∧ (97 ≤ letN o (posR o j) ∧ letN o (posR o j) ≤ 122) ∧ cntR o (posR o j) = j) ∧ (o ≠ 0 → 0 < cntR o 4) := by decide +kernel
theorem kinds_nz {L k : Nat} (hL : L < 128) (hk : k < 7) : ((f_X4_kinds (nI L)) >>> (nI k &&& 31)) &&& (1 : Int32) = 0 ↔ ¬ kdB L k = true := by
  rw [kdB_is, ← kinds_bt hL hk, ← onW_bt (show k < 32 by omega)]
  unfold onW
  exact Classical.not_not.symm
def shI (s : Nat) : Int32 := if s = 9 then -1 else nI s
theorem kI7 {k : Nat} (h : k < 7) : kI k = nI k := by unfold kI; rw [if_neg (by omega), if_neg (by omega)]
theorem mfR_N {o : Nat} {kd : Nat → Int32} {kn : Nat → Nat} {eqL : Nat → Bool} (ho : o < 46) (hk : ∀ j, j < cntR o 4 → kd j = kI (kn j) ∧ kn j ≤ 7) :
    ∀ j k s un, k + j = (opL o).length → (s = 9 ∨ s < 7) → mfR o kd eqL j k (shI s) (cntR o k) un = if mfN o kn j k s (cntR o k) = true then iT (un = true ∨ ∃ q, k ≤ q ∧ q < k + j ∧ (97 ≤ letN o q ∧ letN o q ≤ 122) ∧ eqL (cntR o q) = false) 2 0 else 1 := by
  obtain ⟨c3, cl, -, -⟩ := cntR3 o (List.mem_range.mpr ho)
  intro j
  induction j with
  | zero =>
    intro k s un _ _
    show (if un = true then (2 : Int32) else 0) = if true = true then _ else _
    rw [if_pos rfl]
    by_cases z : un = true
    · rw [if_pos z, iT_t (Or.inl z)]
    · rw [if_neg z, iT_f (fun y => by
        rcases y with y | ⟨q, q1, q2, -⟩
        · exact z y
        · omega)]
  | succ j ih =>
    intro k s un hkl hs
    have hlt := letN_lt (o := o) (k := k) (by omega)
    unfold mfR mfN
    by_cases hr : 97 ≤ letN o k ∧ letN o k ≤ 122
    · rw [if_pos hr, if_pos hr]
      have hc1 : cntR o (k + 1) = cntR o k + 1 := by show cntR o k + _ = _; rw [if_pos hr]
      have hlt4 : cntR o k < cntR o 4 := by
        have := cntR_mono (o := o) j (k + 1)
        rw [show k + 1 + j = (opL o).length by omega, cl] at this
        omega
      obtain ⟨e1, e2⟩ := hk _ hlt4
      have k1 := kI_is (kn (cntR o k)) (List.mem_range.mpr (by omega))
      rw [e1]
      by_cases h7 : kn (cntR o k) = 7
      · rw [if_pos (k1.1.mpr h7), if_pos h7]
        rfl
      · rw [if_neg (fun z => h7 (k1.1.mp z)), if_neg h7, kI7 (by omega)]
        by_cases hb : kdB (letN o k) (kn (cntR o k)) = true
        · rw [if_neg (fun z => (kinds_nz hlt (by omega)).mp z hb), if_neg (show ¬ kdB (letN o k) (kn (cntR o k)) = false by rw [hb]; decide)]
          -- the rest
          have un' : ∀ m : Bool, (if m = true then iT ((un || !eqL (cntR o k)) = true ∨ ∃ q, k + 1 ≤ q ∧ q < k + 1 + j ∧ (97 ≤ letN o q ∧ letN o q ≤ 122) ∧ eqL (cntR o q) = false) (2 : Int32) 0 else 1) = if m = true then iT (un = true ∨ ∃ q, k ≤ q ∧ q < k + (j + 1) ∧ (97 ≤ letN o q ∧ letN o q ≤ 122) ∧ eqL (cntR o q) = false) 2 0 else 1 := by
            intro m
            have : ((un || !eqL (cntR o k)) = true ∨ ∃ q, k + 1 ≤ q ∧ q < k + 1 + j ∧ (97 ≤ letN o q ∧ letN o q ≤ 122) ∧ eqL (cntR o q) = false) ↔ (un = true ∨ ∃ q, k ≤ q ∧ q < k + (j + 1) ∧ (97 ≤ letN o q ∧ letN o q ≤ 122) ∧ eqL (cntR o q) = false) := by
              rw [Bool.or_eq_true, Bool.not_eq_true']
              constructor
              · rintro ((z | z) | ⟨q, q1, q2, q3, q4⟩)
                · exact Or.inl z
                · exact Or.inr ⟨k, Nat.le_refl _, by omega, hr, z⟩
                · exact Or.inr ⟨q, by omega, by omega, q3, q4⟩
              · rintro (z | ⟨q, q1, q2, q3, q4⟩)
                · exact Or.inl (Or.inl z)
                · by_cases e : q = k
                  · subst e; exact Or.inl (Or.inr q4)
                  · exact Or.inr ⟨q, by omega, by omega, q3, q4⟩
            rw [propext this]
          by_cases hsh : letN o k = 107 ∨ letN o k = 119 ∨ letN o k = 114
          · rw [if_pos hsh, if_pos hsh]
            have es : (shI s = -1 ∨ shI s = nI (kn (cntR o k))) ↔ (s = 9 ∨ s = kn (cntR o k)) := by
              unfold shI
              by_cases h9 : s = 9
              · rw [if_pos h9]; exact ⟨fun _ => Or.inl h9, fun _ => Or.inl rfl⟩
              · rw [if_neg h9, nI_eq (by omega) (by omega)]
                refine ⟨fun z => z.elim (fun y => ?_) Or.inr, fun z => z.elim (fun y => absurd y h9) Or.inr⟩
                have : ∀ s ∈ List.range 7, ¬ nI s = -1 := by decide +kernel
                exact absurd y (this s (List.mem_range.mpr (by omega)))
            by_cases hss : s = 9 ∨ s = kn (cntR o k)
            · rw [if_pos (es.mpr hss), if_pos hss]
              have := ih (k + 1) (kn (cntR o k)) (un || !eqL (cntR o k)) (by omega) (Or.inr (by omega))
              rw [hc1] at this
              have e9 : shI (kn (cntR o k)) = nI (kn (cntR o k)) := by unfold shI; rw [if_neg (by omega)]
              rw [e9] at this
              rw [this]
              exact un' _
            · rw [if_neg (fun z => hss (es.mp z)), if_neg hss]
              rfl
          · rw [if_neg hsh, if_neg hsh]
            have := ih (k + 1) s (un || !eqL (cntR o k)) (by omega) hs
            rw [hc1] at this
            rw [this]
            exact un' _
        · rw [if_pos ((kinds_nz hlt (by omega)).mpr hb), if_pos (show kdB (letN o k) (kn (cntR o k)) = false by cases hh : kdB (letN o k) (kn (cntR o k)) with
            | false => rfl
            | true => exact absurd hh hb)]
          rfl
    · rw [if_neg hr, if_neg hr]
      have hc1 : cntR o (k + 1) = cntR o k := by show cntR o k + _ = _; rw [if_neg hr]; rfl
      have := ih (k + 1) s un (by omega) hs
      rw [hc1] at this
      rw [this]
      have : (∃ q, k + 1 ≤ q ∧ q < k + 1 + j ∧ (97 ≤ letN o q ∧ letN o q ≤ 122) ∧ eqL (cntR o q) = false) ↔ ∃ q, k ≤ q ∧ q < k + (j + 1) ∧ (97 ≤ letN o q ∧ letN o q ≤ 122) ∧ eqL (cntR o q) = false := by
        constructor
        · rintro ⟨q, q1, q2, q3, q4⟩; exact ⟨q, by omega, by omega, q3, q4⟩
        · rintro ⟨q, q1, q2, q3, q4⟩
          by_cases e : q = k
          · subst e; exact absurd q3 hr
          · exact ⟨q, by omega, by omega, q3, q4⟩
      rw [propext this]
/-- judged and the class's misfit -/
theorem jd_mf {o k0 k1 k2 : Nat} {kd : Nat → Int32} {eqL : Nat → Bool} {L0 L1 L2 : Int32} (ho : o < 46) (h0 : o ≠ 0) (hk0 : kd 0 = kI k0 ∧ k0 ≤ 7) (hk1 : (1 < cntR o 4 → kd 1 = kI k1 ∧ k1 ≤ 7 ∧ (L1 = L0 ↔ eqL 1 = true)) ∧ (¬ 1 < cntR o 4 → k1 = 8)) (hk2 : (2 < cntR o 4 → kd 2 = kI k2 ∧ k2 ≤ 7 ∧ (L2 = L0 ↔ eqL 2 = true)) ∧ (¬ 2 < cntR o 4 → k2 = 8)) (he0 : eqL 0 = true) : jdI (nI o) (kI k0) L0 (kI k1) L1 (kI k2) L2 = mfR o kd eqL (opL o).length 0 (-1) 0 false := by
  obtain ⟨c3, cl, cp, c0⟩ := cntR3 o (List.mem_range.mpr ho)
  have c0 := c0 h0
  have b1 : k1 ≤ 8 := by
    rcases Nat.lt_or_ge 1 (cntR o 4) with z | z
    · have := hk1.1 z; omega
    · have := hk1.2 (by omega); omega
  have b2 : k2 ≤ 8 := by
    rcases Nat.lt_or_ge 2 (cntR o 4) with z | z
    · have := hk2.1 z; omega
    · have := hk2.2 (by omega); omega
  have hN := mfR_N (o := o) (kd := kd) (kn := fun j => if j = 0 then k0 else if j = 1 then k1 else k2) (eqL := eqL) ho (fun j hj => by
    have hc : j = 0 ∨ j = 1 ∨ j = 2 := by omega
    rcases hc with rfl | rfl | rfl
    · exact hk0
    · have hk1 := hk1.1 hj; exact ⟨hk1.1, hk1.2.1⟩
    · have hk2 := hk2.1 hj; exact ⟨hk2.1, hk2.2.1⟩) (opL o).length 0 9 false (Nat.zero_add _) (Or.inl rfl)
  have e0 : shI 9 = -1 := rfl
  have ec : cntR o 0 = 0 := rfl
  rw [e0, ec] at hN
  rw [hN]
  have r0 : k0 ∈ rgR o 0 := by unfold rgR; rw [if_pos c0]; exact List.mem_range.mpr (by omega)
  have r1 : k1 ∈ rgR o 1 := by
    unfold rgR
    by_cases z : 1 < cntR o 4
    · have := hk1.1 z; rw [if_pos z]; exact List.mem_range.mpr (by omega)
    · rw [if_neg z, hk1.2 z]; exact List.mem_singleton.mpr rfl
  have r2 : k2 ∈ rgR o 2 := by
    unfold rgR
    by_cases z : 2 < cntR o 4
    · have := hk2.1 z; rw [if_pos z]; exact List.mem_range.mpr (by omega)
    · rw [if_neg z, hk2.2 z]; exact List.mem_singleton.mpr rfl
  have tb := mf_gd o (List.mem_range.mpr ho) h0 k0 r0 k1 r1 k2 r2
  rw [tb]
  have g0 := gd_is (o := o) (k0 := k0) (j := 0) (k := k0) (by omega) (by omega) (by omega) (by omega)
  have g1 := gd_is (o := o) (k0 := k0) (j := 1) (k := k1) (by omega) (by omega) (by omega) (by omega)
  have g2 := gd_is (o := o) (k0 := k0) (j := 2) (k := k2) (by omega) (by omega) (by omega) (by omega)
  unfold jdI
  have g0 : gdP (nI o) (kI k0) 0 (kI k0) ↔ _ := g0
  have g1 : gdP (nI o) (kI k0) 1 (kI k1) ↔ _ := g1
  have g2 : gdP (nI o) (kI k0) 2 (kI k2) ↔ _ := g2
  rw [g0, g1, g2]
  by_cases hg : (gdN o k0 0 k0 && gdN o k0 1 k1 && gdN o k0 2 k2) = true
  · have hg' := hg
    rw [Bool.and_eq_true, Bool.and_eq_true] at hg'
    rw [iT_t ⟨hg'.1.1, hg'.1.2, hg'.2⟩, if_pos hg]
    have a1 := (kI_is k1 (List.mem_range.mpr (by omega))).2.1
    have a2 := (kI_is k2 (List.mem_range.mpr (by omega))).2.1
    have key' : ((kI k1 = -2 ∨ L1 = L0) ∧ (kI k2 = -2 ∨ L2 = L0)) ↔ ((k1 = 8 ∨ L1 = L0) ∧ (k2 = 8 ∨ L2 = L0)) := by rw [a1, a2]
    have key : ((k1 = 8 ∨ L1 = L0) ∧ (k2 = 8 ∨ L2 = L0)) ↔ ¬ (false = true ∨ ∃ q, 0 ≤ q ∧ q < 0 + (opL o).length ∧ (97 ≤ letN o q ∧ letN o q ≤ 122) ∧ eqL (cntR o q) = false) := by
      constructor
      · rintro ⟨x1, x2⟩ (y | ⟨q, -, q2, q3, q4⟩)
        · exact absurd y (by decide)
        · have hq : cntR o q < cntR o 4 := by
            have hs : cntR o (q + 1) = cntR o q + 1 := by show cntR o q + _ = _; rw [if_pos q3]
            have := cntR_mono (o := o) ((opL o).length - (q + 1)) (q + 1)
            rw [show q + 1 + ((opL o).length - (q + 1)) = (opL o).length by omega, cl] at this
            omega
          have hcs : cntR o q = 0 ∨ cntR o q = 1 ∨ cntR o q = 2 := by omega
          rcases hcs with e | e | e
          · rw [e, he0] at q4; exact absurd q4 (by decide)
          · have hk1 := hk1.1 (by omega)
            rw [e] at q4
            have := hk1.2.2.mp (x1.resolve_left (by omega))
            rw [this] at q4; exact absurd q4 (by decide)
          · have hk2 := hk2.1 (by omega)
            rw [e] at q4
            have := hk2.2.2.mp (x2.resolve_left (by omega))
            rw [this] at q4; exact absurd q4 (by decide)
      · intro z
        refine ⟨?_, ?_⟩
        · by_cases y : 1 < cntR o 4
          · have hk1 := hk1.1 y
            obtain ⟨r1, r2, r3⟩ := cp 1 (by simp) y
            refine Or.inr (hk1.2.2.mpr ?_)
            cases he : eqL 1 with
            | true => rfl
            | false => exact absurd (Or.inr ⟨posR o 1, Nat.zero_le _, by omega, r2, by rw [r3]; exact he⟩) z
          · exact Or.inl (hk1.2 y)
        · by_cases y : 2 < cntR o 4
          · have hk2 := hk2.1 y
            obtain ⟨r1, r2, r3⟩ := cp 2 (by simp) y
            refine Or.inr (hk2.2.2.mpr ?_)
            cases he : eqL 2 with
            | true => rfl
            | false => exact absurd (Or.inr ⟨posR o 2, Nat.zero_le _, by omega, r2, by rw [r3]; exact he⟩) z
          · exact Or.inl (hk2.2 y)
    by_cases z : (kI k1 = -2 ∨ L1 = L0) ∧ (kI k2 = -2 ∨ L2 = L0)
    · rw [if_pos z, iT_f (key.mp (key'.mp z))]
    · rw [if_neg z, iT_t (Classical.byContradiction (fun y => z (key'.mpr (key.mpr y))))]
  · rw [if_neg hg, iT_f (fun y => hg (by rw [Bool.and_eq_true, Bool.and_eq_true]; exact ⟨⟨y.1, y.2.1⟩, y.2.2⟩))]
/-- nothing to judge -/
theorem jd_none {o : Nat} (ho : 46 ≤ o ∧ o < 68) : jdI (nI o) (-2) 0 (-2) 0 (-2) 0 = 0 := by
  have key : ∀ o ∈ List.range 68, 46 ≤ o → ∀ j ∈ List.range 3, gdN o 8 j 8 = true := by decide +kernel
  have g : ∀ j, j < 3 → gdP (nI o) (kI 8) (nI j) (kI 8) := fun j hj => (gd_is ho.2 hj (by omega) (by omega)).mpr (key o (List.mem_range.mpr ho.2) ho.1 j (List.mem_range.mpr hj))
  have e8 : kI 8 = -2 := rfl
  unfold jdI
  rw [← e8, iT_t ⟨g 0 (by omega), g 1 (by omega), g 2 (by omega)⟩, if_pos ⟨Or.inl rfl, Or.inl rfl⟩]
end
end RJNOW
