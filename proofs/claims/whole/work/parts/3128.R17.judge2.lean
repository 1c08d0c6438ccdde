section RJUDGE2
section
variable {M M' : Mem} {K : RT} {n i : Nat} {c : Nat → Nat → Int64}
def kI (k : Nat) : Int32 := if k = 8 then -2 else if k = 7 then -1 else nI k
def wN (o j : Nat) : Bool := (8 ≤ o && o ≤ 13) || (41 ≤ o && o ≤ 43) || (o == 25 && j == 0)
def plN (o : Nat) : Nat := if o = 26 ∨ o = 27 then 1 else if o = 34 then 2 else 9
def alN (o j : Nat) : Bool := (1 ≤ o && o ≤ 23) || (32 ≤ o && o ≤ 33) || (35 ≤ o && o ≤ 40) || (o == 34 && j == 1)
def gdN (o k0 j k : Nat) : Bool := k != 7 && (k == 8 || !wN o j || !(k == 5 || k == 6)) && (k == 8 || o != 16 || (k == 5 || k == 6)) && (plN o != j || k == 3) && (k == 8 || !alN o j || j == 0 || k == k0)
theorem wN_is : ∀ o ∈ List.range 68, ∀ j ∈ List.range 3, (P_X13_wantsWhole (nI o) (nI j) ↔ wN o j = true) := by unfold P_X13_wantsWhole P_X13_in; decide +kernel
theorem alN_is : ∀ o ∈ List.range 68, ∀ j ∈ List.range 3, ((P_X13_isAlike (nI o) ∨ (nI o = 34 ∧ nI j = 1)) ↔ alN o j = true) := by unfold P_X13_isAlike P_X13_in; decide +kernel
theorem plN_is : ∀ o ∈ List.range 68, ∀ j ∈ List.range 3, (f_X13_placesOf (nI o) = nI j ↔ plN o = j) := by decide +kernel
theorem kI_is : ∀ k ∈ List.range 9, (kI k = -1 ↔ k = 7) ∧ (kI k = -2 ↔ k = 8) ∧ (kI k = 3 ↔ k = 3) ∧ (P_X13_isReal (kI k) ↔ (k = 5 ∨ k = 6)) ∧ ∀ m ∈ List.range 9, (kI k = kI m ↔ k = m) := by unfold P_X13_isReal; decide +kernel
theorem gd_is {o k0 j k : Nat} (ho : o < 68) (hj : j < 3) (h0 : k0 < 9) (hk : k < 9) : gdP (nI o) (kI k0) (nI j) (kI k) ↔ gdN o k0 j k = true := by
  obtain ⟨a1, a2, a3, a4, a5⟩ := kI_is k (List.mem_range.mpr hk)
  have b1 := wN_is o (List.mem_range.mpr ho) j (List.mem_range.mpr hj)
  have b2 := alN_is o (List.mem_range.mpr ho) j (List.mem_range.mpr hj)
  have b3 := plN_is o (List.mem_range.mpr ho) j (List.mem_range.mpr hj)
  have b4 : nI o = 16 ↔ o = 16 := nI_eq (b := 16) (by omega) (by decide)
  have b5 : nI j = 0 ↔ j = 0 := nI_eq (b := 0) (by omega) (by decide)
  have b6 := a5 k0 (List.mem_range.mpr h0)
  unfold gdP gdN
  rw [Ne, Ne, a1, a2, a3, a4, b1, b2, b3, b4, b5, b6]
  generalize wN o j = w
  generalize alN o j = al
  generalize plN o = p
  cases w <;> cases al <;> simp <;> omega
def kdB (L k : Nat) : Bool := if L == 104 || L == 119 then decide (k < 5) else if L == 114 then k == 5 || k == 6 else if L == 105 then k == 3 else decide (k < 7)
theorem kdB_is {L k : Nat} : kdB L k = true ↔ kdL L k := by
  unfold kdB kdL
  by_cases h1 : L = 104 ∨ L = 119
  · rw [if_pos h1]
    rw [if_pos (by rcases h1 with z | z <;> simp [z])]
    simp
  · rw [if_neg h1]
    rw [if_neg (by simp; omega)]
    by_cases h2 : L = 114
    · rw [if_pos h2, if_pos (by simp [h2])]; simp
    · rw [if_neg h2, if_neg (by simp [h2])]
      by_cases h3 : L = 105
      · rw [if_pos h3, if_pos (by simp [h3])]; simp
      · rw [if_neg h3, if_neg (by simp [h3])]; simp
/-- the class's judgement of kinds -/
def mfN (o : Nat) (kn : Nat → Nat) : Nat → Nat → Nat → Nat → Bool
  | 0, _, _, _ => true
  | j + 1, k, sh, seen => if 97 ≤ letN o k ∧ letN o k ≤ 122 then (if kn seen = 7 then false else if kdB (letN o k) (kn seen) = false then false else if letN o k = 107 ∨ letN o k = 119 ∨ letN o k = 114 then (if sh = 9 ∨ sh = kn seen then mfN o kn j (k + 1) (kn seen) (seen + 1) else false) else mfN o kn j (k + 1) sh (seen + 1)) else mfN o kn j (k + 1) sh seen
def rgR (o j : Nat) : List Nat := if j < cntR o 4 then List.range 8 else [8]
theorem mf_gd : ∀ o ∈ List.range 46, o ≠ 0 → ∀ k0 ∈ rgR o 0, ∀ k1 ∈ rgR o 1, ∀ k2 ∈ rgR o 2, (mfN o (fun j => if j = 0 then k0 else if j = 1 then k1 else k2) (opL o).length 0 9 0 = (gdN o k0 0 k0 && gdN o k0 1 k1 && gdN o k0 2 k2)) := by decide +kernel
end
end RJUDGE2
