section WORDS
theorem and1 {x : Int32} : x &&& (1 : Int32) = 0 ↔ bt x 0 = false := by
  have h1 : ∀ i, i < 32 → bt (1 : Int32) i = decide (i = 0) := by decide +kernel
  refine ⟨fun h => ?_, fun h => b_ext (fun i hi => ?_)⟩
  · have := b_and x 1 0
    rw [h, b_0, h1 0 (by decide)] at this
    simpa using this.symm
  · rw [b_and, b_0, h1 i hi]
    by_cases e : i = 0
    · subst e; rw [h]; rfl
    · simp [e]
theorem onW_bt {w : Int32} {i : Nat} (hi : i < 32) : onW w i ↔ bt w i = true := by
  unfold onW
  rw [and1, b_sshr i hi w (by decide), if_pos (by omega), Nat.add_zero]
  simp
theorem below_bt {n i : Nat} (hn : n ≤ 32) (hi : i < 32) : bt (f_X2_below (nI n)) i = decide (i < n) := by
  have h : ∀ n ∈ List.range 33, ∀ i ∈ List.range 32, bt (f_X2_below (nI n)) i = decide (i < n) := by decide +kernel
  exact h n (List.mem_range.mpr (by omega)) i (List.mem_range.mpr hi)
theorem w_zero {w : Int32} {n : Nat} (hn : n ≤ 32) (h : ∀ i, i < 32 → n ≤ i → bt w i = false) : w = 0 ↔ ∀ i, i < n → ¬ onW w i := by
  refine ⟨fun e i hi => ?_, fun q => b_ext (fun i hi => ?_)⟩
  · rw [onW_bt (by omega), e, b_0]; decide
  · rw [b_0]
    rcases Nat.lt_or_ge i n with z | z
    · have := q i z
      rw [onW_bt hi] at this
      simpa using this
    · exact h i hi z
theorem shl1_bt {k i : Nat} (hk : k < 32) (hi : i < 32) : bt ((1 : Int32) <<< (nI k &&& 31)) i = decide (i = k) := by
  have h1 : ∀ i, i < 32 → bt (1 : Int32) i = decide (i = 0) := by decide +kernel
  rw [b_shl k hk 1 hi, h1 (i - k) (by omega)]
  by_cases e : i = k
  · subst e; simp
  · by_cases z : k ≤ i
    · have : ¬ i - k = 0 := by omega
      simp [e, this]
    · simp [e, z]
theorem crun_bt {p : Nat → Prop} {q : Nat} (hq : q < 32) : ∀ j i b, i + j ≤ 32 → (bt (crun p j i b) q = true ↔ bt b q = true ∨ (i ≤ q ∧ q < i + j ∧ p q)) := by
  intro j
  induction j with
  | zero => intro i b _; exact ⟨Or.inl, fun h => h.elim id (fun z => absurd z.2.1 (by omega))⟩
  | succ j ih =>
    intro i b hij
    show bt (crun p j (i + 1) (iT (p i) (b ||| ((1 : Int32) <<< (nI i &&& 31))) b)) q = true ↔ _
    rw [ih (i + 1) _ (by omega)]
    by_cases h : p i
    · rw [iT_t h, b_or, shl1_bt (by omega) hq]
      by_cases e : q = i
      · subst e; simp [h]
      · have : decide (q = i) = false := decide_eq_false e
        rw [this, Bool.or_false]
        refine or_congr Iff.rfl ⟨fun z => ⟨by omega, by omega, z.2.2⟩, fun z => ⟨by omega, by omega, z.2.2⟩⟩
    · rw [iT_f h]
      refine or_congr Iff.rfl ⟨fun z => ⟨by omega, by omega, z.2.2⟩, fun z => ⟨?_, by omega, z.2.2⟩⟩
      by_cases e : q = i
      · subst e; exact absurd z.2.2 h
      · omega
end WORDS
