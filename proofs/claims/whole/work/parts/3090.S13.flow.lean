section FLOWS
section
variable {n : Nat} {c : Nat → Nat → Int64}
/-- which instructions may follow i -/
def sucS (n : Nat) (c : Nat → Nat → Int64) (i j : Nat) : Prop := i < n ∧ j < n ∧ ((0 < leadN (cn (c i) 0) ∧ j = ldV (c i)) ∨ (cn (c i) 0 ≠ 59 ∧ cn (c i) 0 ≠ 65 ∧ cn (c i) 0 ≠ 66 ∧ cn (c i) 0 ≠ 67 ∧ j = i + 1) ∨ (cn (c i) 0 = 66 ∧ ∃ k, k < n ∧ cn (c k) 0 = 65 ∧ j = k + 1))
/-- facts: 2048: reached; v * 256 + k * 32 + b: register v may have kind k (7: NONE) and length b + 1 -/
def setF (c : Nat → Nat → Int64) (i : Nat) : Nat := cn (c i) 1 * 256 + cn (c i) 2 * 32 + (cn (c i) 3 - 1)
/-- fact f there, from fact g here -/
def pasS (c : Nat → Nat → Int64) (i g f : Nat) : Prop := (g = 2048 ∧ f = 2048) ∨ (g = 2048 ∧ cn (c i) 0 = 0 ∧ f = setF c i) ∨ (g < 2048 ∧ f = g ∧ ¬ (cn (c i) 0 = 0 ∧ g / 256 = cn (c i) 1))
def FaD (n : Nat) (c : Nat → Nat → Int64) : Nat → Nat → Nat → Prop
  | 0, i, f => 0 < n ∧ i = 0 ∧ (f = 2048 ∨ ∃ v, v < 8 ∧ f = v * 256 + 224)
  | d + 1, j, f => FaD n c d j f ∨ ∃ i g, FaD n c d i g ∧ sucS n c i j ∧ pasS c i g f
theorem FaD.up {d e i f : Nat} (h : FaD n c d i f) (hde : d ≤ e) : FaD n c e i f := by
  induction hde with
  | refl => exact h
  | step _ ih => exact Or.inl ih
def Fa (n : Nat) (c : Nat → Nat → Int64) (i f : Nat) : Prop := ∃ d, FaD n c d i f
theorem FaD.fa {d i f : Nat} (h : FaD n c d i f) : Fa n c i f := ⟨d, h⟩
theorem Fa.r0 (h : 0 < n) : Fa n c 0 2048 := ⟨0, h, rfl, Or.inl rfl⟩
theorem Fa.w0 {v : Nat} (h : 0 < n) (hv : v < 8) : Fa n c 0 (v * 256 + 224) := ⟨0, h, rfl, Or.inr ⟨v, hv, rfl⟩⟩
theorem Fa.st {i j g f : Nat} (h : Fa n c i g) (h2 : sucS n c i j) (h3 : pasS c i g f) : Fa n c j f := by
  obtain ⟨d, hd⟩ := h
  exact ⟨d + 1, Or.inr ⟨i, g, hd, h2, h3⟩⟩
theorem Fa.d {i f : Nat} (h : Fa n c i f) : ∃ d, FaD n c d i f := h
theorem FaD.lt : ∀ {d i f : Nat}, FaD n c d i f → i < n := by
  intro d
  induction d with
  | zero => intro i f h; rw [h.2.1]; exact h.1
  | succ d ih =>
    intro i f h
    rcases h with h | ⟨j, g, -, h2, -⟩
    · exact ih h
    · exact h2.2.1
theorem Fa.lt {i f : Nat} (h : Fa n c i f) : i < n := by
  obtain ⟨d, hd⟩ := h
  exact hd.lt
noncomputable def pB' (P : Nat → Prop) (i : Nat) : Bool := @decide (P i) (Classical.propDecidable _)
theorem pB_i {P : Nat → Prop} {i : Nat} : pB' P i = true ↔ P i := by
  unfold pB'
  exact @decide_eq_true_iff _ (Classical.propDecidable _)
theorem ct_lt {p q : Nat → Bool} : ∀ m, (∀ i, i < m → p i = true → q i = true) → (∃ i, i < m ∧ q i = true ∧ p i = false) → fb_ct p m + 1 ≤ fb_ct q m := by
  have le : ∀ m, (∀ i, i < m → p i = true → q i = true) → fb_ct p m ≤ fb_ct q m := by
    intro m
    induction m with
    | zero => intro _; exact Nat.le_refl _
    | succ m ih =>
      intro h
      have := ih (fun i hi => h i (by omega))
      rw [fb_ct_succ, fb_ct_succ]
      cases hp : p m with
      | true => rw [h m (by omega) hp]; simp; omega
      | false => simp; omega
  intro m
  induction m with
  | zero => intro _ ⟨i, hi, _⟩; omega
  | succ m ih =>
    intro h ⟨i, hi, h1, h2⟩
    rw [fb_ct_succ, fb_ct_succ]
    by_cases w : i = m
    · subst w
      have := le i (fun k hk => h k (by omega))
      rw [h1, h2]; simp; omega
    · have := ih (fun k hk => h k (by omega)) ⟨i, by omega, h1, h2⟩
      cases hp : p m with
      | true => rw [h m (by omega) hp]; simp; omega
      | false => simp; omega
theorem stab {m : Nat} {a : Nat → Nat → Prop} (hm : ∀ d i, a d i → a (d + 1) i) (hs : ∀ d, (∀ i, i < m → a (d + 1) i → a d i) → ∀ i, i < m → a (d + 2) i → a (d + 1) i) (h0 : ∃ i, i < m ∧ a 0 i) : ∀ d i, i < m → a d i → a (m - 1) i := by
  have up : ∀ d e i, d ≤ e → a d i → a e i := by
    intro d e i h
    induction h with
    | refl => exact id
    | step _ ih => exact fun z => hm _ _ (ih z)
  have grow : ∀ d, (∃ e, e < d ∧ ∀ i, i < m → a (e + 1) i → a e i) ∨ d + 1 ≤ fb_ct (pB' (a d)) m := by
    intro d
    induction d with
    | zero =>
      refine Or.inr ?_
      obtain ⟨i, h1, h2⟩ := h0
      have := ct_lt (p := fun _ => false) (q := pB' (a 0)) m (fun _ _ z => absurd z (by decide)) ⟨i, h1, pB_i.mpr h2, rfl⟩
      omega
    | succ d ih =>
      rcases ih with ⟨e, e1, e2⟩ | h
      · exact Or.inl ⟨e, by omega, e2⟩
      · by_cases z : ∀ i, i < m → a (d + 1) i → a d i
        · exact Or.inl ⟨d, by omega, z⟩
        · refine Or.inr ?_
          obtain ⟨i, hi⟩ := Classical.not_forall.mp z
          obtain ⟨h1, hi⟩ := Classical.not_imp.mp hi
          obtain ⟨h2, h3⟩ := Classical.not_imp.mp hi
          have := ct_lt (p := pB' (a d)) (q := pB' (a (d + 1))) m (fun k _ y => pB_i.mpr (hm _ _ (pB_i.mp y))) ⟨i, h1, pB_i.mpr h2, by
            cases q : pB' (a d) i with
            | true => exact absurd (pB_i.mp q) h3
            | false => rfl⟩
          omega
  obtain ⟨e, e1, e2⟩ : ∃ e, e < m ∧ ∀ i, i < m → a (e + 1) i → a e i := by
    rcases grow m with h | h
    · exact h
    · have := fb_ct_le (pB' (a m)) m
      omega
  have st : ∀ k, (∀ i, i < m → a (e + k + 1) i → a (e + k) i) := by
    intro k
    induction k with
    | zero => exact e2
    | succ k ih => exact hs (e + k) ih
  have fin : ∀ k i, i < m → a (e + k) i → a e i := by
    intro k
    induction k with
    | zero => intro i _ h; exact h
    | succ k ih => intro i hi h; exact ih i hi (st k i hi h)
  intro d i hi h
  rcases Nat.le_total d e with w | w
  · exact up d (m - 1) i (by omega) h
  · have := fin (d - e) i hi (by rw [show e + (d - e) = d by omega]; exact h)
    exact up e (m - 1) i (by omega) this
theorem pas_r {i g : Nat} (h : pasS c i g 2048) (hset : setF c i < 2048) : g = 2048 := by
  rcases h with ⟨h, -⟩ | ⟨h, -, -⟩ | ⟨h1, h2, -⟩
  · exact h
  · exact h
  · omega
/-- 200 steps are enough -/
theorem Fa.bound {i f : Nat} (hn : n ≤ 100) (hset : ∀ i, i < n → cn (c i) 0 = 0 → setF c i < 2048) (h : Fa n c i f) : FaD n c 200 i f := by
  obtain ⟨d, hd⟩ := h.d
  have hin := h.lt
  have hpos : 0 < n := by omega
  have r : ∀ d i, i < n → FaD n c d i 2048 → FaD n c (n - 1) i 2048 := by
    refine stab (a := fun d i => FaD n c d i 2048) (fun d i h => Or.inl h) (fun d hs i hi h => ?_) ⟨0, hpos, hpos, rfl, Or.inl rfl⟩
    rcases h with h | ⟨j, g, h1, h2, h3⟩
    · exact h
    · have hg : g = 2048 := by
        rcases h3 with ⟨h, -⟩ | ⟨h, -, -⟩ | ⟨y1, y2, -⟩
        · exact h
        · exact h
        · omega
      subst hg
      exact Or.inr ⟨j, 2048, hs j h2.1 h1, h2, h3⟩
  by_cases hf : f = 2048
  · subst hf
    exact (r d i hin hd).up (by omega)
  · have inj : ∀ e j k, FaD n c e k 2048 → sucS n c k j → cn (c k) 0 = 0 → f = setF c k → FaD n c n j f := fun e j k h1 h2 h3 h4 => by
      have := r e k h2.1 h1
      have h5 : FaD n c (n - 1 + 1) j f := Or.inr ⟨k, 2048, this, h2, Or.inr (Or.inl ⟨rfl, h3, h4⟩)⟩
      exact h5.up (by omega)
    by_cases z : ∃ j, j < n ∧ FaD n c n j f
    · have := stab (m := n) (a := fun d j => FaD n c (n + d) j f) (fun d j h => Or.inl h) (fun e hs j hj h => ?_) z d i hin (hd.up (by omega))
      · exact this.up (by omega)
      · have h : FaD n c (n + (e + 1)) j f ∨ ∃ i g, FaD n c (n + (e + 1)) i g ∧ sucS n c i j ∧ pasS c i g f := h
        rcases h with h | ⟨k, g, h1, h2, h3⟩
        · exact h
        · rcases h3 with ⟨-, y⟩ | ⟨y1, y2, y3⟩ | ⟨y1, y2, y3⟩
          · exact absurd y hf
          · subst y1
            exact (inj _ j k h1 h2 y2 y3).up (by omega)
          · subst y2
            exact Or.inr ⟨k, f, hs k h2.1 h1, h2, Or.inr (Or.inr ⟨y1, rfl, y3⟩)⟩
    · exfalso
      have : ∀ e j, j < n → ¬ FaD n c (n + e) j f := by
        intro e
        induction e with
        | zero => intro j hj h; exact z ⟨j, hj, h⟩
        | succ e ih =>
          intro j hj h
          have h : FaD n c (n + e) j f ∨ ∃ i g, FaD n c (n + e) i g ∧ sucS n c i j ∧ pasS c i g f := h
          rcases h with h | ⟨k, g, h1, h2, h3⟩
          · exact ih j hj h
          · rcases h3 with ⟨-, y⟩ | ⟨y1, y2, y3⟩ | ⟨y1, y2, y3⟩
            · exact hf y
            · subst y1
              exact z ⟨j, hj, inj _ j k h1 h2 y2 y3⟩
            · subst y2
              exact ih k h2.1 h1
      exact this d i hin (hd.up (by omega))
end
/-- the registers' letters -/
def isRL (L : Nat) : Prop := 97 ≤ L ∧ L ≤ 122
def isSh (L : Nat) : Prop := L = 107 ∨ L = 119 ∨ L = 114
def kdL (L k : Nat) : Prop := if L = 104 ∨ L = 119 then k < 5 else if L = 114 then k = 5 ∨ k = 6 else if L = 105 then k = 3 else k < 7
/-- kind k fits register x wherever the instruction names it, if those that share a kind share s -/
def okK (c : Nat → Int64) (s x k : Nat) : Prop := ∀ q, q < (opL (cn c 0)).length → isRL (letN (cn c 0) q) → cn c (q + 1) = x → kdL (letN (cn c 0) q) k ∧ (isSh (letN (cn c 0) q) → k = s)
/-- is there a way for all registers that makes i right -/
def goodS (n : Nat) (c : Nat → Nat → Int64) (i : Nat) : Prop := ∃ s b, s < 7 ∧ b < 32 ∧ ∀ q, q < (opL (cn (c i) 0)).length →
  (isRL (letN (cn (c i) 0) q) ∧ cn (c i) 0 ≠ 0 → ∃ k, k < 7 ∧ okK (c i) s (cn (c i) (q + 1)) k ∧ Fa n c i (cn (c i) (q + 1) * 256 + k * 32 + b)) ∧ (letN (cn (c i) 0) q = 80 → cn (c i) (q + 1) ≤ b)
noncomputable def chkF (n : Nat) (c : Nat → Nat → Int64) : Nat → Nat → Nat
  | 0, _ => 0
  | f + 1, i => iT (Fa n c i 2048 ∧ ¬ goodS n c i) (i + 1) (chkF n c f (i + 1))
noncomputable def sCheck (s : SG) : Int32 := nI (chkF (gPr s).1 (gPr s).2 (gPr s).1 0)
noncomputable def wayN (n : Nat) (c : Nat → Nat → Int64) (i v : Nat) : Nat := fb_ct (fun q => pB' (fun q => Fa n c i (v * 256 + q)) q) 256
noncomputable def sFlow (i w : Int32) (s : SG) : Int32 :=
  iT (inI i (gPr s).1 ∧ inI w 10) (iT (Fa (gPr s).1 (gPr s).2 (iv i) 2048) (if w = 0 then 1 else if w = 1 then pI (goodS (gPr s).1 (gPr s).2 (iv i)) else nI (wayN (gPr s).1 (gPr s).2 (iv i) (iv w - 2))) 0) (-1)
end FLOWS
