section SLIMS
/-- where a row leads -/
def ldV (r : Nat → Int64) : Nat := cn r (leadN (cn r 0))
def ledTo (n : Nat) (c : Nat → Nat → Int64) (p : Nat) : Prop := ∃ j, j < n ∧ 0 < leadN (cn (c j) 0) ∧ ldV (c j) = p
/-- how many instructions from i on can go -/
noncomputable def needN (n : Nat) (c : Nat → Nat → Int64) (i : Nat) : Nat :=
  if cn (c i) 0 = 59 then (if ldV (c i) = i + 1 then 1 else 0)
  else iT (i + 1 < n ∧ cn (c (i + 1)) 0 = cn (c i) 0 ∧ c i 1 = c (i + 1) 1 ∧ ¬ ledTo n c (i + 1))
    (if cn (c i) 0 = 0 ∨ cn (c i) 0 = 53 ∨ cn (c i) 0 = 50 then 1 else if cn (c i) 0 = 49 ∧ c i 1 = c i 2 ∧ c (i + 1) 1 = c (i + 1) 2 then 2 else 0) 0
/-- a row whose lead is moved -/
def adjR (i m : Nat) (r : Nat → Int64) : Nat → Int64 := fun w => if 0 < leadN (cn r 0) ∧ w = leadN (cn r 0) ∧ i < ldV r then lN (max i (ldV r - m)) else r w
def remC (c : Nat → Nat → Int64) (i m : Nat) : Nat → Nat → Int64 := fun j => adjR i m (if j < i then c j else c (j + m))
noncomputable def slimF : Nat → Nat → (Nat → Nat → Int64) → Nat → Nat × (Nat → Nat → Int64)
  | 0, n, c, _ => (n, c)
  | f + 1, n, c, i => if i < n then (if needN n c i = 0 then slimF f n c (i + 1) else slimF f (n - needN n c i) (remC c i (needN n c i)) 0) else (n, c)
theorem need_le {n : Nat} {c : Nat → Nat → Int64} {i : Nat} (hi : i < n) : needN n c i ≤ 2 ∧ i + needN n c i ≤ n := by
  unfold needN
  split
  · split
    · exact ⟨by decide, by omega⟩
    · exact ⟨by decide, by omega⟩
  · by_cases h : i + 1 < n ∧ cn (c (i + 1)) 0 = cn (c i) 0 ∧ c i 1 = c (i + 1) 1 ∧ ¬ ledTo n c (i + 1)
    · rw [iT_t h]
      have := h.1
      split
      · exact ⟨by decide, by omega⟩
      · split
        · exact ⟨by decide, by omega⟩
        · exact ⟨by decide, by omega⟩
    · rw [iT_f h]; exact ⟨by decide, by omega⟩
theorem leadN_le {o : Nat} : leadN o ≤ 3 := by unfold leadN; split; decide; split; decide; split <;> decide
theorem lead_let : ∀ o ∈ List.range 68, (0 < leadN o → leadN o - 1 < (opL o).length ∧ letN o (leadN o - 1) = 76) ∧ ∀ k ∈ List.range 4, k < (opL o).length → letN o k = 76 → leadN o = k + 1 := by decide +kernel
theorem VI.ld {n : Nat} {r : Nat → Int64} (h : VI n r) (hl : 0 < leadN (cn r 0)) (hn : n < 2 ^ 31) : ldV r ≤ n ∧ r (leadN (cn r 0)) = lN (ldV r) := by
  obtain ⟨o1, o2⟩ := h.o
  obtain ⟨a, b, -⟩ := h.at rfl
  have hh := (lead_let _ (List.mem_range.mpr o1)).1 hl
  obtain ⟨v, v1, v2⟩ := (b _ hh.1).2.2.2.2.2.2 hh.2
  rw [show leadN (cn r 0) - 1 + 1 = leadN (cn r 0) by omega] at v2
  have e : ldV r = v := cn_lN v2 (by omega)
  rw [e]
  exact ⟨v1, v2⟩
theorem adj_0 {i m : Nat} {r : Nat → Int64} : adjR i m r 0 = r 0 ∧ cn (adjR i m r) 0 = cn r 0 := by
  have e : adjR i m r 0 = r 0 := if_neg (fun z => by omega)
  exact ⟨e, by unfold cn; rw [e]⟩
theorem VI.adj {n i m : Nat} {r : Nat → Int64} (hn : n < 2 ^ 31) (him : i + m ≤ n) (h : VI n r) : VI (n - m) (adjR i m r) := by
  obtain ⟨o1, o2⟩ := h.o
  have hld := fun hl => h.ld hl hn
  obtain ⟨o, p1, p2, p3, p4, p5⟩ := h
  have eo : cn r 0 = o := cn_lN p2 (by omega)
  have ne : ∀ w, ¬ (0 < leadN (cn r 0) ∧ w = leadN (cn r 0) ∧ i < ldV r) → adjR i m r w = r w := fun w z => if_neg z
  have l3 := leadN_le (o := cn r 0)
  refine ⟨o, p1, by rw [adj_0.1]; exact p2, fun k hk => ?_, fun k hk hk4 => ?_, ?_⟩
  · have hk4 : k < 4 := Nat.lt_of_lt_of_le hk (opLen4 p1)
    obtain ⟨q1, q2, q3, q4, q5, q6, q7⟩ := p3 k hk
    have hh := (lead_let _ (List.mem_range.mpr p1)).2 k (List.mem_range.mpr hk4) hk
    by_cases w : letN o k = 76
    · have hl := hh w
      rw [← eo] at hl
      have hld := hld (by omega)
      rw [hl] at hld
      refine ⟨fun z => absurd z (by omega), fun z => absurd z (by omega), fun z => absurd z (by omega), fun z => absurd z (by omega), fun z => absurd z (by omega), fun z => absurd z (by omega), fun _ => ?_⟩
      by_cases y : i < ldV r
      · refine ⟨max i (ldV r - m), by omega, ?_⟩
        exact if_pos ⟨by omega, by omega, y⟩
      · refine ⟨ldV r, by omega, ?_⟩
        rw [ne _ (fun z => y z.2.2)]
        exact hld.2
    · have en : adjR i m r (k + 1) = r (k + 1) := ne _ (fun z => by
        have h1 := (lead_let _ (List.mem_range.mpr o1)).1 z.1
        rw [← z.2.1, eo] at h1
        exact w h1.2)
      rw [en]
      exact ⟨q1, q2, q3, q4, q5, q6, fun z => absurd z w⟩
  · rw [ne _ (fun z => by
      have h1 := (lead_let _ (List.mem_range.mpr o1)).1 z.1
      rw [← z.2.1, eo] at h1
      omega)]
    exact p4 k hk hk4
  · rw [ne 5 (fun z => by omega)]
    exact p5
theorem VI.rem {n i m : Nat} {c : Nat → Nat → Int64} (hn : n < 2 ^ 31) (him : i + m ≤ n) (h : ∀ j, j < n → VI n (c j)) : ∀ j, j < n - m → VI (n - m) (remC c i m j) := by
  intro j hj
  unfold remC
  split
  · exact (h j (by omega)).adj hn him
  · exact (h (j + m) (by omega)).adj hn him
theorem slimF_ok : ∀ (f n : Nat) (c : Nat → Nat → Int64) (i : Nat), n < 2 ^ 31 → (∀ j, j < n → VI n (c j)) → (slimF f n c i).1 ≤ n ∧ ∀ j, j < (slimF f n c i).1 → VI (slimF f n c i).1 ((slimF f n c i).2 j) := by
  intro f
  induction f with
  | zero => intro n c i _ h; exact ⟨Nat.le_refl _, h⟩
  | succ f ih =>
    intro n c i hn h
    unfold slimF
    split
    · rename_i hi
      split
      · exact ih n c (i + 1) hn h
      · have hm := need_le (c := c) hi
        have := ih (n - needN n c i) _ 0 (by omega) (VI.rem hn hm.2 h)
        exact ⟨by omega, this.2⟩
    · exact ⟨Nat.le_refl _, h⟩
/-- more fuel than is wanted -/
theorem slimF_more : ∀ (f g n : Nat) (c : Nat → Nat → Int64) (i : Nat), n * (n + 1) / 2 + (n - i) ≤ f → f ≤ g → slimF g n c i = slimF f n c i := by
  intro f
  induction f with
  | zero =>
    intro g n c i h1 h2
    have : n = 0 := by
      rcases Nat.eq_zero_or_pos n with z | z
      · exact z
      · have := Nat.mul_le_mul_left n (show 2 ≤ n + 1 by omega)
        omega
    subst this
    cases g with
    | zero => rfl
    | succ g => exact if_neg (by omega)
  | succ f ih =>
    intro g n c i h1 h2
    cases g with
    | zero => omega
    | succ g =>
      have e1 : ∀ f, slimF (f + 1) n c i = if i < n then (if needN n c i = 0 then slimF f n c (i + 1) else slimF f (n - needN n c i) (remC c i (needN n c i)) 0) else (n, c) := fun f => rfl
      rw [e1, e1]
      by_cases hi : i < n
      · rw [if_pos hi, if_pos hi]
        by_cases hz : needN n c i = 0
        · rw [if_pos hz, if_pos hz]
          exact ih g n c (i + 1) (by omega) (by omega)
        · rw [if_neg hz, if_neg hz]
          refine ih g _ _ 0 ?_ (by omega)
          have hm := need_le (c := c) hi
          generalize needN n c i = m at hz hm
          obtain ⟨k, rfl⟩ : ∃ k, n = k + 1 := ⟨n - 1, by omega⟩
          have e2 : (k + 1) * (k + 1 + 1) = k * (k + 1) + 2 * (k + 1) := by rw [Nat.mul_comm (k + 1) (k + 1 + 1), show k * (k + 1) + 2 * (k + 1) = (k + 2) * (k + 1) by rw [Nat.add_mul]]
          rw [e2] at h1
          have e3 : (k + 1 - m) * (k + 1 - m + 1) ≤ k * (k + 1) := Nat.mul_le_mul (by omega) (by omega)
          omega
      · rw [if_neg hi, if_neg hi]
noncomputable def slimN (n : Nat) (c : Nat → Nat → Int64) : Nat × (Nat → Nat → Int64) := slimF 10000 n c 0
noncomputable def sSlim (s : SG) : Int32 × SG := (nI ((gPr s).1 - (slimN (gPr s).1 (gPr s).2).1), bgn (wSt (wPr s (slimN (gPr s).1 (gPr s).2) (gSl s || decide ((slimN (gPr s).1 (gPr s).2).1 < (gPr s).1))) noSt))
end SLIMS
