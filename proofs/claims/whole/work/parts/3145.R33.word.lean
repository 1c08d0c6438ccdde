section RWORD
section
variable {M M' : Mem} {K : RT} {t : Nat → Nat} {n : Nat} {x : TK} {st : PS}
/-- the first bytes as one number -/
def pkw (f : Nat → Nat) : Nat → Nat
  | 0 => 0
  | k + 1 => pkw f k * 256 + f k
theorem pkw_inj {f g : Nat → Nat} : ∀ k m, (∀ i, i < k → 0 < f i ∧ f i < 256) → (∀ i, i < m → 0 < g i ∧ g i < 256) → pkw f k = pkw g m → k = m ∧ ∀ i, i < k → f i = g i := by
  intro k
  induction k with
  | zero =>
    intro m hf hg e
    cases m with
    | zero => exact ⟨rfl, fun i hi => absurd hi (Nat.not_lt_zero i)⟩
    | succ m =>
      have e : 0 = pkw g m * 256 + g m := e
      have := hg m (by omega)
      omega
  | succ k ih =>
    intro m hf hg e
    cases m with
    | zero =>
      have e : pkw f k * 256 + f k = 0 := e
      have := hf k (by omega)
      omega
    | succ m =>
      have e : pkw f k * 256 + f k = pkw g m * 256 + g m := e
      have h1 := hf k (by omega)
      have h2 := hg m (by omega)
      obtain ⟨e1, e2⟩ := ih m (fun i hi => hf i (by omega)) (fun i hi => hg i (by omega)) (by omega)
      subst e1
      refine ⟨rfl, fun i hi => ?_⟩
      by_cases w : i = k
      · subst w; omega
      · exact e2 i (by omega)
theorem pkw_cong {f g : Nat → Nat} : ∀ k, (∀ i, i < k → f i = g i) → pkw f k = pkw g k := by
  intro k
  induction k with
  | zero => intro _; rfl
  | succ k ih =>
    intro h
    show pkw f k * 256 + f k = pkw g k * 256 + g k
    rw [ih (fun i hi => h i (by omega)), h k (by omega)]
theorem pkw_lt {f : Nat → Nat} : ∀ k, (∀ i, i < k → f i < 256) → pkw f k < 256 ^ k := by
  intro k
  induction k with
  | zero => intro _; exact Nat.one_pos
  | succ k ih =>
    intro h
    have h1 := ih (fun i hi => h i (by omega))
    have h2 := h k (by omega)
    have e : 256 ^ (k + 1) = 256 ^ k * 256 := Nat.pow_succ 256 k
    show pkw f k * 256 + f k < _
    omega
theorem lN_sh8 {v b : Nat} (hv : v < 2 ^ 55) (hb : b < 256) : (lN v <<< ((8 : Int32).toInt64 &&& 63)) ||| (nI b).toInt64 = lN (v * 256 + b) := by
  rw [nI_toL (by omega)]
  apply Int64.toBitVec_inj.mp
  apply BitVec.eq_of_toNat_eq
  rw [Int64.toBitVec_or, BitVec.toNat_or]
  have e1 : (lN v <<< ((8 : Int32).toInt64 &&& 63)).toBitVec.toNat = v * 256 := by
    have : (lN v <<< ((8 : Int32).toInt64 &&& 63)).toBitVec = (lN v).toBitVec <<< (8 : Nat) := rfl
    rw [this, BitVec.toNat_shiftLeft]
    show (v % 2 ^ 64) <<< 8 % 2 ^ 64 = v * 256
    rw [Nat.shiftLeft_eq]
    omega
  have e2 : (lN b).toBitVec.toNat = b := by show b % 2 ^ 64 = b; omega
  have e3 : (lN (v * 256 + b)).toBitVec.toNat = v * 256 + b := by show (v * 256 + b) % 2 ^ 64 = _; omega
  rw [e1, e2, e3]
  have := Nat.shiftLeft_add_eq_or_of_lt (show b < 2 ^ 8 by omega) v
  rw [Nat.shiftLeft_eq] at this
  exact this.symm
theorem wd_tab : ∀ o ∈ List.range 68, wdR.getD o 0 = pkw (fun i => (wdL o).getD i 0) (wdL o).length ∧ (wdL o).length ≤ 7 ∧ 0 < (wdL o).length ∧ (∀ i ∈ List.range (wdL o).length, 0 < (wdL o).getD i 0 ∧ (wdL o).getD i 0 < 256) := by decide +kernel
/-- the bytes of a word -/
theorem wd_byte {i : Nat} (hx : TkOK t n x) (hk : kT x = 119) (hi : i < eT x - sT x) : sT x + i < n ∧ 48 ≤ t (sT x + i) ∧ t (sT x + i) ≤ 122 := by
  obtain ⟨w1, w2, w3⟩ := hx.2.2.1 hk
  have := scF_in t n isWd (p := sT x) (i := sT x + i) (by omega) (by rw [← w2]; omega)
  refine ⟨this.1, ?_⟩
  have h2 := this.2
  unfold isWd isLet isDig at h2
  rw [Bool.or_eq_true, decide_eq_true_iff, decide_eq_true_iff] at h2
  omega
theorem kT_srt (hx : TkOK t n x) : (srt (kT x) = 0 ↔ kT x = 119) ∧ (srt (kT x) = 1 ↔ kT x = 110) ∧ (srt (kT x) = 2 ↔ kT x = 44 ∨ kT x = 58 ∨ kT x = 63) ∧ (srt (kT x) = 3 ↔ kT x = 101) ∧ srt (kT x) < 5 := by
  unfold srt
  split
  · omega
  · split
    · omega
    · split
      · omega
      · split <;> omega
theorem s_word (hx : TkOK t n x) (hr : TkX x M) : gI M 605 6 = 0 ↔ kT x = 119 := by
  rw [hr.1]
  have := kT_srt hx
  exact (nI_eq (b := 0) (by omega) (by decide)).trans this.1
theorem s_num (hx : TkOK t n x) (hr : TkX x M) : gI M 605 6 = 1 ↔ kT x = 110 := by
  rw [hr.1]
  have := kT_srt hx
  exact (nI_eq (b := 1) (by omega) (by decide)).trans this.2.1
theorem s_end (hx : TkOK t n x) (hr : TkX x M) : gI M 605 6 = 3 ↔ kT x = 101 := by
  rw [hr.1]
  have := kT_srt hx
  exact (nI_eq (b := 3) (by omega) (by decide)).trans this.2.2.2.1
theorem c_instr13 (hW : Wf M) (hK : RK M) (hT : RdR M t n) (hx : TkOK t n x) (hr : TkX x M) (hk : kT x = 119) (h : K (some (.int (if woN t x < 68 then nI (woN t x) else -1))) M) : sp_X13_instruction [.ref 605] M K := by
  have hn := hT.1
  have hen := hx.2.1
  have hse := hx.1
  have h7 : gI M 605 7 = nI (sT x) := hr.2.1
  have h8 : gI M 605 8 = nI (eT x) := hr.2.2.1 (by omega)
  refine wX13_instruction hW (fun {G} hc => ?_)
  -- the words are looked through
  have look : ∀ v : Nat, v < 2 ^ 63 → (∀ o, o < 68 → (wdR.getD o 0 = v ↔ wdM t x (wdL o) = true)) → G 50 [some (.ref 605), some (.long (lN v)), none, some (.int 0)] [] M := by
    intro v hv hm
    have loop : ∀ j o : Nat, o + j = 68 → woF t x j o = woN t x → G 50 [some (.ref 605), some (.long (lN v)), none, some (.int (nI o))] [] M := by
      intro j
      induction j with
      | zero =>
        intro o ho e
        have : o = 68 := by omega
        subst this
        have e : 68 = woN t x := e
        rw [← e, if_neg (by decide)] at h
        exact eX13_instruction_50 hc hW ⟨fun _ => h, fun q => absurd (by decide) q⟩
      | succ j ih =>
        intro o ho e
        have e1 : woF t x (j + 1) o = if wdM t x (wdL o) = true then o else woF t x j (o + 1) := rfl
        rw [e1] at e
        have hw : wdR.getD o 0 < 2 ^ 63 := by
          obtain ⟨w1, w2, w3, w4⟩ := wd_tab o (List.mem_range.mpr (by omega))
          rw [w1]
          have := pkw_lt (f := fun i => (wdL o).getD i 0) (wdL o).length (fun i hi => (w4 i (List.mem_range.mpr hi)).2)
          exact Nat.lt_of_lt_of_le this (Nat.le_trans (Nat.pow_le_pow_right (by decide) w2) (by decide))
        refine eX13_instruction_50 hc hW ⟨fun q => absurd ((nI_leI (a := 68) (by decide) (by omega)).mp q) (by omega), fun _ => ⟨vpN (by omega) (by decide), ?_⟩⟩
        rw [nI_clamp (by omega), (hK o (by omega)).1, l6_eq hw hv, hm o (by omega), nI_1]
        refine ⟨fun z => ?_, fun z => ?_⟩
        · rw [if_neg z] at e
          exact ih (o + 1) (by omega) e
        · rw [if_pos z] at e
          rw [← e, if_pos (by omega)] at h
          exact h
    exact loop 68 0 rfl rfl
  by_cases hs : eT x - sT x < 8
  · have hb : ∀ i, i < eT x - sT x → 0 < t (sT x + i) ∧ t (sT x + i) < 256 := fun i hi => by have := wd_byte hx hk hi; omega
    have full := look (pkw (fun i => t (sT x + i)) (eT x - sT x)) (by
      have := pkw_lt (f := fun i => t (sT x + i)) (eT x - sT x) (fun i hi => (hb i hi).2)
      exact Nat.lt_of_lt_of_le this (Nat.le_trans (Nat.pow_le_pow_right (by decide) (show eT x - sT x ≤ 7 by omega)) (by decide))) (fun o ho => by
      obtain ⟨w1, w2, w3, w4⟩ := wd_tab o (List.mem_range.mpr ho)
      rw [w1, wdM_i]
      constructor
      · intro z
        obtain ⟨e1, e2⟩ := pkw_inj _ _ (fun i hi => w4 i (List.mem_range.mpr hi)) hb z
        exact ⟨e1, fun i hi => (e2 i hi).symm⟩
      · intro ⟨z1, z2⟩
        rw [pkw_cong (g := fun i => t (sT x + i)) _ (fun i hi => (z2 i hi).symm), z1])
    have loop : ∀ j k : Nat, k + j = eT x - sT x → G 7 [some (.ref 605), some (.long (lN (pkw (fun i => t (sT x + i)) k))), none, some (.int (nI (sT x + k)))] [] M := by
      intro j
      induction j with
      | zero =>
        intro k hk'
        have hk' : k = eT x - sT x := by omega
        subst hk'
        refine eX13_instruction_7 hc hW ⟨fun _ => full, fun z => absurd (by rw [h8]; exact nI_le (by omega) (by omega)) z⟩
      | succ j ih =>
        intro k hk'
        obtain ⟨y1, y2, y3⟩ := wd_byte hx hk (show k < eT x - sT x by omega)
        refine eX13_instruction_7 hc hW ⟨fun z => ?_, fun _ => ⟨fun z => ?_, fun _ => ⟨vpN (by omega) (by decide), fun y1' hy => ?_⟩⟩⟩
        · rw [h8] at z
          have := (nI_leI (by omega) (by omega)).mp z
          omega
        · rw [h8, h7, pk_sub (by omega)] at z
          have := (nI_leI (a := 8) (by omega) (by omega)).mp z
          omega
        · have hp : pkw (fun i => t (sT x + i)) k < 2 ^ 55 := by
            have := pkw_lt (f := fun i => t (sT x + i)) k (fun i hi => (hb i (by omega)).2)
            exact Nat.lt_of_lt_of_le this (Nat.le_trans (Nat.pow_le_pow_right (by decide) (show k ≤ 6 by omega)) (by decide))
          rw [nI_clamp (by omega), (hT.2.2 _ y1).1, sg_lo (by omega), lN_sh8 hp (by omega)] at hy
          rw [hy, nI_1]
          exact ih (k + 1) (by omega)
    have st := loop (eT x - sT x) 0 (Nat.zero_add _)
    rw [h7]
    exact st
  · have full := look 0 (by decide) (fun o ho => by
      obtain ⟨w1, w2, w3, w4⟩ := wd_tab o (List.mem_range.mpr ho)
      rw [wdM_i, w1]
      constructor
      · intro z
        have := pkw_inj (g := fun _ => 0) _ 0 (fun i hi => w4 i (List.mem_range.mpr hi)) (fun i hi => absurd hi (Nat.not_lt_zero i)) z
        omega
      · intro z; omega)
    refine eX13_instruction_7 hc hW ?_
    rw [h8, h7, pk_sub hse, show (8 : Int32) = nI 8 from rfl, nI_leI (by omega) (by omega), nI_leI (by omega) (by omega)]
    exact ⟨fun z => by omega, fun _ => ⟨fun _ => full, fun z => absurd (by omega) z⟩⟩
theorem c_same13 {a b : Nat} (hW : Wf M) (hT : RdR M t n) (ha : a < n) (hb : b < n) (h : K (some (.int (pI (likW t n a b = true)))) M) : sp_X13_isSame [.ref 605, .int (nI a), .int (nI (scF t n isWd a)), .int (nI b), .int (nI (scF t n isWd b))] M K := by
  have hn := hT.1
  rw [likW_i] at h
  have ga := scF_ge t n isWd a
  have gb := scF_ge t n isWd b
  have la := scF_le t n isWd (p := a) (by omega)
  have lb := scF_le t n isWd (p := b) (by omega)
  have no : ¬ (scF t n isWd a - a = scF t n isWd b - b ∧ ∀ i, i < scF t n isWd a - a → t (a + i) = t (b + i)) → K (some (.int (0 : Int32))) M := fun z => by rw [pI_f z] at h; exact h
  refine wX13_isSame hW (fun {G} hc => ?_)
  rw [pk_sub ga, pk_sub gb, nI_eq (by omega) (by omega)]
  have zero : ¬ (scF t n isWd a - a = scF t n isWd b - b ∧ ∀ i, i < scF t n isWd a - a → t (a + i) = t (b + i)) → ∀ (k : Nat) (o4 : Option Value), k ≤ 4000 → G 20 [some (.ref 605), some (.int (nI a)), some (.int (nI (scF t n isWd a))), some (.int (nI b)), o4, some (.int 0), some (.int (nI k))] [] M := fun z k o4 _ =>
    eX13_isSame_20 hc hW ⟨fun _ => ⟨Or.inl rfl, no z⟩, fun _ => ⟨fun _ => ⟨Or.inl rfl, no z⟩, fun y => absurd rfl y⟩⟩
  refine ⟨fun z => zero (fun y => z y.1) 0 _ (by decide), fun z => ?_⟩
  have loop : ∀ j k : Nat, k + j = scF t n isWd a - a → (∀ i, i < k → t (a + i) = t (b + i)) → ∀ o4, G 20 [some (.ref 605), some (.int (nI a)), some (.int (nI (scF t n isWd a))), some (.int (nI b)), o4, some (.int 1), some (.int (nI k))] [] M := by
    intro j
    induction j with
    | zero =>
      intro k hk he o4
      refine eX13_isSame_20 hc hW ?_
      rw [pk_sub ga, nI_leI (by omega) (by omega)]
      rw [pI_t ⟨z, fun i hi => he i (by omega)⟩] at h
      exact ⟨fun _ => ⟨Or.inr rfl, h⟩, fun y => absurd (by omega) y⟩
    | succ j ih =>
      intro k hk he o4
      have w1 := scF_in t n isWd (p := a) (i := a + k) (by omega) (by omega)
      have w2 := scF_in t n isWd (p := b) (i := b + k) (by omega) (by omega)
      have lo : ∀ i, isWd (t i) = true → t i < 128 := fun i h2 => by
        unfold isWd isLet isDig at h2
        rw [Bool.or_eq_true, decide_eq_true_iff, decide_eq_true_iff] at h2
        omega
      have l1 := lo _ w1.2
      have l2 := lo _ w2.2
      refine eX13_isSame_20 hc hW ?_
      rw [pk_sub ga, nI_leI (by omega) (by omega), nI_add, nI_add, nI_clamp (by omega), nI_clamp (by omega), (hT.2.2 _ w1.1).1, (hT.2.2 _ w2.1).1, sg_lo l1, sg_lo l2, nI_eq (by omega) (by omega), nI_1]
      refine ⟨fun y => absurd y (by omega), fun _ => ⟨fun y => absurd y (by decide), fun _ => ⟨vpN (by omega) (by decide), vpN (by omega) (by decide), fun y => zero (fun w => y (w.2 k (by omega))) (k + 1) _ (by omega), fun y => ih (k + 1) (by omega) (fun i hi => ?_) _⟩⟩⟩
      by_cases e : i = k
      · subst e; exact y
      · exact he i (by omega)
  exact loop _ 0 (Nat.zero_add _) (fun i hi => absurd hi (Nat.not_lt_zero i)) _
/-- the labels so far -/
def LbR (M : Mem) (t : Nat → Nat) (n : Nat) (st : PS) : Prop := gI M 605 15 = nI (pB st) ∧ pB st ≤ 40 ∧ ∀ l, l < pB st → gI M 612 l = nI (pF st l) ∧ gI M 613 l = nI (scF t n isWd (pF st l)) ∧ gI M 614 l = nI (pA st l) ∧ pF st l < n
theorem lkR_lt {lf : Nat → Nat} {p : Nat} : ∀ f l q, lkF t n lf p f l = some q → q < l + f := by
  intro f
  induction f with
  | zero => intro l q h; cases h
  | succ f ih =>
    intro l q h
    unfold lkF at h
    split at h
    · cases h; omega
    · have := ih _ _ h; omega
theorem c_label13 {p : Nat} (hW : Wf M) (hT : RdR M t n) (hL : LbR M t n st) (hp : p < n) (h : K (some (.int (match lkS t n (pB st) (pF st) p with | none => (-1 : Int32) | some l => nI l))) M) : sp_X13_label [.ref 605, .int (nI p), .int (nI (scF t n isWd p))] M K := by
  refine wX13_label hW (fun {G} hc => ?_)
  have hn := hT.1
  obtain ⟨b1, b2, b3⟩ := hL
  have loop : ∀ j l : Nat, l + j = pB st → lkF t n (pF st) p j l = lkS t n (pB st) (pF st) p → G 2 [some (.ref 605), some (.int (nI p)), some (.int (nI (scF t n isWd p))), some (.int (nI l))] [] M := by
    intro j
    induction j with
    | zero =>
      intro l hl e
      rw [← e] at h
      refine eX13_label_2 hc hW ?_
      rw [b1, nI_leI (by omega) (by omega)]
      exact ⟨fun _ => h, fun z => absurd (by omega) z⟩
    | succ j ih =>
      intro l hl e
      obtain ⟨c1, c2, c3, c4⟩ := b3 l (by omega)
      refine eX13_label_2 hc hW ?_
      rw [b1, nI_leI (by omega) (by omega), nI_clamp (by omega), c1, c2]
      refine ⟨fun z => absurd z (by omega), fun _ => ⟨vpN (by omega) (by decide), vpN (by omega) (by decide), c_same13 hW hT c4 hp (rX13_label_10_11 hc hW ?_)⟩⟩
      have e1 : lkF t n (pF st) p (j + 1) l = if likW t n (pF st l) p = true then some l else lkF t n (pF st) p j (l + 1) := rfl
      rw [e1] at e
      by_cases z : likW t n (pF st l) p = true
      · rw [if_pos z] at e
        rw [← e] at h
        rw [pI_t z]
        exact ⟨fun y => absurd y (by decide), fun _ => h⟩
      · rw [if_neg z] at e
        rw [pI_f z, nI_1]
        exact ⟨fun _ => ih (l + 1) (by omega) e, fun y => absurd rfl y⟩
  exact loop _ 0 (Nat.zero_add _) rfl
end
end RWORD
