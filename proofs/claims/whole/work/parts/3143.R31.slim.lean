section RSLIM
section
variable {M M' : Mem} {K : RT} {s : SG} {Fr : Mem → Nat → (Nat → Nat → Int64) → Prop} {n : Nat} {c : Nat → Nat → Int64}
/-- the program, as slim sees it -/
def PQ (M : Mem) (n : Nat) (c : Nat → Nat → Int64) : Prop := RPr M 618 619 620 n c ∧ n ≤ 100 ∧ gI M 605 23 = nI n ∧ ∀ j, j < n → VI n (c j)
theorem lead_tab : ∀ o ∈ List.range 68, f_X13_leads (nI o) = (if 0 < leadN o then nI (leadN o - 1) else -1) := by decide +kernel
theorem opG {i k : Nat} (hP : PQ M n c) (hi : i < n) (hk : k < 4) : q_X13_operandOf (nI i) (nI k) M ∧ f_X13_operandOf (nI i) (nI k) M = (c i (k + 1)).toInt32 := by
  have n100 := hP.2.1
  unfold q_X13_operandOf f_X13_operandOf
  have e : (4 : Int32) * nI i + nI k = nI (4 * i + k) := by rw [show (4 : Int32) = nI 4 from rfl, pk_mul, nI_add]
  rw [e, nI_clamp (by omega), (hP.1 i hi).2.1 k hk]
  exact ⟨vpN (by omega) (by decide), rfl⟩
theorem opL_ {i : Nat} (hP : PQ M n c) (hi : i < n) (hl : 0 < leadN (cn (c i) 0)) : q_X13_operandOf (nI i) (nI (leadN (cn (c i) 0) - 1)) M ∧ f_X13_operandOf (nI i) (nI (leadN (cn (c i) 0) - 1)) M = nI (ldV (c i)) ∧ ldV (c i) ≤ n := by
  have n100 := hP.2.1
  have l3 := leadN_le (o := cn (c i) 0)
  obtain ⟨a, b⟩ := opG hP hi (show leadN (cn (c i) 0) - 1 < 4 by omega)
  obtain ⟨v1, v2⟩ := (hP.2.2.2 i hi).ld hl (by omega)
  refine ⟨a, ?_, v1⟩
  rw [b, show leadN (cn (c i) 0) - 1 + 1 = leadN (cn (c i) 0) by omega, v2, lN_toI]
theorem c_isLedTo13 {q : Nat} (hW : Wf M) (hP : PQ M n c) (hq : q < 2 ^ 31) (h : K (some (.int (pI (ledTo n c q)))) M) : sp_X13_isLedTo [.ref 605, .int (nI q)] M K := by
  have n100 := hP.2.1
  refine wX13_isLedTo hW (fun {G} hc => ?_)
  have loop : ∀ f p : Nat, p + f = n → ∀ (x : Int32) (o4 : Option Value), x = pI (∃ j, j < p ∧ 0 < leadN (cn (c j) 0) ∧ ldV (c j) = q) → G 4 [some (.ref 605), some (.int (nI q)), some (.int x), some (.int (nI p)), o4] [] M := by
    intro f
    induction f with
    | zero =>
      intro p hp x o4 hx
      have hp : p = n := by omega
      subst hp
      refine eX13_isLedTo_4 hc hW ⟨fun _ => ⟨by rw [hx]; exact pI_01 _, by rw [hx]; exact h⟩, fun z => absurd (by rw [hP.2.2.1]; exact nI_le (Nat.le_refl _) (by omega)) z⟩
    | succ f ih =>
      intro p hp x o4 hx
      have hpn : p < n := by omega
      have hv := hP.2.2.2 p hpn
      refine eX13_isLedTo_4 hc hW ?_
      rw [hP.2.2.1, nI_clamp (by omega), (hP.1 p hpn).1, lead_tab _ (List.mem_range.mpr hv.o.1), nI_1]
      refine ⟨fun z => absurd ((nI_leI (a := n) (by omega) (by omega)).mp z) (by omega), fun _ => ⟨vpN (by omega) (by decide), fun y1 hy => ⟨fun z => ?_, fun z => ?_⟩⟩⟩
      · refine ih (p + 1) (by omega) 1 _ (pI_t ?_).symm
        rw [hx, pI_0, Classical.not_not] at z
        obtain ⟨j, j1, j2⟩ := z
        exact ⟨j, by omega, j2⟩
      · rw [hx, pI_0] at z
        have back : ¬ (0 < leadN (cn (c p) 0) ∧ ldV (c p) = q) → (0 : Int32) = pI (∃ j, j < p + 1 ∧ 0 < leadN (cn (c j) 0) ∧ ldV (c j) = q) := fun y => (pI_f (by
          rintro ⟨j, j1, j2⟩
          by_cases e : j = p
          · subst e; exact y j2
          · exact z ⟨j, by omega, j2⟩)).symm
        by_cases hl : 0 < leadN (cn (c p) 0)
        · rw [if_pos hl] at hy
          subst hy
          obtain ⟨q1, q2, q3⟩ := opL_ hP hpn hl
          have l3 := leadN_le (o := cn (c p) 0)
          refine ⟨fun y => absurd y (nI_pos (by omega)), fun _ => ⟨q1, ?_⟩⟩
          rw [q2, nI_eq (by omega) hq]
          exact ⟨fun y => ih (p + 1) (by omega) 0 _ (back (fun w => y w.2)), fun y => ih (p + 1) (by omega) 1 _ (pI_t ⟨p, by omega, hl, y⟩).symm⟩
        · rw [if_neg hl] at hy
          subst hy
          exact ⟨fun _ => ih (p + 1) (by omega) 0 _ (back (fun w => hl w.1)), fun y => absurd (by decide) y⟩
  exact loop n 0 (by omega) 0 _ (pI_f (fun ⟨j, j1, _⟩ => absurd j1 (Nat.not_lt_zero j))).symm
theorem opSm : ∀ o ∈ [0, 53, 50, 49], 0 < (opL o).length ∧ ((97 ≤ letN o 0 ∧ letN o 0 ≤ 122) ∨ letN o 0 = 83 ∨ letN o 0 = 77) := by decide +kernel
theorem opSm1 : 1 < (opL 49).length ∧ letN 49 1 = 77 := by decide +kernel
theorem sm0 {r : Nat → Int64} {o : Nat} (hv : VI n r) (ho : cn r 0 = o) (hm : o ∈ [0, 53, 50, 49]) : ∃ v, v < 8 ∧ r 1 = lN v := by
  obtain ⟨a, b⟩ := opSm o hm
  have hb := (hv.at ho).2.1 0 a
  rcases b with b | b | b
  · exact hb.1 (Or.inl b)
  · exact hb.1 (Or.inr (Or.inr b))
  · obtain ⟨v, v1, v2⟩ := hb.2.1 b
    exact ⟨v, by omega, v2⟩
theorem sm1 {r : Nat → Int64} (hv : VI n r) (ho : cn r 0 = 49) : ∃ v, v < 8 ∧ r 2 = lN v := by
  obtain ⟨a, b⟩ := opSm1
  obtain ⟨v, v1, v2⟩ := ((hv.at ho).2.1 1 a).2.1 b
  exact ⟨v, by omega, v2⟩
theorem lN_eq8 {a b : Nat} (ha : a < 8) (hb : b < 8) : (lN a = lN b ↔ a = b) := by
  constructor
  · intro z
    have := congrArg Int64.toInt32 z
    rw [lN_toI, lN_toI] at this
    exact (nI_eq (by omega) (by omega)).mp this
  · intro z; rw [z]
theorem toI_8 {x y : Int64} (hx : ∃ v, v < 8 ∧ x = lN v) (hy : ∃ v, v < 8 ∧ y = lN v) : x.toInt32 = y.toInt32 ↔ x = y := by
  obtain ⟨v, v8, rfl⟩ := hx
  obtain ⟨w, w8, rfl⟩ := hy
  rw [lN_toI, lN_toI, nI_eq (by omega) (by omega), lN_eq8 v8 w8]
theorem c_goes13 {i : Nat} (hW : Wf M) (hP : PQ M n c) (hi : i < n) (h : K (some (.int (nI (needN n c i)))) M) : sp_X13_goes [.ref 605, .int (nI i)] M K := by
  have n100 := hP.2.1
  have hv := hP.2.2.2 i hi
  have o68 := hv.o.1
  refine wX13_goes hW (fun {G} hc => ?_)
  obtain ⟨q0, e0⟩ := opG hP hi (show 0 < 4 by decide)
  have q0 : q_X13_operandOf (nI i) 0 M := q0
  have e0 : f_X13_operandOf (nI i) 0 M = (c i 1).toInt32 := e0
  rw [nI_clamp (by omega), (hP.1 i hi).1, hP.2.2.1, nI_1, nI_clamp (by omega)]
  have i59 : (nI (cn (c i) 0) = 59) ↔ cn (c i) 0 = 59 := nI_eq (b := 59) (by omega) (by decide)
  rw [i59]
  refine ⟨vpN (by omega) (by decide), fun n59 => ?_, fun y59 => ⟨q0, ?_⟩⟩
  · have enn : needN n c i = iT (i + 1 < n ∧ cn (c (i + 1)) 0 = cn (c i) 0 ∧ c i 1 = c (i + 1) 1 ∧ ¬ ledTo n c (i + 1)) (if cn (c i) 0 = 0 ∨ cn (c i) 0 = 53 ∨ cn (c i) 0 = 50 then 1 else if cn (c i) 0 = 49 ∧ c i 1 = c i 2 ∧ c (i + 1) 1 = c (i + 1) 2 then 2 else 0) 0 := by
      unfold needN
      rw [if_neg n59]
    have no : ¬ (i + 1 < n ∧ cn (c (i + 1)) 0 = cn (c i) 0 ∧ c i 1 = c (i + 1) 1 ∧ ¬ ledTo n c (i + 1)) → K (some (.int (0 : Int32))) M := fun z => by rw [enn, iT_f z] at h; exact h
    rw [nI_leI (by omega) (by omega)]
    refine ⟨fun z => no (fun y => by omega), fun z => ⟨vpN (by omega) (by decide), vpN (by omega) (by decide), ?_⟩⟩
    have hi1 : i + 1 < n := by omega
    have hv1 := hP.2.2.2 (i + 1) hi1
    rw [(hP.1 _ hi1).1, nI_eq (by have := hv1.o.1; omega) (by omega)]
    refine ⟨fun z => no (fun y => z y.2.1), fun eo => c_isLedTo13 hW hP (by omega) (rX13_goes_54_2 hc hW ?_)⟩
    rw [pI_0]
    refine ⟨fun nl => ?_, fun yl => no (fun y => yl y.2.2.2)⟩
    obtain ⟨q0', e0'⟩ := opG hP hi1 (show 0 < 4 by decide)
    have q0' : q_X13_operandOf (nI (i + 1)) 0 M := q0'
    have e0' : f_X13_operandOf (nI (i + 1)) 0 M = (c (i + 1) 1).toInt32 := e0'
    obtain ⟨q1, e1⟩ := opG hP hi (show 1 < 4 by decide)
    have q1 : q_X13_operandOf (nI i) 1 M := q1
    have e1 : f_X13_operandOf (nI i) 1 M = (c i 2).toInt32 := e1
    obtain ⟨q1', e1'⟩ := opG hP hi1 (show 1 < 4 by decide)
    have q1' : q_X13_operandOf (nI (i + 1)) 1 M := q1'
    have e1' : f_X13_operandOf (nI (i + 1)) 1 M = (c (i + 1) 2).toInt32 := e1'
    rw [e0, e0']
    have j0 : (nI (cn (c i) 0) = 0) ↔ cn (c i) 0 = 0 := nI_eq (b := 0) (by omega) (by decide)
    have j53 : (nI (cn (c i) 0) = 53) ↔ cn (c i) 0 = 53 := nI_eq (b := 53) (by omega) (by decide)
    have j50 : (nI (cn (c i) 0) = 50) ↔ cn (c i) 0 = 50 := nI_eq (b := 50) (by omega) (by decide)
    have j49 : (nI (cn (c i) 0) = 49) ↔ cn (c i) 0 = 49 := nI_eq (b := 49) (by omega) (by decide)
    have g84 : ∀ (y : Int32) (o3 : Option Value), (y = 0 ∧ ¬ (c i 1).toInt32 = (c (i + 1) 1).toInt32) ∨ (y = 1 ∧ (c i 1).toInt32 = (c (i + 1) 1).toInt32) → G 84 [some (.ref 605), some (.int (nI i)), some (.int (nI (i + 1))), o3] [.int y] M := by
      intro y o3 hy
      have vi : vp_in (nI i) 100 := vpN (by omega) (by decide)
      refine eX13_goes_84 hc hW ?_
      rw [nI_clamp (by omega), (hP.1 i hi).1, e0, e0', e1, e1', j0, j53, j50, j49]
      have one : cn (c i) 0 ∈ [0, 53, 50, 49] → ((y = 0 → ¬ c i 1 = c (i + 1) 1) ∧ (¬ y = 0 → c i 1 = c (i + 1) 1)) := fun m => by
        have t := toI_8 (sm0 hv rfl m) (sm0 hv1 eo m)
        rw [t] at hy
        rcases hy with ⟨a, b⟩ | ⟨a, b⟩
        · exact ⟨fun _ => b, fun z => absurd a z⟩
        · exact ⟨fun z => by rw [a] at z; exact absurd z (by decide), fun _ => b⟩
      have three : (cn (c i) 0 = 0 ∨ cn (c i) 0 = 53 ∨ cn (c i) 0 = 50) → (y = 0 → K (some (.int (0 : Int32))) M) ∧ (¬ y = 0 → K (some (.int (1 : Int32))) M) := fun w => by
        have o := one (by rcases w with w | w | w <;> rw [w] <;> decide)
        refine ⟨fun z => no (fun u => o.1 z u.2.2.1), fun z => ?_⟩
        rw [enn, iT_t ⟨hi1, eo, o.2 z, nl⟩, if_pos w] at h
        exact h
      refine ⟨vi, fun z => three (Or.inl z), fun n0 => ⟨vi, fun z => three (Or.inr (Or.inl z)), fun n53 => ⟨vi, fun n50 => ⟨vi, fun n49 => ?_, fun y49 => ?_⟩, fun z => three (Or.inr (Or.inr z))⟩⟩⟩
      · have : needN n c i = 0 := by
          rw [enn]
          by_cases P : i + 1 < n ∧ cn (c (i + 1)) 0 = cn (c i) 0 ∧ c i 1 = c (i + 1) 1 ∧ ¬ ledTo n c (i + 1)
          · rw [iT_t P, if_neg (by omega), if_neg (fun w => n49 w.1)]
          · rw [iT_f P]
        rw [this] at h
        exact h
      · have o := one (by rw [y49]; decide)
        have t1 := toI_8 (sm1 hv y49) (sm0 hv y49 (by decide))
        have t2 := toI_8 (sm1 hv1 (eo.trans y49)) (sm0 hv1 (eo.trans y49) (by decide))
        rw [t1, t2]
        refine ⟨fun z => no (fun u => o.1 z u.2.2.1), fun z => ⟨q1, q0, fun a => ?_, fun a => ⟨q1', q0', fun b => ?_, fun b => ?_⟩⟩⟩
        · rw [enn, iT_t ⟨hi1, eo, o.2 z, nl⟩, if_neg (by omega), if_neg (fun w => a w.2.1.symm)] at h
          exact h
        · rw [enn, iT_t ⟨hi1, eo, o.2 z, nl⟩, if_neg (by omega), if_neg (fun w => b w.2.2.symm)] at h
          exact h
        · rw [enn, iT_t ⟨hi1, eo, o.2 z, nl⟩, if_neg (by omega), if_pos ⟨y49, a.symm, b.symm⟩] at h
          exact h
    exact ⟨q0, q0', fun z => g84 0 _ (Or.inl ⟨rfl, z⟩), fun z => g84 1 _ (Or.inr ⟨rfl, z⟩)⟩
  · have el : leadN (cn (c i) 0) = 1 := by rw [y59]; rfl
    obtain ⟨-, e, l⟩ := opL_ hP hi (by rw [el]; decide)
    rw [el] at e
    have e : f_X13_operandOf (nI i) 0 M = nI (ldV (c i)) := e
    rw [e, nI_eq (by omega) (by omega)]
    have en : needN n c i = if ldV (c i) = i + 1 then 1 else 0 := by unfold needN; rw [if_pos y59]
    rw [en] at h
    exact ⟨fun z => by rw [if_neg z] at h; exact h, fun z => by rw [if_pos z] at h; exact h⟩
/-- row j is r -/
def RW1 (M : Mem) (j : Nat) (r : Nat → Int64) : Prop := gI M 618 j = nI (cn r 0) ∧ (∀ k, k < 4 → gL M 619 (4 * j + k) = r (k + 1)) ∧ gI M 620 j = (r 5).toInt32
theorem RW1.fr {S : Nat → Nat → Prop} {j : Nat} {r : Nat → Int64} (hf : FrC S M M') (h1 : ¬ S 618 j ∧ ¬ S 620 j) (h2 : ∀ k, k < 4 → ¬ S 619 (4 * j + k)) (h : RW1 M j r) : RW1 M' j r := ⟨by rw [hf.i h1.1]; exact h.1, fun k hk => by rw [hf.l (h2 k hk)]; exact h.2.1 k hk, by rw [hf.i h1.2]; exact h.2.2⟩
def drpS (a j : Nat) : Prop := a = 618 ∨ a = 619 ∨ a = 620 ∨ (a = 605 ∧ j = 23)
theorem c_drop13 {i m : Nat} (hW : Wf M) (hP : PQ M n c) (hm : 0 < m) (him : i + m ≤ n) (h : ∀ M', Wf M' → FrC drpS M M' → RPr M' 618 619 620 (n - m) (remC c i m) → gI M' 605 23 = nI (n - m) → K none M') : sp_X13_drop [.ref 605, .int (nI i), .int (nI m)] M K := by
  have n100 := hP.2.1
  refine wX13_drop hW (fun {G} hc => ?_)
  -- the second loop: the rows behind move up
  have L2 : ∀ f p : Nat, p + f = n - m → i ≤ p → ∀ (M1 : Mem) (o1 o4 o5 : Option Value), Wf M1 → FrC drpS M M1 → gI M1 605 23 = nI (n - m) → (∀ j, j < n → RW1 M1 j (adjR i m (if i ≤ j ∧ j < p then c (j + m) else c j))) → G 94 [some (.ref 605), o1, some (.int (nI m)), some (.int (nI p)), o4, o5] [] M1 := by
    intro f
    induction f with
    | zero =>
      intro p hp hip M1 o1 o4 o5 hW1 f1 g23 hr
      have hp : p = n - m := by omega
      subst hp
      refine eX13_drop_94 hc hW1 ⟨fun _ => h M1 hW1 f1 (fun j hj => ?_) g23, fun z => absurd (by rw [g23]; exact nI_le (Nat.le_refl _) (by omega)) z⟩
      have := hr j (by omega)
      unfold remC
      by_cases e : j < i
      · rw [if_neg (by omega)] at this
        rw [if_pos e]; exact this
      · rw [if_pos (by omega)] at this
        rw [if_neg e]; exact this
    | succ f ih =>
      intro p hp hip M1 o1 o4 o5 hW1 f1 g23 hr
      have r1 := hr (p + m) (by omega)
      rw [if_neg (by omega)] at r1
      obtain ⟨a1, a2, a3⟩ := r1
      refine eX13_drop_94 hc hW1 ?_
      rw [g23, nI_add, nI_clamp (show p + m < 2 ^ 31 by omega), nI_clamp (show p < 2 ^ 31 by omega), a1, a3]
      refine ⟨fun z => absurd ((nI_leI (a := n - m) (by omega) (by omega)).mp z) (by omega), fun _ => ⟨vpN (by omega) (by decide), vpN (by omega) (by decide), vpN (by omega) (by decide), vpN (by omega) (by decide), ?_⟩⟩
      have f2 : FrC (fun a j => (a = 618 ∨ a = 620) ∧ j = p) M1 (uI (uI M1 618 p (nI (cn (adjR i m (c (p + m))) 0))) 620 p ((adjR i m (c (p + m)) 5).toInt32)) := (FrC_uI ⟨Or.inl rfl, rfl⟩).tr (FrC_uI ⟨Or.inr rfl, rfl⟩)
      have h1 : gI (uI (uI M1 618 p (nI (cn (adjR i m (c (p + m))) 0))) 620 p ((adjR i m (c (p + m)) 5).toInt32)) 618 p = nI (cn (adjR i m (c (p + m))) 0) ∧ gI (uI (uI M1 618 p (nI (cn (adjR i m (c (p + m))) 0))) 620 p ((adjR i m (c (p + m)) 5).toInt32)) 620 p = (adjR i m (c (p + m)) 5).toInt32 := ⟨by rw [gI_uI, if_neg (by omega), gI_uI, if_pos ⟨rfl, rfl⟩], by rw [gI_uI, if_pos ⟨rfl, rfl⟩]⟩
      generalize uI (uI M1 618 p (nI (cn (adjR i m (c (p + m))) 0))) 620 p ((adjR i m (c (p + m)) 5).toInt32) = M2 at f2 h1 ⊢
      have hW2 := f2.wf hW1
      have inner : ∀ f q : Nat, q + f = 4 → ∀ M3, Wf M3 → FrC (fun a j => a = 619 ∧ 4 * p ≤ j ∧ j < 4 * p + 4) M2 M3 → (∀ k, k < q → gL M3 619 (4 * p + k) = adjR i m (c (p + m)) (k + 1)) → G 133 [some (.ref 605), o1, some (.int (nI m)), some (.int (nI p)), some (.int (nI q)), o5] [] M3 := by
        intro f'
        induction f' with
        | zero =>
          intro q hq M3 hW3 f3 hk
          have hq : q = 4 := by omega
          subst hq
          refine eX13_drop_133 hc hW3 ⟨fun _ => ?_, fun z => absurd (by decide) z⟩
          rw [nI_1]
          refine ih (p + 1) (by omega) (by omega) M3 _ _ _ hW3 ((f1.tr (f2.mono (fun a j z => by unfold drpS; omega))).tr (f3.mono (fun a j z => by unfold drpS; omega))) (by rw [f3.i (by omega), f2.i (by omega)]; exact g23) (fun j hj => ?_)
          by_cases e : j = p
          · subst e
            rw [if_pos (by omega)]
            exact ⟨by rw [f3.i (by omega)]; exact h1.1, fun k hk4 => hk k hk4, by rw [f3.i (by omega)]; exact h1.2⟩
          · have := ((hr j hj).fr f2 (by omega) (fun k hk => by omega)).fr f3 (by omega) (fun k hk => by omega)
            by_cases w : i ≤ j ∧ j < p
            · rw [if_pos w] at this
              rw [if_pos (by omega)]; exact this
            · rw [if_neg w] at this
              rw [if_neg (by omega)]; exact this
        | succ f' ih' =>
          intro q hq M3 hW3 f3 hk
          refine eX13_drop_133 hc hW3 ⟨fun z => absurd ((nI_leI (a := 4) (by decide) (by omega)).mp z) (by omega), fun _ => ?_⟩
          have e : ∀ p : Nat, (4 : Int32) * nI p + nI q = nI (4 * p + q) := fun p => by rw [show (4 : Int32) = nI 4 from rfl, pk_mul, nI_add]
          have g2 : gL M3 619 (4 * (p + m) + q) = adjR i m (c (p + m)) (q + 1) := by rw [f3.l (by omega), f2.l (by omega)]; exact a2 q (by omega)
          rw [nI_add, e, e, nI_clamp (show 4 * (p + m) + q < 2 ^ 31 by omega), nI_clamp (show 4 * p + q < 2 ^ 31 by omega), g2, nI_1]
          have f4 : FrC (fun a j => a = 619 ∧ j = 4 * p + q) M3 (uL M3 619 (4 * p + q) (adjR i m (c (p + m)) (q + 1))) := FrC_uL ⟨rfl, rfl⟩
          refine ⟨vpN (by omega) (by decide), vpN (by omega) (by decide), ih' (q + 1) (by omega) _ (f4.wf hW3) (f3.tr (f4.mono (fun a j z => by omega))) (fun k hk1 => ?_)⟩
          by_cases e : k = q
          · subst e; rw [gL_uL, if_pos ⟨rfl, rfl⟩]
          · rw [f4.l (by omega)]; exact hk k (by omega)
      exact inner 4 0 rfl M2 hW2 FrC.rf (fun k hk => absurd hk (Nat.not_lt_zero k))
  -- the first loop: the leads
  have L1 : ∀ f p : Nat, p + f = n → ∀ (M1 : Mem) (o4 o5 : Option Value), Wf M1 → FrC (fun a _ => a = 619) M M1 → (∀ j, j < n → RW1 M1 j (if j < p then adjR i m (c j) else c j)) → G 2 [some (.ref 605), some (.int (nI i)), some (.int (nI m)), some (.int (nI p)), o4, o5] [] M1 := by
    intro f
    induction f with
    | zero =>
      intro p hp M1 o4 o5 hW1 f1 hr
      have hp : p = n := by omega
      subst hp
      have g23 : gI M1 605 23 = nI p := by rw [f1.i (by omega)]; exact hP.2.2.1
      refine eX13_drop_2 hc hW1 ?_
      rw [g23, pk_sub (by omega)]
      refine ⟨fun _ => ?_, fun z => absurd (nI_le (Nat.le_refl _) (by omega)) z⟩
      have f2 : FrC (fun a j => a = 605 ∧ j = 23) M1 (uI M1 605 23 (nI (p - m))) := FrC_uI ⟨rfl, rfl⟩
      refine L2 (p - m - i) i (by omega) (Nat.le_refl _) _ _ _ _ (f2.wf hW1) ((f1.mono (fun a j z => by unfold drpS; omega)).tr (f2.mono (fun a j z => by unfold drpS; omega))) (by rw [gI_uI, if_pos ⟨rfl, rfl⟩]) (fun j hj => ?_)
      have := hr j hj
      rw [if_pos hj] at this
      rw [if_neg (by omega)]
      exact this.fr f2 (by omega) (fun k hk => by omega)
    | succ f ih =>
      intro p hp M1 o4 o5 hW1 f1 hr
      have hpn : p < n := by omega
      have hv := hP.2.2.2 p hpn
      have g23 : gI M1 605 23 = nI n := by rw [f1.i (by omega)]; exact hP.2.2.1
      have rp := hr p hpn
      rw [if_neg (by omega)] at rp
      obtain ⟨b1, b2, b3⟩ := rp
      refine eX13_drop_2 hc hW1 ?_
      rw [g23, nI_clamp (by omega), b1, lead_tab _ (List.mem_range.mpr hv.o.1), nI_1]
      refine ⟨fun z => absurd ((nI_leI (a := n) (by omega) (by omega)).mp z) (by omega), fun _ => ⟨vpN (by omega) (by decide), fun y1 hy => ?_⟩⟩
      have next : ∀ (M2 : Mem) (o4 o5 : Option Value), FrC (fun a j => a = 619 ∧ 4 * p ≤ j ∧ j < 4 * p + 4) M1 M2 → RW1 M2 p (adjR i m (c p)) → G 2 [some (.ref 605), some (.int (nI i)), some (.int (nI m)), some (.int (nI (p + 1))), o4, o5] [] M2 := by
        intro M2 o4 o5 f2 hp2
        refine ih (p + 1) (by omega) M2 _ _ (f2.wf hW1) (f1.tr (f2.mono (fun a j z => z.1))) (fun j hj => ?_)
        by_cases e : j = p
        · subst e; rw [if_pos (by omega)]; exact hp2
        · have := (hr j hj).fr f2 (by omega) (fun k hk => by omega)
          by_cases w : j < p
          · rw [if_pos w] at this
            rw [if_pos (by omega)]; exact this
          · rw [if_neg w] at this
            rw [if_neg (by omega)]; exact this
      by_cases hl : 0 < leadN (cn (c p) 0)
      · rw [if_pos hl] at hy
        have l3 := leadN_le (o := cn (c p) 0)
        obtain ⟨v1, v2⟩ := hv.ld hl (by omega)
        have e4 : (4 : Int32) * nI p + nI (leadN (cn (c p) 0) - 1) = nI (4 * p + (leadN (cn (c p) 0) - 1)) := by rw [show (4 : Int32) = nI 4 from rfl, pk_mul, nI_add]
        have eo : q_X13_operandOf (nI p) y1 M1 ∧ f_X13_operandOf (nI p) y1 M1 = nI (ldV (c p)) := by
          unfold q_X13_operandOf f_X13_operandOf
          rw [hy, e4, nI_clamp (by omega), b2 _ (by omega), show leadN (cn (c p) 0) - 1 + 1 = leadN (cn (c p) 0) by omega, v2, lN_toI]
          exact ⟨vpN (by omega) (by decide), rfl⟩
        have vq : vp_in ((4 : Int32) * nI p + y1) 400 := by rw [hy, e4]; exact vpN (by omega) (by decide)
        refine ⟨fun y => by rw [hy] at y; exact absurd y (nI_pos (by omega)), fun _ => ⟨eo.1, ?_⟩⟩
        have elt : nI i < nI (ldV (c p)) ↔ i < ldV (c p) := by rw [← Int32.not_le, nI_leI (by omega) (by omega), Nat.not_le]
        rw [eo.2, nI_add, elt, nI_leI (by omega) (by omega)]
        have st : ∀ v : Nat, adjR i m (c p) (leadN (cn (c p) 0)) = lN v → v < 2 ^ 31 → (∀ o4 o5 : Option Value, G 2 [some (.ref 605), some (.int (nI i)), some (.int (nI m)), some (.int (nI (p + 1))), o4, o5] [] (uL M1 619 ((4 : Int32) * nI p + y1).toNatClampNeg (nI v).toInt64)) := fun v hv' v31 o4 o5 => by
          rw [hy, e4, nI_clamp (by omega), nI_toL v31]
          have f2 : FrC (fun a j => a = 619 ∧ j = 4 * p + (leadN (cn (c p) 0) - 1)) M1 (uL M1 619 (4 * p + (leadN (cn (c p) 0) - 1)) (lN v)) := FrC_uL ⟨rfl, rfl⟩
          refine next _ _ _ (f2.mono (fun a j z => by omega)) ⟨?_, fun k hk => ?_, ?_⟩
          · rw [f2.i (by omega), adj_0.2]; exact b1
          · by_cases e : k = leadN (cn (c p) 0) - 1
            · subst e
              rw [gL_uL, if_pos ⟨rfl, rfl⟩, show leadN (cn (c p) 0) - 1 + 1 = leadN (cn (c p) 0) by omega, hv']
            · rw [f2.l (by omega), b2 k hk]
              unfold adjR
              rw [if_neg (by omega)]
          · rw [f2.i (by omega), b3]
            unfold adjR
            rw [if_neg (by omega)]
        have ad1 : i < ldV (c p) → adjR i m (c p) (leadN (cn (c p) 0)) = lN (max i (ldV (c p) - m)) := fun z => by unfold adjR; rw [if_pos ⟨hl, rfl, z⟩]
        refine ⟨fun z => ⟨fun y => ⟨vq, ?_⟩, fun y => ⟨vq, ?_⟩⟩, fun z => ⟨vq, ?_⟩⟩
        · rw [pk_sub (by omega)]
          exact st _ (by rw [ad1 z, show max i (ldV (c p) - m) = ldV (c p) - m by omega]) (by omega) _ _
        · exact st _ (by rw [ad1 z, show max i (ldV (c p) - m) = i by omega]) (by omega) _ _
        · exact st _ (by unfold adjR; rw [if_neg (by omega), v2]) (by omega) _ _
      · rw [if_neg hl] at hy
        subst hy
        refine ⟨fun _ => next M1 _ _ FrC.rf ?_, fun y => absurd (by decide) y⟩
        have e : adjR i m (c p) = c p := funext (fun w => if_neg (fun z => hl z.1))
        rw [e]
        exact ⟨b1, b2, b3⟩
  refine L1 n 0 (by omega) M _ _ hW FrC.rf (fun j hj => ?_)
  rw [if_neg (by omega)]
  exact hP.1 j hj
theorem b_slim (hFr : FrOK Fr) (hW : Wf M) (hI : RI Fr M s) (h : ∀ M', Wf M' → FrC rfS M M' → RI Fr M' (sSlim s).2 → gI M' 605 2 = 0 → K (some (.int (sSlim s).1)) M') : sp_X13_slim [.ref 605] M K := by
  obtain ⟨k1, k2, k3, k4⟩ := hI.end0 hFr hW (x := 0)
  obtain ⟨⟨o1, ⟨p1, p2, p3, p4, ⟨p5, p6, p7, p8⟩, p9, p10⟩, o3, o4, o5, o6⟩, hX⟩ := k3
  have ok := slimF_ok 10000 _ _ 0 (show (gPr s).1 < 2 ^ 31 by omega) p9
  have ok : (slimN (gPr s).1 (gPr s).2).1 ≤ (gPr s).1 ∧ ∀ j, j < (slimN (gPr s).1 (gPr s).2).1 → VI (slimN (gPr s).1 (gPr s).2).1 ((slimN (gPr s).1 (gPr s).2).2 j) := ok
  have hh : ∀ M', Wf M' → FrC rfS M M' → RI Fr M' (bgn (wSt (wPr s (slimN (gPr s).1 (gPr s).2) (gSl s || decide ((slimN (gPr s).1 (gPr s).2).1 < (gPr s).1))) noSt)) → gI M' 605 2 = 0 → K (some (.int (nI ((gPr s).1 - (slimN (gPr s).1 (gPr s).2).1)))) M' := h
  refine wX13_slim hW (fun {G} hc => ?_)
  have n0 := p4.1
  have fin : ∀ (M1 : Mem) (b : Int32) (o2 o3' : Option Value), Wf M1 → FrC drpS (uI M 605 2 0) M1 → RPr M1 618 619 620 (slimN (gPr s).1 (gPr s).2).1 (slimN (gPr s).1 (gPr s).2).2 → gI M1 605 23 = nI (slimN (gPr s).1 (gPr s).2).1 → b = blI (gSl s || decide ((slimN (gPr s).1 (gPr s).2).1 < (gPr s).1)) → sp_X13_anew [.ref 605] (uI M1 605 31 b) (fun v M' => RX13_slim_65_2 G K [some (.ref 605), some (.int (nI ((gPr s).1 - (slimN (gPr s).1 (gPr s).2).1))), o2, o3'] (v.toList ++ []) M') := by
    intro M1 b o2 o3' hW1 f1 hp g23 hb
    have f2 : FrC (fun a j => a = 605 ∧ j = 31) M1 (uI M1 605 31 b) := FrC_uI ⟨rfl, rfl⟩
    have f12 : FrC (fun a j => drpS a j ∨ (a = 605 ∧ j = 31)) (uI M 605 2 0) (uI M1 605 31 b) := (f1.mono (fun a j z => Or.inl z)).tr (f2.mono (fun a j z => Or.inr z))
    refine c_anew13 (n := (slimN (gPr s).1 (gPr s).2).1) (f2.wf hW1) (hX.fr f12 (fun a j z => by unfold drpS at z; unfold rXc; omega)) ⟨by rw [f2.i (by omega)]; exact g23, by omega⟩ (fun M2 hW2 f3 hs hf hX2 z2 => rX13_slim_65_2 hc hW2 ?_)
    have fx : FrC (fun a j => asaS a j) (uI M 605 2 0) M2 := (f12.mono (fun a j z => by unfold drpS at z; unfold asaS; omega)).tr (f3.mono (fun a j z => Or.inl z))
    refine hh M2 hW2 (k2.tr (fx.mono (fun a j z => by have := asa_ z; unfold rfS; omega))) ⟨⟨?_, ⟨?_, ?_, ?_, ⟨by show (slimN (gPr s).1 (gPr s).2).1 ≤ 100; omega, p4.2.1, p4.2.2⟩, ⟨?_, ?_, ?_, ?_⟩, ok.2, p10⟩, fun i hi => hs i hi, ?_, ?_, ⟨Or.inl hf, fun z => by rw [hf] at z; exact absurd z (by decide)⟩⟩, hX2⟩ z2
    · exact o1.fr fx (fun z => by have := asa_ z; omega) (fun j z => by have := asa_ z; omega)
    · exact fun o ho => by
        rw [fx.l (fun z => by have := asa_ z; omega), fx.l (fun z => by have := asa_ z; omega)]; exact p1 o ho
    · exact (hp.fr f2 (fun j => by omega) (fun j => by omega) (fun j => by omega)).fr f3 (fun j z => by have := anw_ z; omega) (fun j z => by have := anw_ z; omega) (fun j z => by have := anw_ z; omega)
    · exact p3.fr fx (fun j z => by have := asa_ z; omega) (fun j z => by have := asa_ z; omega) (fun j z => by have := asa_ z; omega)
    · rw [f3.i (fun z => by have := anw_ z; omega), f2.i (by omega)]; exact g23
    · rw [fx.i (fun z => by have := asa_ z; omega)]; exact p6
    · rw [f3.i (fun z => by have := anw_ z; omega), gI_uI, if_pos ⟨rfl, rfl⟩]; exact hb
    · rw [fx.i (fun z => by have := asa_ z; omega)]; exact p8
    · exact o4.fr fx (fun j z => by have := asa_ z; omega)
    · exact o5.fr fx (fun a j z => by have := asa_ z; unfold rKpc; omega)
  have loop : ∀ j n1 c1 i M1 (o3' : Option Value), n1 ≤ (gPr s).1 → i ≤ n1 → n1 * (n1 + 1) / 2 + (n1 - i) ≤ j → slimF j n1 c1 i = slimN (gPr s).1 (gPr s).2 → (∀ j, j < n1 → VI n1 (c1 j)) → Wf M1 → FrC drpS (uI M 605 2 0) M1 → RPr M1 618 619 620 n1 c1 → gI M1 605 23 = nI n1 → G 9 [some (.ref 605), some (.int (nI ((gPr s).1 - n1))), some (.int (nI i)), o3'] [] M1 := by
    intro j
    induction j with
    | zero =>
      intro n1 c1 i M1 o3' hn1 hi hj he hV1 hW1 f1 hP1 g23
      have : n1 = i := by omega
      subst this
      have he : (n1, c1) = slimN (gPr s).1 (gPr s).2 := he
      refine eX13_slim_9 hc hW1 ?_
      rw [g23, show gI M1 605 31 = blI (gSl s) by rw [f1.i (by unfold drpS; omega)]; exact p7, blI_0]
      have f := fin M1
      rw [← he] at f
      refine ⟨fun _ => ⟨fun z => f 1 _ _ hW1 f1 hP1 g23 ?_, fun z => ⟨fun y => f 0 _ _ hW1 f1 hP1 g23 ?_, fun y => f 1 _ _ hW1 f1 hP1 g23 ?_⟩⟩, fun z => absurd (nI_le (Nat.le_refl _) (by omega)) z⟩
      · have z : gSl s = true := by simpa using z
        rw [z]; rfl
      · have y := (nI_leI (b := 0) (by omega) (by decide)).mp y
        rw [z, decide_eq_false (show ¬ n1 < (gPr s).1 by omega)]; rfl
      · have y : n1 < (gPr s).1 := by
          rcases Nat.lt_or_ge n1 (gPr s).1 with w | w
          · exact w
          · exact absurd ((nI_leI (b := 0) (by omega) (by decide)).mpr (by omega)) y
        rw [z, decide_eq_true y]; rfl
    | succ j ih =>
      intro n1 c1 i M1 o3' hn1 hi hj he hV1 hW1 f1 hP1 g23
      have e1 : slimF (j + 1) n1 c1 i = if i < n1 then (if needN n1 c1 i = 0 then slimF j n1 c1 (i + 1) else slimF j (n1 - needN n1 c1 i) (remC c1 i (needN n1 c1 i)) 0) else (n1, c1) := rfl
      rw [e1] at he
      refine eX13_slim_9 hc hW1 ?_
      rw [g23, show gI M1 605 31 = blI (gSl s) by rw [f1.i (by unfold drpS; omega)]; exact p7, blI_0, nI_leI (by omega) (by omega)]
      have f := fin M1
      refine ⟨fun w => ?_, fun w => ?_⟩
      · rw [if_neg (by omega)] at he
        rw [← he] at f
        refine ⟨fun z => f 1 _ _ hW1 f1 hP1 g23 ?_, fun z => ⟨fun y => f 0 _ _ hW1 f1 hP1 g23 ?_, fun y => f 1 _ _ hW1 f1 hP1 g23 ?_⟩⟩
        · have z : gSl s = true := by simpa using z
          rw [z]; rfl
        · have y := (nI_leI (b := 0) (by omega) (by decide)).mp y
          rw [z, decide_eq_false (show ¬ n1 < (gPr s).1 by omega)]; rfl
        · have y : n1 < (gPr s).1 := by
            rcases Nat.lt_or_ge n1 (gPr s).1 with w | w
            · exact w
            · exact absurd ((nI_leI (b := 0) (by omega) (by decide)).mpr (by omega)) y
          rw [z, decide_eq_true y]; rfl
      · have hi1 : i < n1 := by omega
        rw [if_pos hi1] at he
        have hm := need_le (c := c1) hi1
        have hP : PQ M1 n1 c1 := ⟨hP1, by omega, g23, hV1⟩
        refine c_goes13 hW1 hP hi1 (rX13_slim_17_2 hc hW1 ⟨fun y => ?_, fun y => ?_⟩)
        · have y : needN n1 c1 i = 0 := by have := (nI_leI (b := 0) (by omega) (by decide)).mp y; omega
          rw [if_pos y] at he
          rw [nI_1]
          exact ih n1 c1 (i + 1) M1 _ hn1 (by omega) (by omega) he hV1 hW1 f1 hP1 g23
        · have y : needN n1 c1 i ≠ 0 := fun x => y (by rw [x]; decide)
          rw [if_neg y] at he
          refine c_drop13 hW1 hP (by omega) hm.2 (fun M2 hW2 f2 hP2 g2 => rX13_slim_27_3 hc hW2 ?_)
          have e2 : nI ((gPr s).1 - n1) + nI (needN n1 c1 i) = nI ((gPr s).1 - (n1 - needN n1 c1 i)) := by
            rw [nI_add]; congr 1; omega
          rw [e2]
          refine ih _ _ 0 M2 _ (by omega) (Nat.zero_le _) ?_ he (VI.rem (by omega) hm.2 hV1) hW2 (f1.tr f2) hP2 g2
          generalize needN n1 c1 i = m at y hm
          obtain ⟨k, rfl⟩ : ∃ k, n1 = k + 1 := ⟨n1 - 1, by omega⟩
          have e2 : (k + 1) * (k + 1 + 1) = k * (k + 1) + 2 * (k + 1) := by rw [Nat.mul_comm (k + 1) (k + 1 + 1), show k * (k + 1) + 2 * (k + 1) = (k + 2) * (k + 1) by rw [Nat.add_mul]]
          rw [e2] at hj
          have e3 : (k + 1 - m) * (k + 1 - m + 1) ≤ k * (k + 1) := Nat.mul_le_mul (by omega) (by omega)
          omega
  have st := loop 10000 (gPr s).1 (gPr s).2 0 (uI M 605 2 0) none (Nat.le_refl _) (Nat.zero_le _) (by
    have : (gPr s).1 * ((gPr s).1 + 1) ≤ 100 * 101 := Nat.mul_le_mul n0 (by omega)
    omega) rfl p9 k1 FrC.rf p2 p5
  rw [Nat.sub_self] at st
  exact st
end
end RSLIM
