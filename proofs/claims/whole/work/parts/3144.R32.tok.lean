section RTOK
section
variable {M M' : Mem} {K : RT} {t : Nat → Nat} {n : Nat} {x : TK}
/-- the tape, as the reference reads it -/
def RdR (M : Mem) (t : Nat → Nat) (n : Nat) : Prop := n ≤ 4000 ∧ gI M 605 5 = nI n ∧ ∀ j, j < n → gI M 608 j = sgB (t j) ∧ t j < 256
def tkS (a j : Nat) : Prop := a = 605 ∧ 6 ≤ j ∧ j ≤ 9
theorem RdR.fr {S : Nat → Nat → Prop} (hf : FrC S M M') (h1 : ¬ S 605 5) (h2 : ∀ j, ¬ S 608 j) (h : RdR M t n) : RdR M' t n := ⟨h.1, by rw [hf.i h1]; exact h.2.1, fun j hj => ⟨by rw [hf.i (h2 j)]; exact (h.2.2 j hj).1, (h.2.2 j hj).2⟩⟩
theorem RdR.tk (hf : FrC tkS M M') (h : RdR M t n) : RdR M' t n := h.fr hf (by unfold tkS; omega) (fun j => by unfold tkS; omega)
theorem sg_tab : ∀ b ∈ List.range 256, ((¬ sgB b < 97 ∧ ¬ (122 : Int32) < sgB b) ↔ isLet b = true) ∧ ((¬ sgB b < 48 ∧ ¬ (57 : Int32) < sgB b) ↔ isDig b = true) ∧ (b < 128 → sgB b = nI b) ∧ (128 ≤ b → sgB b < 0) := by decide +kernel
theorem sg_small {b : Nat} (hb : b < 256) : P_X13_isSmall (sgB b) ↔ isLet b = true := (sg_tab b (List.mem_range.mpr hb)).1
theorem sg_dig {b : Nat} (hb : b < 256) : P_X13_isDigit (sgB b) ↔ isDig b = true := (sg_tab b (List.mem_range.mpr hb)).2.1
theorem sg_lo {b : Nat} (hb : b < 128) : sgB b = nI b := (sg_tab b (List.mem_range.mpr (by omega))).2.2.1 hb
theorem sg_eq {b v : Nat} (hb : b < 256) (hv : v < 128) : sgB b = nI v ↔ b = v := by
  rcases Nat.lt_or_ge b 128 with h | h
  · rw [sg_lo h]; exact nI_eq (by omega) (by omega)
  · have := (sg_tab b (List.mem_range.mpr hb)).2.2.2 h
    exact ⟨fun z => by rw [z] at this; exact absurd this (nI_pos (by omega)), fun z => by omega⟩
theorem no_small : ¬ P_X13_isSmall (-1) ∧ ¬ P_X13_isDigit (-1) := by
  constructor
  · intro z; exact z.1 (by decide)
  · intro z; exact z.1 (by decide)
theorem at_R {i : Nat} (hT : RdR M t n) (hi : i < 2 ^ 31) : q_X13_at (nI i) M ∧ f_X13_at (nI i) M = if i < n then sgB (t i) else -1 := by
  obtain ⟨a, b, c⟩ := hT
  unfold q_X13_at f_X13_at
  rw [b, nI_clamp (by omega)]
  by_cases h : i < n
  · rw [if_pos h, if_neg (fun z => by have := (nI_leI (by omega) (by omega)).mp z; omega)]
    exact ⟨fun _ => vpN (by omega) (by decide), (c i h).1⟩
  · rw [if_neg h, if_pos (nI_le (by omega) (by omega))]
    exact ⟨fun z => absurd (nI_le (by omega) (by omega)) z, rfl⟩
theorem at_small {i : Nat} (hT : RdR M t n) (hi : i < 2 ^ 31) : P_X13_isSmall (f_X13_at (nI i) M) ↔ i < n ∧ isLet (t i) = true := by
  rw [(at_R hT hi).2]
  by_cases h : i < n
  · rw [if_pos h, sg_small (hT.2.2 i h).2]; exact ⟨fun z => ⟨h, z⟩, fun z => z.2⟩
  · rw [if_neg h]; exact ⟨fun z => absurd z no_small.1, fun z => absurd z.1 h⟩
theorem at_dig {i : Nat} (hT : RdR M t n) (hi : i < 2 ^ 31) : P_X13_isDigit (f_X13_at (nI i) M) ↔ i < n ∧ isDig (t i) = true := by
  rw [(at_R hT hi).2]
  by_cases h : i < n
  · rw [if_pos h, sg_dig (hT.2.2 i h).2]; exact ⟨fun z => ⟨h, z⟩, fun z => z.2⟩
  · rw [if_neg h]; exact ⟨fun z => absurd z no_small.2, fun z => absurd z.1 h⟩
theorem bN_dig {i : Nat} : isDig (bN t n i) = true ↔ i < n ∧ isDig (t i) = true := by
  unfold bN
  by_cases h : i < n
  · rw [if_pos h]; exact ⟨fun z => ⟨h, z⟩, fun z => z.2⟩
  · rw [if_neg h]; exact ⟨fun z => absurd z (by decide), fun z => absurd z.1 h⟩
theorem c_over13 {p : Nat} (hW : Wf M) (hT : RdR M t n) (hp : p ≤ n) (h : K (some (.int (nI (scF t n isBl p)))) M) : sp_X13_over [.ref 605, .int (nI p)] M K := by
  have hn := hT.1
  refine wX13_over hW (fun {G} hc => ?_)
  have loop : ∀ k q : Nat, n - q = k → q ≤ n → scF t n isBl q = scF t n isBl p → ∀ o1, G 2 [some (.ref 605), o1, some (.int (nI q))] [] M := by
    intro k
    induction k with
    | zero =>
      intro q hk hq e o1
      have e2 : scF t n isBl q = q := scF_n t n _ (fun z => by omega)
      refine eX13_over_2 hc hW ?_
      rw [hT.2.1, nI_leI (by omega) (by omega)]
      rw [← e, e2] at h
      exact ⟨fun _ => h, fun z => absurd (by omega) z⟩
    | succ k ih =>
      intro q hk hq e o1
      obtain ⟨b1, b2⟩ := hT.2.2 q (by omega)
      refine eX13_over_2 hc hW ?_
      rw [hT.2.1, nI_leI (by omega) (by omega), nI_clamp (by omega), b1, show (32 : Int32) = nI 32 from rfl, sg_eq b2 (by decide), nI_1]
      refine ⟨fun z => absurd z (by omega), fun _ => ⟨vpN (by omega) (by decide), fun z => ?_, fun z => ?_⟩⟩
      · have e2 : scF t n isBl q = q := scF_n t n _ (fun y => z (isBl_i.mp y.2))
        rw [← e, e2] at h
        exact h
      · exact ih (q + 1) (by omega) (by omega) (by rw [← e, scF_t t n _ (by omega) (isBl_i.mpr z)]) _
  exact loop _ p rfl hp rfl _
/-- the sort of a token, as the reference numbers it -/
def srt (k : Nat) : Nat := if k = 119 then 0 else if k = 110 then 1 else if k = 44 ∨ k = 58 ∨ k = 63 then 2 else if k = 101 then 3 else 4
def TkX (x : TK) (M : Mem) : Prop := gI M 605 6 = nI (srt (kT x)) ∧ gI M 605 7 = nI (sT x) ∧ (kT x ≠ 98 → gI M 605 8 = nI (eT x)) ∧ gI M 605 9 = blI (oT x)
theorem TkX.fr {S : Nat → Nat → Prop} (hf : FrC S M M') (hS : ∀ j, 6 ≤ j → j ≤ 9 → ¬ S 605 j) (h : TkX x M) : TkX x M' :=
  ⟨by rw [hf.i (hS 6 (by decide) (by decide))]; exact h.1, by rw [hf.i (hS 7 (by decide) (by decide))]; exact h.2.1, fun z => by rw [hf.i (hS 8 (by decide) (by decide))]; exact h.2.2.1 z, by rw [hf.i (hS 9 (by decide) (by decide))]; exact h.2.2.2⟩
theorem tk_i {j : Nat} {y : Int32} (hf : FrC tkS M M') (hj : 6 ≤ j ∧ j ≤ 9) : FrC tkS M (uI M' 605 j y) := hf.tr (FrC_uI ⟨rfl, hj⟩)
theorem c_next13 {p : Nat} (hW : Wf M) (hT : RdR M t n) (hp : p ≤ n) (h8 : gI M 605 8 = nI p) (h9 : gI M 605 9 = 0) (h : ∀ M', Wf M' → FrC tkS M M' → TkX (tok t n p) M' → K none M') : sp_X13_next [.ref 605] M K := by
  have hn := hT.1
  unfold tok at h
  refine wX13_next hW (fun {G} hc => ?_)
  rw [h8]
  refine c_over13 hW hT hp (rX13_next_0_4 hc hW ?_)
  generalize hs : scF t n isBl p = s at h ⊢
  have hsn : s ≤ n := by rw [← hs]; exact scF_le t n _ hp
  have f2 : FrC tkS M (uI (uI M 605 7 (nI s)) 605 8 (nI s)) := tk_i (tk_i FrC.rf (by decide)) (by decide)
  have g7 : gI (uI (uI M 605 7 (nI s)) 605 8 (nI s)) 605 7 = nI s := by rw [gI_uI, if_neg (by omega), gI_uI, if_pos ⟨rfl, rfl⟩]
  have g8 : gI (uI (uI M 605 7 (nI s)) 605 8 (nI s)) 605 8 = nI s := by rw [gI_uI, if_pos ⟨rfl, rfl⟩]
  have g9 : gI (uI (uI M 605 7 (nI s)) 605 8 (nI s)) 605 9 = 0 := by rw [gI_uI, if_neg (by omega), gI_uI, if_neg (by omega)]; exact h9
  generalize uI (uI M 605 7 (nI s)) 605 8 (nI s) = M2 at f2 g7 g8 g9 ⊢
  have hT2 := hT.tk f2
  -- the end
  have fin : ∀ (M3 : Mem) (k e : Nat) (o : Bool), tokA t n s = (k, s, e, o) → FrC tkS M M3 → gI M3 605 6 = nI (srt k) → gI M3 605 7 = nI s → (k ≠ 98 → gI M3 605 8 = nI e) → gI M3 605 9 = blI o → K none M3 := fun M3 k e o et f a1 a2 a3 a4 => h M3 (f.wf hW) f (by rw [et]; exact ⟨a1, a2, a3, a4⟩)
  -- words
  have wl : s < n → isLet (t s) = true → ∀ k q : Nat, n - q = k → q ≤ n → scF t n isWd q = scF t n isWd s → ∀ (M3 : Mem) (o1 : Option Value), FrC tkS M M3 → gI M3 605 6 = 0 → gI M3 605 7 = nI s → gI M3 605 8 = nI q → gI M3 605 9 = 0 → G 185 [some (.ref 605), o1] [] M3 := by
    intro hsn' hl k
    have et : tokA t n s = (119, s, scF t n isWd s, false) := by
      unfold tokA
      rw [if_neg (by omega), if_pos hl]
    have stop : ∀ q, q ≤ n → scF t n isWd q = scF t n isWd s → ¬ (q < n ∧ isWd (t q) = true) → ∀ M3, FrC tkS M M3 → gI M3 605 6 = 0 → gI M3 605 7 = nI s → gI M3 605 8 = nI q → gI M3 605 9 = 0 → K none M3 := by
      intro q hq e y M3 f3 b6 b7 b8 b9
      refine fin M3 119 _ false et f3 b6 b7 (fun _ => ?_) b9
      rw [← e, scF_n t n _ y]; exact b8
    induction k with
    | zero =>
      intro q hk hq e M3 o1 f3 b6 b7 b8 b9
      have hT3 := hT.tk f3
      refine eX13_next_185 hc (f3.wf hW) ?_
      rw [b8, at_small hT3 (by omega), at_dig hT3 (by omega)]
      have q1 := (at_R hT3 (i := q) (by omega)).1
      exact ⟨q1, fun z => absurd z.1 (by omega), fun _ => ⟨q1, fun _ => stop q hq e (fun z => by omega) M3 f3 b6 b7 b8 b9, fun z => absurd z.1 (by omega)⟩⟩
    | succ k ih =>
      intro q hk hq e M3 o1 f3 b6 b7 b8 b9
      have hT3 := hT.tk f3
      have q1 := (at_R hT3 (i := q) (by omega)).1
      refine eX13_next_185 hc (f3.wf hW) ?_
      rw [b8, at_small hT3 (by omega), at_dig hT3 (by omega), nI_1]
      have go : isWd (t q) = true → G 185 [some (.ref 605), o1] [] (uI M3 605 8 (nI (q + 1))) := fun y =>
        ih (q + 1) (by omega) (by omega) (by rw [← e, scF_t t n _ (by omega) y]) _ _ (tk_i f3 (by decide)) (by rw [gI_uI, if_neg (by omega)]; exact b6) (by rw [gI_uI, if_neg (by omega)]; exact b7) (by rw [gI_uI, if_pos ⟨rfl, rfl⟩]) (by rw [gI_uI, if_neg (by omega)]; exact b9)
      refine ⟨q1, fun z => go (by unfold isWd; rw [z.2]; rfl), fun z => ⟨q1, fun y => stop q hq e (fun w => ?_) M3 f3 b6 b7 b8 b9, fun y => go (by unfold isWd; rw [y.2, Bool.or_true])⟩⟩
      have w2 := w.2
      unfold isWd at w2
      rw [Bool.or_eq_true] at w2
      exact w2.elim (fun v => z ⟨w.1, v⟩) (fun v => y ⟨w.1, v⟩)
  -- numbers
  have nl : s < n → ¬ isLet (t s) = true → (isDig (t s) = true ∨ (t s = 45 ∧ isDig (bN t n (s + 1)) = true)) → ∀ k q : Nat, n - q = k → q ≤ n → scF t n isDig q = scF t n isDig (s + 1) → ∀ (M3 : Mem) (o1 : Option Value), FrC tkS M M3 → gI M3 605 6 = 1 → gI M3 605 7 = nI s → gI M3 605 8 = nI q → gI M3 605 9 = 0 → G 270 [some (.ref 605), o1] [] M3 := by
    intro hsn' hl hd k
    have et : tokA t n s = (110, s, scF t n isDig (s + 1), false) := by
      unfold tokA
      rw [if_neg (by omega), if_neg hl, if_pos hd]
    have stop : ∀ q, q ≤ n → scF t n isDig q = scF t n isDig (s + 1) → ¬ (q < n ∧ isDig (t q) = true) → ∀ M3, FrC tkS M M3 → gI M3 605 6 = 1 → gI M3 605 7 = nI s → gI M3 605 8 = nI q → gI M3 605 9 = 0 → K none M3 := by
      intro q hq e y M3 f3 b6 b7 b8 b9
      refine fin M3 110 _ false et f3 b6 b7 (fun _ => ?_) b9
      rw [← e, scF_n t n _ y]; exact b8
    induction k with
    | zero =>
      intro q hk hq e M3 o1 f3 b6 b7 b8 b9
      have hT3 := hT.tk f3
      refine eX13_next_270 hc (f3.wf hW) ?_
      rw [b8, at_dig hT3 (by omega)]
      have q1 := (at_R hT3 (i := q) (by omega)).1
      exact ⟨q1, fun _ => stop q hq e (fun z => by omega) M3 f3 b6 b7 b8 b9, fun z => absurd z.1 (by omega)⟩
    | succ k ih =>
      intro q hk hq e M3 o1 f3 b6 b7 b8 b9
      have hT3 := hT.tk f3
      have q1 := (at_R hT3 (i := q) (by omega)).1
      refine eX13_next_270 hc (f3.wf hW) ?_
      rw [b8, at_dig hT3 (by omega), nI_1]
      refine ⟨q1, fun y => stop q hq e y M3 f3 b6 b7 b8 b9, fun y => ?_⟩
      exact ih (q + 1) (by omega) (by omega) (by rw [← e, scF_t t n _ (by omega) y.2]) _ _ (tk_i f3 (by decide)) (by rw [gI_uI, if_neg (by omega)]; exact b6) (by rw [gI_uI, if_neg (by omega)]; exact b7) (by rw [gI_uI, if_pos ⟨rfl, rfl⟩]) (by rw [gI_uI, if_neg (by omega)]; exact b9)
  -- remarks
  have rl : s < n → t s = 59 → ∀ k q : Nat, n - q = k → q ≤ n → scF t n noLf q = scF t n noLf s → ∀ (M3 : Mem) (o1 : Option Value), FrC tkS M M3 → gI M3 605 6 = 3 → gI M3 605 7 = nI s → gI M3 605 8 = nI q → gI M3 605 9 = 0 → G 88 [some (.ref 605), o1] [] M3 := by
    intro hsn' h59 k
    have et : tokA t n s = if scF t n noLf s < n then (101, s, scF t n noLf s + 1, false) else (101, s, scF t n noLf s, true) := by
      unfold tokA
      rw [if_neg (by omega), if_neg (by rw [h59]; decide), if_neg (by rw [h59]; intro z; exact z.elim (by decide) (fun y => absurd y.1 (by decide))), if_neg (by omega), if_pos (Or.inr h59)]
    have stop : ∀ q, q ≤ n → scF t n noLf q = scF t n noLf s → ¬ (q < n ∧ noLf (t q) = true) → ∀ (M3 : Mem) (o1 : Option Value), FrC tkS M M3 → gI M3 605 6 = 3 → gI M3 605 7 = nI s → gI M3 605 8 = nI q → gI M3 605 9 = 0 → (gI M3 605 8 < gI M3 605 5 → G 143 [some (.ref 605), o1] [.int 0, .ref 605] M3) ∧ (¬ gI M3 605 8 < gI M3 605 5 → G 143 [some (.ref 605), o1] [.int 1, .ref 605] M3) := by
      intro q hq e y M3 o1 f3 b6 b7 b8 b9
      have hT3 := hT.tk f3
      rw [← e, scF_n t n _ y] at et
      rw [hT3.2.1, b8, nI_ltI (by omega) (by omega)]
      have f4 : ∀ x y, FrC tkS M (uI (uI M3 605 9 x) 605 8 y) := fun x y => tk_i (tk_i f3 (by decide)) (by decide)
      have c6 : ∀ x y, gI (uI (uI M3 605 9 x) 605 8 y) 605 6 = 3 := fun x y => by rw [gI_uI, if_neg (by omega), gI_uI, if_neg (by omega)]; exact b6
      have c7 : ∀ x y, gI (uI (uI M3 605 9 x) 605 8 y) 605 7 = nI s := fun x y => by rw [gI_uI, if_neg (by omega), gI_uI, if_neg (by omega)]; exact b7
      have c8 : ∀ x y, gI (uI (uI M3 605 9 x) 605 8 y) 605 8 = y := fun x y => by rw [gI_uI, if_pos ⟨rfl, rfl⟩]
      have c9 : ∀ x y, gI (uI (uI M3 605 9 x) 605 8 y) 605 9 = x := fun x y => by rw [gI_uI, if_neg (by omega), gI_uI, if_pos ⟨rfl, rfl⟩]
      refine ⟨fun z => eX13_next_143 hc (f3.wf hW) ⟨Or.inl rfl, fun _ => ?_, fun w => absurd rfl w⟩, fun z => eX13_next_143 hc (f3.wf hW) ⟨Or.inr rfl, fun w => absurd w (by decide), fun _ => ?_⟩⟩
      · rw [if_pos z] at et
        rw [b8, nI_1]
        exact fin _ 101 _ false et (f4 _ _) (c6 _ _) (c7 _ _) (fun _ => c8 _ _) (c9 _ _)
      · rw [if_neg z] at et
        rw [b8]
        exact fin _ 101 _ true et (f4 _ _) (c6 _ _) (c7 _ _) (fun _ => c8 _ _) (c9 _ _)
    induction k with
    | zero =>
      intro q hk hq e M3 o1 f3 b6 b7 b8 b9
      have hT3 := hT.tk f3
      have st := stop q hq e (fun z => by omega) M3 o1 f3 b6 b7 b8 b9
      refine eX13_next_88 hc (f3.wf hW) ⟨fun _ => st, fun z => absurd ?_ z⟩
      rw [hT3.2.1, b8]; exact nI_le (by omega) (by omega)
    | succ k ih =>
      intro q hk hq e M3 o1 f3 b6 b7 b8 b9
      have hT3 := hT.tk f3
      obtain ⟨d1, d2⟩ := hT3.2.2 q (by omega)
      refine eX13_next_88 hc (f3.wf hW) ⟨fun z => ?_, fun _ => ?_⟩
      · rw [hT3.2.1, b8, nI_leI (by omega) (by omega)] at z
        omega
      · have e10 : gI M3 608 (gI M3 605 8).toNatClampNeg = 10 ↔ t q = 10 := by
          rw [b8, nI_clamp (by omega), d1]
          exact sg_eq (v := 10) d2 (by decide)
        rw [e10]
        refine ⟨by rw [b8]; exact vpN (by omega) (by decide), fun z => stop q hq e (fun w => noLf_i.mp w.2 z) M3 o1 f3 b6 b7 b8 b9, fun z => ?_⟩
        rw [b8, nI_1]
        exact ih (q + 1) (by omega) (by omega) (by rw [← e, scF_t t n _ (by omega) (noLf_i.mpr z)]) _ _ (tk_i f3 (by decide)) (by rw [gI_uI, if_neg (by omega)]; exact b6) (by rw [gI_uI, if_neg (by omega)]; exact b7) (by rw [gI_uI, if_pos ⟨rfl, rfl⟩]) (by rw [gI_uI, if_neg (by omega)]; exact b9)
  obtain ⟨q1, q2⟩ := at_R hT2 (i := s) (by omega)
  obtain ⟨q3, q4⟩ := at_R hT2 (i := s + 1) (by omega)
  have hd1 := at_dig hT2 (i := s + 1) (by omega)
  rw [nI_1, hT.2.1, nI_ltI (by omega) (by omega)]
  refine ⟨q1, fun y1 hy1 => ⟨fun hsl => ?_, fun hsl => ?_⟩⟩
  · rw [q2, if_pos hsl] at hy1
    have hb := (hT2.2.2 s hsl).2
    subst hy1
    have e10 : sgB (t s) = 10 ↔ t s = 10 := sg_eq (v := 10) hb (by decide)
    have e59 : sgB (t s) = 59 ↔ t s = 59 := sg_eq (v := 59) hb (by decide)
    have e45 : sgB (t s) = 45 ↔ t s = 45 := sg_eq (v := 45) hb (by decide)
    have e44 : sgB (t s) = 44 ↔ t s = 44 := sg_eq (v := 44) hb (by decide)
    have e58 : sgB (t s) = 58 ↔ t s = 58 := sg_eq (v := 58) hb (by decide)
    have e63 : sgB (t s) = 63 ↔ t s = 63 := sg_eq (v := 63) hb (by decide)
    rw [e10, e59, e45, sg_small hb, sg_dig hb, hd1, ← bN_dig]
    have s6 : ∀ x y, gI (uI (uI M2 605 6 x) 605 8 y) 605 6 = x := fun x y => by rw [gI_uI, if_neg (by omega), gI_uI, if_pos ⟨rfl, rfl⟩]
    have s7 : ∀ x y, gI (uI (uI M2 605 6 x) 605 8 y) 605 7 = nI s := fun x y => by rw [gI_uI, if_neg (by omega), gI_uI, if_neg (by omega)]; exact g7
    have s8 : ∀ x y, gI (uI (uI M2 605 6 x) 605 8 y) 605 8 = y := fun x y => by rw [gI_uI, if_pos ⟨rfl, rfl⟩]
    have s9 : ∀ x y, gI (uI (uI M2 605 6 x) 605 8 y) 605 9 = 0 := fun x y => by rw [gI_uI, if_neg (by omega), gI_uI, if_neg (by omega)]; exact g9
    have sf : ∀ x y, FrC tkS M (uI (uI M2 605 6 x) 605 8 y) := fun x y => tk_i (tk_i f2 (by decide)) (by decide)
    have num : ¬ isLet (t s) = true → (isDig (t s) = true ∨ (t s = 45 ∧ isDig (bN t n (s + 1)) = true)) → G 270 [some (.ref 605), some (.int (sgB (t s)))] [] (uI (uI M2 605 6 1) 605 8 (nI (s + 1))) := fun z1 z2 =>
      nl hsl z1 z2 _ (s + 1) rfl (by omega) rfl _ _ (sf _ _) (s6 _ _) (s7 _ _) (s8 _ _) (s9 _ _)
    have rest : ¬ isLet (t s) = true → ¬ (isDig (t s) = true ∨ (t s = 45 ∧ isDig (bN t n (s + 1)) = true)) → ¬ t s = 10 → ¬ t s = 59 → G 297 [some (.ref 605), some (.int (sgB (t s)))] [] M2 := fun z1 z2 z3 z4 => by
      refine eX13_next_297 hc (f2.wf hW) ?_
      rw [e44, e58, e63, g7, nI_1]
      have sg : (t s = 44 ∨ t s = 58 ∨ t s = 63) → K none (uI (uI M2 605 6 2) 605 8 (nI (s + 1))) := fun y => by
        refine fin _ (t s) (s + 1) false ?_ (sf _ _) (by rw [s6]; unfold srt; rw [if_neg (by omega), if_neg (by omega), if_pos y]; rfl) (s7 _ _) (fun _ => s8 _ _) (s9 _ _)
        unfold tokA
        rw [if_neg (by omega), if_neg z1, if_neg z2, if_pos y]
      refine ⟨fun y => sg (Or.inl y), fun y1 => ⟨fun y => sg (Or.inr (Or.inl y)), fun y2 => ⟨fun y3 => ?_, fun y => sg (Or.inr (Or.inr y))⟩⟩⟩
      refine fin _ 98 s false ?_ (sf _ _) (s6 _ _) (s7 _ _) (fun y => absurd rfl y) (s9 _ _)
      unfold tokA
      rw [if_neg (by omega), if_neg z1, if_neg z2, if_neg (by omega), if_neg (by omega)]
    refine ⟨fun n10 => ⟨fun n59 => ⟨fun z1 => ⟨fun z2 => num z1 (Or.inl z2), fun z2 => ⟨fun z3 => rest z1 (fun y => y.elim z2 (fun w => z3 w.1)) n10 n59, fun z3 => ⟨q3, fun z4 => rest z1 (fun y => y.elim z2 (fun w => z4 w.2)) n10 n59, fun z4 => num z1 (Or.inr ⟨z3, z4⟩)⟩⟩⟩, fun z1 => ?_⟩, fun y59 => ?_⟩, fun y10 => ?_⟩
    · exact wl hsl z1 _ s rfl (by omega) rfl _ _ (tk_i f2 (by decide)) (by rw [gI_uI, if_pos ⟨rfl, rfl⟩]) (by rw [gI_uI, if_neg (by omega)]; exact g7) (by rw [gI_uI, if_neg (by omega)]; exact g8) (by rw [gI_uI, if_neg (by omega)]; exact g9)
    · exact rl hsl y59 _ s rfl (by omega) rfl _ _ (tk_i f2 (by decide)) (by rw [gI_uI, if_pos ⟨rfl, rfl⟩]) (by rw [gI_uI, if_neg (by omega)]; exact g7) (by rw [gI_uI, if_neg (by omega)]; exact g8) (by rw [gI_uI, if_neg (by omega)]; exact g9)
    · refine fin _ 101 (s + 1) false ?_ (sf _ _) (s6 _ _) (s7 _ _) (fun _ => s8 _ _) (s9 _ _)
      have es : scF t n noLf s = s := scF_n t n _ (fun z => noLf_i.mp z.2 y10)
      unfold tokA
      rw [if_neg (by omega), if_neg (by rw [y10]; decide), if_neg (by rw [y10]; intro z; exact z.elim (by decide) (fun y => absurd y.1 (by decide))), if_neg (by omega), if_pos (Or.inl y10), es, if_pos hsl]
  · have et : tokA t n s = (101, s, s, true) := by unfold tokA; rw [if_pos (by omega)]
    refine fin _ 101 s true et (tk_i (tk_i f2 (by decide)) (by decide)) (by rw [gI_uI, if_neg (by omega), gI_uI, if_pos ⟨rfl, rfl⟩]; rfl) (by rw [gI_uI, if_neg (by omega), gI_uI, if_neg (by omega)]; exact g7) (fun _ => by rw [gI_uI, if_neg (by omega), gI_uI, if_neg (by omega)]; exact g8) (by rw [gI_uI, if_pos ⟨rfl, rfl⟩]; rfl)
end
end RTOK
