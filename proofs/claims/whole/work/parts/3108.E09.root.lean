section ROOT13
theorem log_mul {c j : Nat} (h : 0 < c) : (c * 2 ^ j).log2 = c.log2 + j := by
  have h1 := log_lo h
  have h2 := log_hi c
  refine log2_of ?_ ?_
  · rw [Nat.pow_add]; exact Nat.mul_le_mul_right _ h1
  · rw [show c.log2 + j + 1 = c.log2 + 1 + j by omega, Nat.pow_add]; exact Nat.mul_lt_mul_of_pos_right h2 (Nat.two_pow_pos j)
theorem log_52 {c : Nat} (h0 : 0 < c) (h1 : c < 2 ^ 53) : c.log2 ≤ 52 := by
  have := (Nat.log2_lt (by omega)).mpr h1
  omega
/-- an exact double -/
theorem pm_ex6 {c : Nat} {e : Int} (h0 : 0 < c) (h1 : c < 2 ^ 53) (he : -1074 ≤ e) (hL : (c.log2 : Int) + e ≤ 1023) : pm (fm 6) c e < iN 6 ∧ 0 < pm (fm 6) c e ∧ ∃ j : Nat, sgN (fm 6) (pm (fm 6) c e) = c * 2 ^ j ∧ exN (fm 6) (pm (fm 6) c e) = e - j := by
  have hl := log_52 h0 h1
  have l1 := log_lo h0
  have l2 := log_hi c
  obtain ⟨j, hj⟩ : ∃ j : Nat, j = min (52 - c.log2) (e + 1074).toNat := ⟨_, rfl⟩
  have hx : (-1074 : Int) + ((e - (j : Int) - -1074).toNat : Nat) = e - j := by omega
  have hq : rq (fm 6) c e = e - j := by
    rw [rq_is (fb := 52) (by decide +kernel), q6]; omega
  have c2 : c * 2 ^ j < 2 ^ 53 := by
    calc c * 2 ^ j < 2 ^ (c.log2 + 1) * 2 ^ j := Nat.mul_lt_mul_of_pos_right l2 (Nat.two_pow_pos _)
      _ = 2 ^ (c.log2 + 1 + j) := by rw [← Nat.pow_add]
      _ ≤ 2 ^ 53 := pow2_le (by omega)
  have c0 : 0 < c * 2 ^ j := Nat.mul_pos h0 (Nat.two_pow_pos _)
  have hd : (e - (j : Int) - (fm 6).qmin).toNat = 0 ∨ 2 ^ 52 ≤ c * 2 ^ j := by
    rw [q6]
    rcases Nat.lt_or_ge (52 - c.log2) (e + 1074).toNat with z | z
    · right
      have ej : j = 52 - c.log2 := by omega
      rw [ej]
      calc 2 ^ 52 = 2 ^ c.log2 * 2 ^ (52 - c.log2) := by rw [← Nat.pow_add]; congr 1; omega
        _ ≤ _ := Nat.mul_le_mul_right _ l1
    · left; omega
  have hQ : (e - (j : Int) - (fm 6).qmin).toNat ≤ 2045 := by rw [q6]; omega
  have hb : (e - (j : Int) - (fm 6).qmin).toNat * (fm 6).tails + c * 2 ^ j < iN 6 := by
    rw [t6, iN6]
    generalize (e - (j : Int) - (fm 6).qmin).toNat = Q at hQ
    have : Q * 2 ^ 52 ≤ 2045 * 2 ^ 52 := Nat.mul_le_mul_right _ hQ
    omega
  have hp := pm_fit h0 hq (by unfold iN at hb; omega)
  obtain ⟨g1, g2⟩ := sgex (F := fm 6) (q := (e - (j : Int) - (fm 6).qmin).toNat) (c := c * 2 ^ j) (zfT 6 rk6) (by rw [t6]; omega) (by rw [t6]; exact hd)
  refine ⟨by rw [hp]; exact hb, by rw [hp]; omega, j, by rw [hp]; exact g1, ?_⟩
  rw [hp, g2, q6]
  exact hx
def okP (c : Nat) (e : Int) : Prop := 0 < c ∧ c < 2 ^ 53 ∧ -1074 ≤ e ∧ (c.log2 : Int) + e ≤ 1023
theorem okP.ex {c : Nat} {e : Int} (h : okP c e) : pm (fm 6) c e < iN 6 ∧ 0 < pm (fm 6) c e ∧ ∃ j : Nat, sgN (fm 6) (pm (fm 6) c e) = c * 2 ^ j ∧ exN (fm 6) (pm (fm 6) c e) = e - j := pm_ex6 h.1 h.2.1 h.2.2.1 h.2.2.2
/-- the double c 2^e -/
def pX (c : Nat) (e : Int) : UInt64 := X6 false (pm (fm 6) c e)
theorem mul_pp {c d : Nat} {e f : Int} (h : okP c e) (h' : okP d f) : FP.dmul (pX c e) (pX d f) = X6 false (pm (fm 6) (c * d) (e + f)) := by
  obtain ⟨a1, a2, j, a3, a4⟩ := h.ex
  obtain ⟨b1, b2, i, b3, b4⟩ := h'.ex
  have e1 : FP.dmul (pX c e) (pX d f) = X6 (false != false) (muM 6 (pm (fm 6) c e) (pm (fm 6) d f)) := d6 (f := FP.Core.mul FP.Core.b64) (tn6 (Nat.le_of_lt a1)) (tn6 (Nat.le_of_lt b1)) (by rw [← fmt6]; exact mul_eb rk6 a1 b1)
  have e2 : muM 6 (pm (fm 6) c e) (pm (fm 6) d f) = pm (fm 6) (c * d) (e + f) := by
    unfold muM
    rw [a3, a4, b3, b4, show c * 2 ^ j * (d * 2 ^ i) = c * d * 2 ^ (j + i) by rw [Nat.pow_add]; grind, pm_scale rk6]
    congr 1
    omega
  rw [e1, e2]
  rfl
theorem log_1 : Nat.log2 1 = 0 := by decide +kernel
theorem mul_p1 {c : Nat} {e f : Int} (h : okP c e) (hf : -1074 ≤ f ∧ f ≤ 1023) : FP.dmul (pX c e) (pX 1 f) = pX c (e + f) := by
  rw [mul_pp h ⟨by decide, by decide, hf.1, by rw [log_1]; omega⟩, Nat.mul_one]
  rfl
theorem vf_p {c : Nat} {e : Int} : vf_n64 (pX c e) := vf6 pm_le
theorem zu_p {c : Nat} {e : Int} (h : okP c e) : zuN 6 (pm (fm 6) c e) = c * 2 ^ (e + 1074).toNat := by
  obtain ⟨a1, a2, j, a3, a4⟩ := h.ex
  have hx := (ex_rng rk6 (Nat.le_of_lt a1)).1
  rw [a4] at hx
  unfold zuN
  rw [a3, a4, Nat.mul_assoc, ← Nat.pow_add]
  congr 2
  omega
theorem cmp_p {c : Nat} {e f : Int} (h : okP c e) (hf : -1074 ≤ f ∧ f ≤ 1023) {op : CmpOp} : 0 ≤ cmpValue (FP.dcmp (pX c e) (pX 1 f)) op ↔ f ≤ (c.log2 : Int) + e := by
  have h' : okP 1 f := ⟨by decide, by decide, hf.1, by rw [log_1]; omega⟩
  show 0 ≤ cmpValue (FP.dcmp (X6 false (pm (fm 6) c e)) (X6 false (pm (fm 6) 1 f))) op ↔ _
  rw [dcmp_X h.ex.1 h'.ex.1, cv_ge]
  unfold vI FP.Core.signed
  rw [zu_p h, zu_p h', Nat.one_mul]
  simp only [Bool.false_eq_true, if_false]
  have hc := h.1
  have h3 := h.2.2.1
  have hl := log_mul (j := (e + 1074).toNat) hc
  have hp : 0 < c * 2 ^ (e + 1074).toNat := Nat.mul_pos hc (Nat.two_pow_pos _)
  have l1 := log_lo hp
  have l2 := log_hi (c * 2 ^ (e + 1074).toNat)
  rw [hl] at l1 l2
  generalize c * 2 ^ (e + 1074).toNat = A at *
  constructor
  · intro q
    have q : 2 ^ (f + 1074).toNat ≤ A := by omega
    have := (Nat.pow_lt_pow_iff_right (show 1 < 2 by decide)).mp (Nat.lt_of_le_of_lt q l2)
    omega
  · intro q
    have : 2 ^ (f + 1074).toNat ≤ 2 ^ (c.log2 + (e + 1074).toNat) := pow2_le (by omega)
    have := Nat.le_trans this l1
    omega
theorem k_4 : (4616189618054758400 : UInt64) = pX 1 2 := by decide +kernel
theorem k_h : (4602678819172646912 : UInt64) = pX 1 (-1) := by decide +kernel
theorem k_q : (4598175219545276416 : UInt64) = pX 1 (-2) := by decide +kernel
theorem k_2 : (4611686018427387904 : UInt64) = pX 1 1 := by decide +kernel
theorem k_52 : (4841369599423283200 : UInt64) = pX 1 52 := by decide +kernel
theorem k_1 : FP.dconst1 = pX 1 0 := by decide +kernel
theorem c32_lt0 {x : Int32} : x < 0 ↔ ¬ 0 ≤ x := i32_lt0 x
theorem okP_1 {E : Int} (h : -1074 ≤ E ∧ E ≤ 1023) : okP 1 E := ⟨by decide, by decide, h.1, by rw [log_1]; omega⟩
/-- m is brought into 1 .. 4 -/
theorem root_up {G : Nat → KT} {K : RT} (hc : cloX13_root G K wT) {M : Mem} (hW : Wf M) {o0 o6 o7 o8 o9 o10 o11 o12 o13 o14 : Option Value} {c : Nat} {L : Int} (hL : -1074 ≤ L ∧ L ≤ 971)
    (h : ∀ (e E : Int) (o1 : Option Value), okP c e → 0 ≤ (c.log2 : Int) + e → e + 2 * E = L → G 28 [o0, o1, some (.double (pX c e)), none, some (.double (pX 1 E)), none, o6, o7, o8, o9, o10, o11, o12, o13, o14] [] M) :
    ∀ (z : Nat) (e E : Int) (o1 : Option Value), (-((c.log2 : Int) + e)).toNat ≤ z → okP c e → e + 2 * E = L → G 5 [o0, o1, some (.double (pX c e)), none, some (.double (pX 1 E)), none, o6, o7, o8, o9, o10, o11, o12, o13, o14] [] M := by
  intro z
  induction z with
  | zero =>
    intro e E o1 hz hp he
    refine eX13_root_5 hc hW ?_
    rw [k_1, cmp_p hp (by decide)]
    exact ⟨fun q => h e E o1 hp q he, fun q => absurd (by omega) q⟩
  | succ z ih =>
    intro e E o1 hz hp he
    obtain ⟨p1, p2, p3, p4⟩ := hp
    have hp : okP c e := ⟨p1, p2, p3, p4⟩
    refine eX13_root_5 hc hW ?_
    rw [k_1, cmp_p hp (by decide)]
    refine ⟨fun q => h e E o1 hp q he, fun q => ?_⟩
    rw [k_4, k_h, mul_p1 hp (by decide), mul_p1 (okP_1 ⟨by omega, by omega⟩) (by decide)]
    refine ⟨vf_p, fun y1 hy1 => ⟨vf_p, fun y2 hy2 => ?_⟩⟩
    rw [hy1, hy2]
    exact ih (e + 2) (E + -1) _ (by omega) ⟨p1, p2, by omega, by omega⟩ (by omega)
theorem root_dn {G : Nat → KT} {K : RT} (hc : cloX13_root G K wT) {M : Mem} (hW : Wf M) {o0 o6 o7 o8 o9 o10 o11 o12 o13 o14 : Option Value} {c : Nat} {L : Int} (hL : -1074 ≤ L ∧ L ≤ 971)
    (h : ∀ (e E : Int) (o1 : Option Value), okP c e → 0 ≤ (c.log2 : Int) + e → (c.log2 : Int) + e < 2 → e + 2 * E = L → vf_n64 (FP.dmul (pX c e) (pX 1 52)) ∧ G 71 [o0, o1, some (.double (pX c e)), none, some (.double (pX 1 E)), none, some (.long (FP.d2l (FP.dmul (pX c e) (pX 1 52)))), none, some (.long (0 : Int64)), none, some (.long (0 : Int64)), none, some (.int (52 : Int32)), o13, o14] [] M) :
    ∀ (z : Nat) (e E : Int) (o1 : Option Value), ((c.log2 : Int) + e - 1).toNat ≤ z → 0 ≤ (c.log2 : Int) + e → okP c e → e + 2 * E = L → G 28 [o0, o1, some (.double (pX c e)), none, some (.double (pX 1 E)), none, o6, o7, o8, o9, o10, o11, o12, o13, o14] [] M := by
  intro z
  induction z with
  | zero =>
    intro e E o1 hz h0 hp he
    refine eX13_root_28 hc hW ?_
    rw [k_4, k_52, c32_lt0, cmp_p hp (by decide)]
    obtain ⟨a, b⟩ := h e E o1 hp h0 (by omega) he
    exact ⟨fun q => ⟨a, fun y3 hy3 => by rw [hy3]; exact b⟩, fun q => absurd (by omega) q⟩
  | succ z ih =>
    intro e E o1 hz h0 hp he
    obtain ⟨p1, p2, p3, p4⟩ := hp
    have hp : okP c e := ⟨p1, p2, p3, p4⟩
    have hl := log_52 p1 p2
    refine eX13_root_28 hc hW ?_
    rw [k_4, k_52, c32_lt0, cmp_p hp (by decide), k_q, k_2]
    refine ⟨fun q => ?_, fun q => ?_⟩
    · obtain ⟨a, b⟩ := h e E o1 hp h0 (by omega) he
      exact ⟨a, fun y3 hy3 => by rw [hy3]; exact b⟩
    · have q := Classical.not_not.mp q
      rw [mul_p1 hp (by decide), mul_p1 (okP_1 ⟨by omega, by omega⟩) (by decide)]
      refine ⟨vf_p, fun y1 hy1 => ⟨vf_p, fun y2 hy2 => ?_⟩⟩
      rw [hy1, hy2]
      exact ih (e + -2) (E + 1) _ (by omega) (by omega) ⟨p1, p2, by omega, by omega⟩ (by omega)
end ROOT13
