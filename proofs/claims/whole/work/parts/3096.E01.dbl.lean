section DBL1
theorem sgex {F : FP.Core.Fmt} {q c : Nat} (hT : 0 < F.tails) (h : c < 2 * F.tails) (h2 : q = 0 ∨ F.tails ≤ c) : sgN F (q * F.tails + c) = c ∧ exN F (q * F.tails + c) = F.qmin + q := by
  rcases Nat.lt_or_ge c F.tails with hc | hc
  · have hq : q = 0 := by omega
    subst hq
    have e : 0 * F.tails + c = c := by omega
    rw [e]
    unfold sgN exN
    rw [Nat.div_eq_of_lt hc, if_pos rfl, Nat.mod_eq_of_lt hc]
    exact ⟨rfl, rfl⟩
  · have e : q * F.tails + c = (c - F.tails) + F.tails * (q + 1) := by rw [Nat.mul_add, Nat.mul_one, Nat.mul_comm]; omega
    have hd : (q * F.tails + c) / F.tails = q + 1 := by rw [e, Nat.add_mul_div_left _ _ hT, Nat.div_eq_of_lt (by omega)]; omega
    have hm : (q * F.tails + c) % F.tails = c - F.tails := by rw [e, Nat.add_mul_mod_self_left, Nat.mod_eq_of_lt (by omega)]
    unfold sgN exN
    rw [hd, hm, if_neg (by omega)]
    exact ⟨by omega, by rw [Nat.add_sub_cancel]⟩
theorem pm_fit {F : FP.Core.Fmt} {m j : Nat} {e : Int} (hm : 0 < m) (hq : rq F m e = e - j) (hlt : (e - j - F.qmin).toNat * F.tails + m * 2 ^ j ≤ (F.exps - 1) * F.tails) : pm F m e = (e - j - F.qmin).toNat * F.tails + m * 2 ^ j := by
  unfold pm rmag rc
  rw [if_neg (by omega), hq, show (e - (e - (j : Int))).toNat = j by omega, show (e - (j : Int) - e).toNat = 0 by omega, Nat.pow_zero, nr_one]
  omega
theorem zfT (k : Int32) (hk : isRk k) : 0 < (fm k).tails := by
  obtain ⟨fb, f1, f2, f3, f4, f5, f6, f7, f8, f9, f10, f11, f12, f13⟩ := FKof hk
  rw [f4]; exact Nat.two_pow_pos fb
theorem rq_is {F : FP.Core.Fmt} {fb m : Nat} {e : Int} (hp : F.p = fb + 1) : rq F m e = max F.qmin ((m.log2 : Int) + e - fb) := by
  unfold rq
  rw [hp]
  congr 1
  omega
theorem pm_self {k : Int32} (hk : isRk k) {n : Nat} (hn : n < iN k) : pm (fm k) (sgN (fm k) n) (exN (fm k) n) = n := by
  obtain ⟨fb, f1, f2, f3, f4, f5, f6, f7, f8, f9, f10, f11, f12, f13⟩ := FKof hk
  have hT := zfT k hk
  have hz := sg_z hk hn
  by_cases h0 : n = 0
  · rw [hz.mpr h0, h0]; exact if_pos rfl
  have hs : 0 < sgN (fm k) n := Nat.pos_of_ne_zero (fun z => h0 (hz.mp z))
  have hlt : sgN (fm k) n < 2 * (fm k).tails := sg_lt
  have hL : (sgN (fm k) n).log2 ≤ fb := by
    have := (Nat.log2_lt (by omega)).mpr (show sgN (fm k) n < 2 ^ (fb + 1) by rw [Nat.pow_succ, ← f4]; omega)
    omega
  have hq : rq (fm k) (sgN (fm k) n) (exN (fm k) n) = exN (fm k) n - (0 : Nat) := by
    rw [rq_is f5]
    have hge : (fm k).qmin ≤ exN (fm k) n := by unfold exN; omega
    by_cases h1 : (fm k).qmin < exN (fm k) n
    · have h2 : (fm k).tails ≤ sgN (fm k) n := sg_norm h1
      have : (sgN (fm k) n).log2 = fb := log2_of (by rw [← f4]; exact h2) (by rw [Nat.pow_succ, ← f4]; omega)
      omega
    · omega
  have hN : (exN (fm k) n - (0 : Nat) - (fm k).qmin).toNat * (fm k).tails + sgN (fm k) n * 2 ^ 0 = n := by
    have hdm := Nat.div_add_mod n (fm k).tails
    unfold exN sgN
    rw [Nat.pow_zero, Nat.mul_one]
    by_cases h1 : n / (fm k).tails = 0
    · rw [if_pos h1, h1]
      rw [h1, Nat.mul_zero, Nat.zero_add] at hdm
      rw [show ((fm k).qmin + ((0 - 1 : Nat) : Int) - (0 : Nat) - (fm k).qmin).toNat = 0 by omega]
      omega
    · rw [if_neg h1, show ((fm k).qmin + ((n / (fm k).tails - 1 : Nat) : Int) - (0 : Nat) - (fm k).qmin).toNat = n / (fm k).tails - 1 by omega]
      have hh : ∀ d t : Nat, d ≠ 0 → (d - 1) * t + t = d * t := fun d t h => by rw [← Nat.succ_mul]; congr 1; omega
      have := hh _ (fm k).tails h1
      rw [Nat.mul_comm] at hdm
      omega
  rw [pm_fit hs hq (by rw [hN]; unfold iN at hn; omega), hN]
/-- scaling -/
theorem pm_scale {k : Int32} (hk : isRk k) {m j : Nat} {e : Int} : pm (fm k) (m * 2 ^ j) e = pm (fm k) m (e + j) := by
  have h := rr_num (f := fm k) (s := false) (num := m) (den := 1) (j := j) (e := e) (by decide)
  have h1 := enc_eb hk (s := false) (m := m * 2 ^ j) (e := e)
  have h2 := enc_eb hk (s := false) (m := m) (e := e + j)
  rw [h, h2] at h1
  unfold eb at h1
  omega
/-- a float's magnitude as a double's -/
def wid (n : Nat) : Nat := if n < iN 5 then pm (fm 6) (sgN (fm 5) n) (exN (fm 5) n) else iN 6
theorem rk5 : isRk 5 := Or.inl rfl
theorem rk6 : isRk 6 := Or.inr rfl
theorem wid_0 : wid 0 = 0 := by
  unfold wid
  rw [if_pos (by rw [iN5]; decide), (sg_z rk5 (by rw [iN5]; decide)).mpr rfl]
  exact if_pos rfl
theorem q5 : (fm 5).qmin = -149 := by decide +kernel
theorem q6 : (fm 6).qmin = -1074 := by decide +kernel
theorem t5 : (fm 5).tails = 2 ^ 23 := by decide +kernel
theorem t6 : (fm 6).tails = 2 ^ 52 := by decide +kernel
theorem x5 : (fm 5).exps = 256 := by decide +kernel
theorem x6 : (fm 6).exps = 2048 := by decide +kernel
theorem wid_at {n : Nat} (h0 : 0 < n) (hn : n < iN 5) : ∃ j : Nat, sgN (fm 6) (wid n) = sgN (fm 5) n * 2 ^ j ∧ exN (fm 6) (wid n) = exN (fm 5) n - j ∧ 0 < wid n ∧ wid n < iN 6 := by
  have hs : 0 < sgN (fm 5) n := Nat.pos_of_ne_zero (fun z => by have := (sg_z rk5 hn).mp z; omega)
  have hlt : sgN (fm 5) n < 2 * 2 ^ 23 := by have := sg_lt (F := fm 5) (n := n); rw [t5] at this; exact this
  have hL : (sgN (fm 5) n).log2 ≤ 23 := by
    have := (Nat.log2_lt (by omega)).mpr (show sgN (fm 5) n < 2 ^ 24 by omega)
    omega
  have he1 : -149 ≤ exN (fm 5) n := by unfold exN; rw [q5]; omega
  have he2 := (ex_rng rk5 (Nat.le_of_lt hn)).2
  have he3 : exN (fm 5) n ≤ 105 := by
    have hd : n / (fm 5).tails ≤ 255 := Nat.div_le_of_le_mul (by rw [t5]; rw [iN5] at hn; omega)
    unfold exN; rw [q5]; omega
  unfold wid
  rw [if_pos hn]
  generalize exN (fm 5) n = e at he1 he3 ⊢
  generalize sgN (fm 5) n = m at hs hlt hL ⊢
  have l1 := log_lo hs
  have l2 := log_hi m
  have hq : rq (fm 6) m e = e - ((52 - m.log2 : Nat) : Int) := by
    rw [rq_is (fb := 52) (by decide +kernel), q6]; omega
  have c1 : 2 ^ 52 ≤ m * 2 ^ (52 - m.log2) := by
    calc 2 ^ 52 = 2 ^ m.log2 * 2 ^ (52 - m.log2) := by rw [← Nat.pow_add]; congr 1; omega
      _ ≤ _ := Nat.mul_le_mul_right _ l1
  have c2 : m * 2 ^ (52 - m.log2) < 2 ^ 53 := by
    calc m * 2 ^ (52 - m.log2) < 2 ^ (m.log2 + 1) * 2 ^ (52 - m.log2) := Nat.mul_lt_mul_of_pos_right l2 (Nat.two_pow_pos _)
      _ = 2 ^ 53 := by rw [← Nat.pow_add]; congr 1; omega
  have hQ : (e - ((52 - m.log2 : Nat) : Int) - (-1074)).toNat ≤ 1300 := by omega
  have hb : (e - ((52 - m.log2 : Nat) : Int) - (fm 6).qmin).toNat * (fm 6).tails + m * 2 ^ (52 - m.log2) < iN 6 := by
    rw [q6, t6, iN6]
    generalize (e - ((52 - m.log2 : Nat) : Int) - (-1074)).toNat = Q at hQ
    have : Q * 2 ^ 52 ≤ 1300 * 2 ^ 52 := Nat.mul_le_mul_right _ hQ
    omega
  have hp := pm_fit hs hq (by unfold iN at hb; omega)
  obtain ⟨g1, g2⟩ := sgex (F := fm 6) (q := (e - ((52 - m.log2 : Nat) : Int) - (fm 6).qmin).toNat) (c := m * 2 ^ (52 - m.log2)) (zfT 6 rk6) (by rw [t6]; omega) (Or.inr (by rw [t6]; exact c1))
  refine ⟨52 - m.log2, ?_, ?_, ?_, ?_⟩
  · rw [hp]; exact g1
  · rw [hp, g2, q6]; omega
  · rw [hp]; omega
  · rw [hp]; exact hb
theorem wid_le {n : Nat} (hn : n ≤ iN 5) : wid n ≤ iN 6 ∧ (n < iN 5 → wid n < iN 6) ∧ (wid n = 0 ↔ n = 0) := by
  by_cases h : n < iN 5
  · rcases Nat.eq_zero_or_pos n with z | z
    · subst z; rw [wid_0]; exact ⟨Nat.zero_le _, fun _ => by rw [iN6]; decide, Iff.rfl⟩
    · obtain ⟨j, -, -, a, b⟩ := wid_at z h
      exact ⟨Nat.le_of_lt b, fun _ => b, by omega⟩
  · unfold wid
    rw [if_neg h, iN6]
    rw [iN5] at h
    exact ⟨Nat.le_refl _, fun z => absurd z (by rw [iN5]; exact h), by omega⟩
/-- the magnitude of a value in units of 2^-1074 -/
def zuN (k : Int32) (n : Nat) : Nat := sgN (fm k) n * 2 ^ (exN (fm k) n + 1074).toNat
theorem zuN_wid {n : Nat} (hn : n < iN 5) : zuN 6 (wid n) = zuN 5 n := by
  rcases Nat.eq_zero_or_pos n with z | z
  · subst z
    rw [wid_0]
    unfold zuN
    rw [(sg_z rk6 (by rw [iN6]; decide)).mpr rfl, (sg_z rk5 hn).mpr rfl, Nat.zero_mul, Nat.zero_mul]
  · obtain ⟨j, a, b, c, d⟩ := wid_at z hn
    have h1 := (ex_rng rk6 (Nat.le_of_lt d)).1
    unfold zuN
    rw [a, b, Nat.mul_assoc, ← Nat.pow_add]
    rw [b] at h1
    congr 2
    omega
theorem zuN_step {k : Int32} (hk : isRk k) {n : Nat} : zuN k n < zuN k (n + 1) := by
  have hT := zfT k hk
  have hq : -1074 ≤ (fm k).qmin := by rcases hk with rfl | rfl <;> decide +kernel
  have hdm := Nat.div_add_mod n (fm k).tails
  unfold zuN sgN exN
  generalize hTT : (fm k).tails = T at *
  generalize (fm k).qmin = Q at *
  have hz : ∀ d : Nat, d ≠ 0 → (Q + ((d + 1 - 1 : Nat) : Int) + 1074).toNat = (Q + ((d - 1 : Nat) : Int) + 1074).toNat + 1 := fun d h => by omega
  by_cases hc : n % T = T - 1
  · have e1 : n + 1 = T * (n / T + 1) := by rw [Nat.mul_add, Nat.mul_one]; omega
    have e2 : (n + 1) / T = n / T + 1 := by rw [e1]; exact Nat.mul_div_cancel_left _ hT
    have e3 : (n + 1) % T = 0 := by rw [e1]; exact Nat.mul_mod_right _ _
    rw [e2, e3, hc, if_neg (Nat.succ_ne_zero (n / T))]
    by_cases h0 : n / T = 0
    · rw [if_pos h0, h0]
      have : (0 - 1 : Nat) = (0 + 1 - 1 : Nat) := rfl
      rw [this]
      exact Nat.mul_lt_mul_of_pos_right (by omega) (Nat.two_pow_pos _)
    · rw [if_neg h0, hz (n / T) h0, Nat.pow_succ]
      have hp := Nat.two_pow_pos (Q + ((n / T - 1 : Nat) : Int) + 1074).toNat
      generalize 2 ^ (Q + ((n / T - 1 : Nat) : Int) + 1074).toNat = P at *
      have hP : (T + (T - 1)) * P + P = (T + 0) * (P * 2) := by
        rw [← Nat.succ_mul, show (T + (T - 1)).succ = T * 2 by omega, Nat.mul_assoc, Nat.mul_comm 2 P]; rfl
      omega
  · have hml := Nat.mod_lt n hT
    have e1 : n + 1 = (n % T + 1) + T * (n / T) := by omega
    have e2 : (n + 1) / T = n / T := by rw [e1, Nat.add_mul_div_left _ _ hT, Nat.div_eq_of_lt (by omega)]; omega
    have e3 : (n + 1) % T = n % T + 1 := by rw [e1, Nat.add_mul_mod_self_left, Nat.mod_eq_of_lt (by omega)]
    rw [e2, e3]
    by_cases h0 : n / T = 0
    · rw [if_pos h0, if_pos h0]; exact Nat.mul_lt_mul_of_pos_right (by omega) (Nat.two_pow_pos _)
    · rw [if_neg h0, if_neg h0]; exact Nat.mul_lt_mul_of_pos_right (by omega) (Nat.two_pow_pos _)
theorem zuN_mono {k : Int32} (hk : isRk k) {n m : Nat} (h : n < m) : zuN k n < zuN k m := by
  induction m with
  | zero => omega
  | succ m ih =>
    rcases Nat.lt_or_ge n m with z | z
    · exact Nat.lt_trans (ih z) (zuN_step hk)
    · have : n = m := by omega
      subst this; exact zuN_step hk
theorem zuN_0 {k : Int32} (hk : isRk k) : zuN k 0 = 0 := by
  unfold zuN
  rw [(sg_z hk (by rcases hk with rfl | rfl; · rw [iN5]; decide
                   · rw [iN6]; decide)).mpr rfl, Nat.zero_mul]
theorem zuN_lt {k : Int32} (hk : isRk k) {n m : Nat} : zuN k n < zuN k m ↔ n < m := by
  refine ⟨fun h => ?_, zuN_mono hk⟩
  rcases Nat.lt_trichotomy n m with z | z | z
  · exact z
  · subst z; omega
  · have := zuN_mono hk z; omega
theorem zuN_eq {k : Int32} (hk : isRk k) {n m : Nat} : zuN k n = zuN k m ↔ n = m := by
  refine ⟨fun h => ?_, fun h => by rw [h]⟩
  rcases Nat.lt_trichotomy n m with z | z | z
  · have := zuN_mono hk z; omega
  · exact z
  · have := zuN_mono hk z; omega
end DBL1
