section ROUND
theorem nr_scale {a b k : Nat} (hk : 0 < k) : FP.Core.nearest (a * k) (b * k) = FP.Core.nearest a b := by
  unfold FP.Core.nearest
  rw [Nat.mul_div_mul_right _ _ hk, Nat.mul_mod_mul_right]
  have e1 : 2 * (a % b * k) < b * k ↔ 2 * (a % b) < b := by
    rw [← Nat.mul_assoc]; exact Nat.mul_lt_mul_right hk
  have e2 : b * k < 2 * (a % b * k) ↔ b < 2 * (a % b) := by
    rw [← Nat.mul_assoc]; exact Nat.mul_lt_mul_right hk
  simp only [e1, e2]
theorem nr_one (a : Nat) : FP.Core.nearest a 1 = a := by
  unfold FP.Core.nearest
  rw [Nat.mod_one, Nat.div_one, if_pos (by decide)]
/-- the leading place of num / den -/
theorem lead_eq {num den L : Nat} (hd : 0 < den) (h1 : 2 ^ L * den ≤ num) (h2 : num < 2 ^ (L + 1) * den) : FP.Core.leading num den = L := by
  have hn : num ≠ 0 := by have := Nat.mul_pos (Nat.pow_pos (n := L) (show 0 < 2 by decide)) hd; omega
  have a1 : 2 ^ num.log2 ≤ num := Nat.log2_self_le hn
  have a2 : num < 2 ^ (num.log2 + 1) := Nat.lt_log2_self
  have b1 : 2 ^ den.log2 ≤ den := Nat.log2_self_le (by omega)
  have b2 : den < 2 ^ (den.log2 + 1) := Nat.lt_log2_self
  -- log2 num is log2 den + L, or one more
  have c1 : den.log2 + L ≤ num.log2 := by
    have : 2 ^ (L + den.log2) < 2 ^ (num.log2 + 1) := Nat.lt_of_le_of_lt (by rw [Nat.pow_add]; exact Nat.le_trans (Nat.mul_le_mul_left _ b1) h1) a2
    have := (Nat.pow_lt_pow_iff_right (show 1 < 2 by decide)).mp this
    omega
  have c2 : num.log2 ≤ den.log2 + L + 1 := by
    have : 2 ^ num.log2 < 2 ^ (L + 1 + (den.log2 + 1)) := Nat.lt_of_le_of_lt a1 (Nat.lt_trans h2 (by rw [Nat.pow_add 2 (L + 1) (den.log2 + 1)]; exact Nat.mul_lt_mul_of_pos_left b2 (Nat.two_pow_pos _)))
    have := (Nat.pow_lt_pow_iff_right (show 1 < 2 by decide)).mp this
    omega
  unfold FP.Core.leading
  rcases (show num.log2 = den.log2 + L ∨ num.log2 = den.log2 + L + 1 by omega) with h | h
  · have e1 : ((num.log2 : Int) - (den.log2 : Int)) = (L : Int) := by omega
    simp only [e1]
    have e2 : ((L : Int)).toNat = L := Int.toNat_natCast L
    have e3 : (-(L : Int)).toNat = 0 := by omega
    rw [e2, e3, Nat.pow_zero, Nat.mul_one, if_pos (by rw [Nat.mul_comm]; exact h1)]
  · have e1 : ((num.log2 : Int) - (den.log2 : Int)) = ((L + 1 : Nat) : Int) := by omega
    simp only [e1]
    have e2 : (((L + 1 : Nat) : Int)).toNat = L + 1 := Int.toNat_natCast (L + 1)
    have e3 : (-((L + 1 : Nat) : Int)).toNat = 0 := by omega
    rw [e2, e3, Nat.pow_zero, Nat.mul_one, if_neg (by rw [Nat.mul_comm]; exact Nat.not_le.mpr h2)]
    omega
/-- every quotient of positive numbers has a leading place, perhaps below 0 -/
theorem lead_spec {num den : Nat} (hn : 0 < num) (hd : 0 < den) : ∃ j L : Nat, 2 ^ L * den ≤ num * 2 ^ j ∧ num * 2 ^ j < 2 ^ (L + 1) * den := by
  refine ⟨den.log2 + 1, (num * 2 ^ (den.log2 + 1) / den).log2, ?_, ?_⟩
  · have h := Nat.log2_self_le (n := num * 2 ^ (den.log2 + 1) / den) (by
      have b2 : den < 2 ^ (den.log2 + 1) := Nat.lt_log2_self
      have : 1 ≤ num * 2 ^ (den.log2 + 1) / den := by
        rw [Nat.le_div_iff_mul_le hd, Nat.one_mul]
        exact Nat.le_trans (Nat.le_of_lt b2) (Nat.le_mul_of_pos_left _ hn)
      omega)
    exact Nat.le_trans (Nat.mul_le_mul_right _ h) (Nat.div_mul_le_self _ _)
  · have h := Nat.lt_log2_self (n := num * 2 ^ (den.log2 + 1) / den)
    rw [Nat.div_lt_iff_lt_mul hd] at h
    exact h
theorem lead_num {num den j : Nat} (hn : 0 < num) (hd : 0 < den) : FP.Core.leading (num * 2 ^ j) den = FP.Core.leading num den + j := by
  have hn2 : num ≠ 0 := by omega
  have e : (num * 2 ^ j).log2 = num.log2 + j := by
    have h0 : num * 2 ^ j ≠ 0 := Nat.mul_ne_zero hn2 (Nat.pos_iff_ne_zero.mp (Nat.two_pow_pos j))
    have a1 : 2 ^ num.log2 ≤ num := Nat.log2_self_le hn2
    have a2 : num < 2 ^ (num.log2 + 1) := Nat.lt_log2_self
    have b1 : 2 ^ (num * 2 ^ j).log2 ≤ num * 2 ^ j := Nat.log2_self_le h0
    have b2 : num * 2 ^ j < 2 ^ ((num * 2 ^ j).log2 + 1) := Nat.lt_log2_self
    have c1 : 2 ^ (num.log2 + j) < 2 ^ ((num * 2 ^ j).log2 + 1) := Nat.lt_of_le_of_lt (by rw [Nat.pow_add]; exact Nat.mul_le_mul_right _ a1) b2
    have c2 : 2 ^ (num * 2 ^ j).log2 < 2 ^ (num.log2 + 1 + j) := Nat.lt_of_le_of_lt b1 (by rw [Nat.pow_add]; exact Nat.mul_lt_mul_of_pos_right a2 (Nat.two_pow_pos _))
    have := (Nat.pow_lt_pow_iff_right (show 1 < 2 by decide)).mp c1
    have := (Nat.pow_lt_pow_iff_right (show 1 < 2 by decide)).mp c2
    omega
  unfold FP.Core.leading
  rw [e]
  -- the test is the same
  have key : ∀ k : Int, (den * 2 ^ (k + j).toNat ≤ num * 2 ^ j * 2 ^ (-(k + j)).toNat) ↔ (den * 2 ^ k.toNat ≤ num * 2 ^ (-k).toNat) := by
    intro k
    rcases Int.le_total 0 k with hk | hk
    · have e1 : (k + j).toNat = k.toNat + j := by omega
      have e2 : (-(k + j)).toNat = 0 := by omega
      have e3 : (-k).toNat = 0 := by omega
      rw [e1, e2, e3, Nat.pow_zero, Nat.mul_one, Nat.mul_one, Nat.pow_add, ← Nat.mul_assoc]
      exact Nat.mul_le_mul_right_iff (Nat.two_pow_pos _)
    · rcases Int.le_total 0 (k + j) with hj | hj
      · have e2 : (-(k + j)).toNat = 0 := by omega
        have e3 : k.toNat = 0 := by omega
        have e4 : j = (k + j).toNat + (-k).toNat := by omega
        rw [e2, e3, Nat.pow_zero, Nat.mul_one, Nat.mul_one]
        conv => lhs; rhs; rw [e4]
        rw [Nat.pow_add, ← Nat.mul_assoc, Nat.mul_right_comm]
        exact Nat.mul_le_mul_right_iff (Nat.two_pow_pos _)
      · have e2 : (k + j).toNat = 0 := by omega
        have e3 : k.toNat = 0 := by omega
        have e4 : (-k).toNat = j + (-(k + j)).toNat := by omega
        rw [e2, e3, e4, Nat.pow_add, Nat.mul_assoc]
  have hk : ((num.log2 + j : Nat) : Int) - (den.log2 : Int) = ((num.log2 : Int) - (den.log2 : Int)) + j := by omega
  simp only [hk, key]
  split <;> omega
theorem lead_den {num den j : Nat} (hn : 0 < num) (hd : 0 < den) : FP.Core.leading (num * 2 ^ j) (den * 2 ^ j) = FP.Core.leading num den := by
  obtain ⟨i, L, h1, h2⟩ := lead_spec hn hd
  have hp : 0 < 2 ^ j := Nat.pow_pos (by decide)
  have e1 := lead_eq hd h1 h2
  have e2 : FP.Core.leading (num * 2 ^ j * 2 ^ i) (den * 2 ^ j) = L := by
    refine lead_eq (Nat.mul_pos hd hp) ?_ ?_
    · rw [← Nat.mul_assoc, Nat.mul_right_comm num]
      exact Nat.mul_le_mul_right _ h1
    · rw [← Nat.mul_assoc, Nat.mul_right_comm num]
      exact Nat.mul_lt_mul_of_pos_right h2 hp
  rw [lead_num hn hd] at e1
  rw [lead_num (Nat.mul_pos hn hp) (Nat.mul_pos hd hp)] at e2
  omega
theorem rr_num {f : FP.Core.Fmt} {s : Bool} {num den j : Nat} {e : Int} (hd : 0 < den) : FP.Core.roundRatio f s (num * 2 ^ j) den e = FP.Core.roundRatio f s num den (e + j) := by
  have hp : 0 < 2 ^ j := Nat.pow_pos (by decide)
  unfold FP.Core.roundRatio
  by_cases h0 : num = 0
  · subst h0
    rw [Nat.zero_mul, if_pos rfl, if_pos rfl]
  · rw [if_neg (Nat.mul_ne_zero h0 (Nat.pos_iff_ne_zero.mp hp)), if_neg h0]
    have hq : FP.Core.quantum f (num * 2 ^ j) den e = FP.Core.quantum f num den (e + j) := by
      unfold FP.Core.quantum
      rw [lead_num (by omega) hd]
      congr 1
      omega
    rw [hq]
    generalize FP.Core.quantum f num den (e + j) = q
    unfold FP.Core.roundAt FP.Core.unitsNum FP.Core.unitsDen
    congr 1
    rcases Int.le_total q e with hqe | hqe
    · have e1 : (q - e).toNat = 0 := by omega
      have e2 : (q - (e + j)).toNat = 0 := by omega
      have e3 : (e + j - q).toNat = j + (e - q).toNat := by omega
      rw [e1, e2, e3, Nat.pow_add, Nat.mul_assoc]
    · rcases Int.le_total q (e + j) with h2 | h2
      · have e1 : (e - q).toNat = 0 := by omega
        have e2 : (q - (e + j)).toNat = 0 := by omega
        have e3 : j = (e + j - q).toNat + (q - e).toNat := by omega
        rw [e1, e2, Nat.pow_zero, Nat.mul_one, Nat.mul_one]
        conv => lhs; lhs; rw [e3]
        rw [Nat.pow_add, ← Nat.mul_assoc]
        exact nr_scale (Nat.two_pow_pos _)
      · have e1 : (e - q).toNat = 0 := by omega
        have e2 : (e + j - q).toNat = 0 := by omega
        have e3 : (q - e).toNat = (q - (e + j)).toNat + j := by omega
        rw [e1, e2, e3, Nat.pow_zero, Nat.mul_one, Nat.mul_one, Nat.pow_add, ← Nat.mul_assoc]
        exact nr_scale hp
theorem rr_both {f : FP.Core.Fmt} {s : Bool} {num den j : Nat} {e : Int} (hd : 0 < den) : FP.Core.roundRatio f s (num * 2 ^ j) (den * 2 ^ j) e = FP.Core.roundRatio f s num den e := by
  have hp : 0 < 2 ^ j := Nat.pow_pos (by decide)
  unfold FP.Core.roundRatio
  by_cases h0 : num = 0
  · subst h0
    rw [Nat.zero_mul, if_pos rfl, if_pos rfl]
  · rw [if_neg (Nat.mul_ne_zero h0 (Nat.pos_iff_ne_zero.mp hp)), if_neg h0]
    unfold FP.Core.quantum
    rw [lead_den (by omega) hd]
    unfold FP.Core.roundAt FP.Core.unitsNum FP.Core.unitsDen
    congr 1
    rw [Nat.mul_right_comm, Nat.mul_right_comm den]
    exact nr_scale hp
theorem rr_den {f : FP.Core.Fmt} {s : Bool} {num den j : Nat} {e : Int} (hd : 0 < den) : FP.Core.roundRatio f s num (den * 2 ^ j) (e + j) = FP.Core.roundRatio f s num den e := by
  rw [← rr_num (Nat.mul_pos hd (Nat.two_pow_pos _)), rr_both hd]
/-- what is not exact carries a last 1 -/
theorem rr_sticky {f : FP.Core.Fmt} {s : Bool} {num den N : Nat} {e : Int} (hd : 0 < den) (ho : N % 2 = 1) (hN : 2 ^ (f.p + 1) ≤ N) (hp : 0 < f.p) (h1 : (N - 1) * den < num) (h2 : num < (N + 1) * den) : FP.Core.roundRatio f s num den e = FP.Core.roundRatio f s N 1 e := by
  have hN0 : N ≠ 0 := by omega
  have a1 : 2 ^ N.log2 ≤ N := Nat.log2_self_le hN0
  have a2 : N < 2 ^ (N.log2 + 1) := Nat.lt_log2_self
  have hL : f.p + 1 ≤ N.log2 := by
    have := (Nat.pow_lt_pow_iff_right (show 1 < 2 by decide)).mp (Nat.lt_of_le_of_lt hN a2)
    omega
  have hev : ∀ k : Nat, 1 ≤ k → 2 ^ k % 2 = 0 := by
    intro k hk
    obtain ⟨j, rfl⟩ := Nat.exists_eq_add_of_le hk
    rw [Nat.pow_add, Nat.pow_one]
    omega
  have a3 : 2 ^ N.log2 ≤ N - 1 := by have := hev N.log2 (by omega); omega
  have a4 : N + 1 ≤ 2 ^ (N.log2 + 1) := a2
  have l1 : FP.Core.leading num den = N.log2 := lead_eq hd (Nat.le_trans (Nat.mul_le_mul_right _ a3) (Nat.le_of_lt h1)) (Nat.lt_of_lt_of_le h2 (Nat.mul_le_mul_right _ a4))
  have l2 : FP.Core.leading N 1 = N.log2 := lead_eq (by decide) (by omega) (by omega)
  have hnum : num ≠ 0 := by omega
  unfold FP.Core.roundRatio
  rw [if_neg hnum, if_neg hN0]
  have hq : FP.Core.quantum f num den e = FP.Core.quantum f N 1 e := by unfold FP.Core.quantum; rw [l1, l2]
  rw [hq]
  have hsh : ∃ sh : Nat, 2 ≤ sh ∧ FP.Core.quantum f N 1 e = e + sh := by
    unfold FP.Core.quantum
    rw [l2]
    refine ⟨(max f.qmin ((N.log2 : Int) + e - ((f.p : Int) - 1)) - e).toNat, by omega, by omega⟩
  obtain ⟨sh, hs2, hqe⟩ := hsh
  rw [hqe]
  unfold FP.Core.roundAt FP.Core.unitsNum FP.Core.unitsDen
  have e1 : (e - (e + (sh : Int))).toNat = 0 := by omega
  have e2 : (e + (sh : Int) - e).toNat = sh := by omega
  rw [e1, e2, Nat.pow_zero, Nat.mul_one, Nat.mul_one, Nat.one_mul]
  congr 1
  -- N = a u + b, u = 2 ^ sh, b odd
  obtain ⟨i, rfl⟩ := Nat.exists_eq_add_of_le hs2
  generalize hu : 2 ^ i = u
  have hup : 0 < u := by rw [← hu]; exact Nat.pow_pos (by decide)
  have hU : 2 ^ (2 + i) = 4 * u := by rw [Nat.pow_add, hu]
  rw [hU]
  generalize ha : N / (4 * u) = a
  generalize hb : N % (4 * u) = b
  have hab : N = 4 * u * a + b := by rw [← ha, ← hb]; exact (Nat.div_add_mod N (4 * u)).symm
  have hb4 : b < 4 * u := by rw [← hb]; exact Nat.mod_lt _ (by omega)
  have hbo : b % 2 = 1 := by
    have : 4 * u * a = 2 * (2 * u * a) := by rw [← Nat.mul_assoc, ← Nat.mul_assoc]
    omega
  -- num = a (4 u den) + r
  obtain ⟨r, hr⟩ : ∃ r, num = a * (4 * u * den) + r ∧ (b - 1) * den < r ∧ r < (b + 1) * den := by
    have k1 : (N - 1) * den = a * (4 * u * den) + (b - 1) * den := by
      have : N - 1 = 4 * u * a + (b - 1) := by omega
      rw [this, Nat.add_mul]
      congr 1
      rw [Nat.mul_comm (4 * u) a, Nat.mul_assoc]
    have k2 : (N + 1) * den = a * (4 * u * den) + (b + 1) * den := by
      have : N + 1 = 4 * u * a + (b + 1) := by omega
      rw [this, Nat.add_mul]
      congr 1
      rw [Nat.mul_comm (4 * u) a, Nat.mul_assoc]
    exact ⟨num - a * (4 * u * den), by omega, by omega, by omega⟩
  obtain ⟨hr, r1, r2⟩ := hr
  have hD : den * (4 * u) = 4 * u * den := Nat.mul_comm _ _
  rw [hD]
  have hr4 : r < 4 * u * den := Nat.lt_of_lt_of_le r2 (Nat.mul_le_mul_right _ (by omega))
  have d1 : num / (4 * u * den) = a := by
    rw [hr, Nat.add_comm, Nat.add_mul_div_right _ _ (by have := Nat.mul_pos (show 0 < 4 * u by omega) hd; omega), Nat.div_eq_of_lt hr4, Nat.zero_add]
  have d2 : num % (4 * u * den) = r := by rw [hr, Nat.add_comm, Nat.add_mul_mod_self_right, Nat.mod_eq_of_lt hr4]
  unfold FP.Core.nearest
  rw [d1, d2, ha, hb]
  rcases (show b + 1 ≤ 2 * u ∨ 2 * u ≤ b - 1 by omega) with h | h
  · have m1 : 2 * r < 4 * u * den := by
      have := Nat.mul_le_mul_right den h
      have e : 2 * (2 * u * den) = 4 * u * den := by rw [← Nat.mul_assoc, ← Nat.mul_assoc]
      omega
    rw [if_pos m1, if_pos (by omega)]
  · have m1 : 4 * u * den < 2 * r := by
      have := Nat.mul_le_mul_right den h
      have e : 2 * (2 * u * den) = 4 * u * den := by rw [← Nat.mul_assoc, ← Nat.mul_assoc]
      omega
    rw [if_neg (by omega), if_pos m1, if_neg (by omega), if_pos (by omega)]
end ROUND
