section VIEW
/-- the bits of a real number, as a long: its sign and its magnitude -/
def bk (k : Int32) (s : Bool) (n : Nat) : Int64 := if s then (if k = 5 then lN (18446744071562067968 + n) else lN (9223372036854775808 + n)) else lN n
def sI (s : Bool) : Int32 := if s then 1 else 0
theorem lt_pow {F : FP.Core.Fmt} {k : Int32} {fb : Nat} (hk : isRk k) (hF : F = fm k) {n : Nat} (h : n ≤ (F.exps - 1) * F.tails) : (k = 5 → n < 2 ^ 31) ∧ n < 2 ^ 63 := by
  subst hF
  rcases hk with rfl | rfl
  · have : ((fm 5).exps - 1) * (fm 5).tails = 2139095040 := by decide +kernel
    exact ⟨fun _ => by omega, by omega⟩
  · have : ((fm 6).exps - 1) * (fm 6).tails = 9218868437227405312 := by decide +kernel
    exact ⟨fun q => absurd q (by decide), by omega⟩
/-- the greatest magnitude: infinite -/
def iN (k : Int32) : Nat := ((fm k).exps - 1) * (fm k).tails
theorem iN5 : iN 5 = 2139095040 := by decide +kernel
theorem iN6 : iN 6 = 9218868437227405312 := by decide +kernel
theorem or_bk {k : Int32} (hk : isRk k) {s : Bool} {n : Nat} (h : n ≤ iN k) : (if s then f_X3_signBits k else 0) ||| lN n = bk k s n := by
  cases s with
  | false =>
    show (0 : Int64) ||| lN n = lN n
    rw [Int64.zero_or]
  | true =>
    rcases hk with rfl | rfl
    · rw [iN5] at h
      show f_X3_signBits 5 ||| lN n = lN (18446744071562067968 + n)
      have e : f_X3_signBits 5 = lN (8589934591 * 2147483648) := by decide +kernel
      rw [e, g_or (k := 31) (by decide) (by omega) (by omega)]
    · rw [iN6] at h
      show f_X3_signBits 6 ||| lN n = lN (9223372036854775808 + n)
      have e : f_X3_signBits 6 = lN (1 * 9223372036854775808) := by decide +kernel
      rw [e, g_or (k := 63) (by decide) (by omega) (by omega), Nat.one_mul]
theorem pm_le {k : Int32} {m : Nat} {e : Int} : pm (fm k) m e ≤ iN k := by
  unfold pm rmag iN
  split
  · exact Nat.zero_le _
  · exact Nat.min_le_left _ _
theorem c_X3_pack {k neg : Int32} {m : Nat} {e : Int} {s : Bool} {M : Mem} {K : RT} (hW : Wf M) (hk : isRk k) (hs : neg = sI s) (hm : m < 2 ^ 63) (he : -4000 ≤ e ∧ e ≤ 4000) (h : K (some (.long (bk k s (pm (fm k) m e)))) M) : sp_X3_pack [.int k, .int neg, .long (lN m), .int (iI e)] M K := by
  refine ⟨Nat.le_of_ble_eq_true rfl, fun G hc => ?_⟩
  rw [hW.1] at hc
  obtain ⟨fb, hF⟩ := FKof hk
  subst hs
  rw [← or_bk hk pm_le] at h
  cases s with
  | false => exact eX3_pack hc hW ⟨fun _ => pk_12 hc hF hm he hW h, fun q => absurd rfl q⟩
  | true => exact eX3_pack hc hW ⟨fun q => absurd q (by decide), fun _ => pk_12 hc hF hm he hW h⟩
/-- a finite real number's bits -/
def RJ (k : Int32) (x : Int64) (s : Bool) (n : Nat) : Prop := isRk k ∧ n < iN k ∧ x = bk k s n
def sgN (F : FP.Core.Fmt) (n : Nat) : Nat := if n / F.tails = 0 then n % F.tails else F.tails + n % F.tails
def exN (F : FP.Core.Fmt) (n : Nat) : Int := F.qmin + ((n / F.tails - 1 : Nat) : Int)
theorem bk_int {k : Int32} (hk : isRk k) {s : Bool} {n : Nat} (h : n ≤ iN k) : (bk k s n).toInt = (if s then (if k = 5 then (n : Int) - 2147483648 else (n : Int) - 9223372036854775808) else n) := by
  rcases hk with rfl | rfl
  · rw [iN5] at h
    cases s with
    | false => exact l6_int (by omega)
    | true =>
      show (lN (18446744071562067968 + n)).toInt = (n : Int) - 2147483648
      rw [lN_ti (by omega), if_neg (by omega)]
      omega
  · rw [iN6] at h
    cases s with
    | false => exact l6_int (by omega)
    | true =>
      show (lN (9223372036854775808 + n)).toInt = (n : Int) - 9223372036854775808
      rw [lN_ti (by omega), if_neg (by omega)]
      omega
theorem bk_neg {k : Int32} (hk : isRk k) {s : Bool} {n : Nat} (h : n ≤ iN k) : bk k s n < 0 ↔ s = true := by
  rw [fa_lt64, bk_int hk h]
  have h0 : (0 : Int64).toInt = 0 := by decide
  rcases hk with rfl | rfl
  · rw [iN5] at h
    cases s <;> simp [h0] <;> omega
  · rw [iN6] at h
    cases s <;> simp [h0] <;> omega
theorem bk_pos {k : Int32} (hk : isRk k) {s : Bool} {n : Nat} (h : n ≤ iN k) : 0 ≤ bk k s n ↔ s = false := by
  have := bk_neg hk h (s := s)
  rw [fa_lt64] at this
  rw [fa_le64]
  cases s <;> simp at this ⊢ <;> omega
theorem mg_bk {k : Int32} (hk : isRk k) {s : Bool} {n : Nat} (h : n ≤ iN k) : f_X3_magnitude k (bk k s n) = lN n := by
  unfold f_X3_magnitude
  rcases hk with rfl | rfl
  · rw [iN5] at h
    rw [if_pos rfl, show (2147483647 : Int64) = lN (2147483648 - 1) from rfl]
    cases s with
    | false => show lN n &&& _ = _; rw [g_mask (s := 31) (by decide) (by decide) (by omega), Nat.mod_eq_of_lt (by omega)]
    | true => show lN (18446744071562067968 + n) &&& _ = _; rw [g_mask (s := 31) (by decide) (by decide) (by omega)]; congr 1; omega
  · rw [iN6] at h
    rw [if_neg (by decide), show (9223372036854775807 : Int64) = lN (9223372036854775808 - 1) from rfl]
    cases s with
    | false => show lN n &&& _ = _; rw [g_mask (s := 63) (by decide) (by decide) (by omega), Nat.mod_eq_of_lt (by omega)]
    | true => show lN (9223372036854775808 + n) &&& _ = _; rw [g_mask (s := 63) (by decide) (by decide) (by omega)]; congr 1; omega
theorem sg_lt {F : FP.Core.Fmt} {n : Nat} : sgN F n < 2 * F.tails := by
  have : n % F.tails < F.tails := Nat.mod_lt _ (Nat.two_pow_pos _)
  unfold sgN
  split <;> omega
theorem sg_bk {k : Int32} (hk : isRk k) {s : Bool} {n : Nat} (h : n ≤ iN k) : f_X3_significand k (bk k s n) = lN (sgN (fm k) n) := by
  obtain ⟨fb, f1, f2, f3, f4, f5, f6, f7, f8, f9, f10, f11, f12, f13⟩ := FKof hk
  have hn : n < 2 ^ 63 := (lt_pow (fb := fb) hk rfl h).2
  have hT : (fm k).tails ≤ 2 ^ 52 := by rw [f4]; exact pow2_le f7
  have hp := Nat.two_pow_pos fb
  have hmod : n % (fm k).tails < (fm k).tails := Nat.mod_lt _ (by omega)
  unfold f_X3_significand sgN
  rw [mg_bk hk h, f1, wb_shr (by omega) (by omega), show (1 : Int64) = lN 1 from rfl, wb_shl _ (by omega), Nat.one_mul, lN_sub hp, wb_mask (by omega) (by omega), ← f4, show (0 : Int64) = lN 0 from rfl]
  by_cases q : n / (fm k).tails = 0
  · rw [if_pos ((l6_eq (by have := Nat.div_le_self n (fm k).tails; omega) (by decide)).mpr q), if_pos q]
  · rw [if_neg (fun z => q ((l6_eq (by have := Nat.div_le_self n (fm k).tails; omega) (by decide)).mp z)), if_neg q]
    have := g_or' (k := fb) (p := (fm k).tails) (a := n % (fm k).tails) (b := 1) f4.symm hmod (by omega)
    rw [Nat.one_mul] at this
    rw [this, Nat.add_comm]
theorem ex_bk {k : Int32} (hk : isRk k) {s : Bool} {n : Nat} (h : n ≤ iN k) : f_X3_exponent k (bk k s n) = iI (exN (fm k) n) := by
  obtain ⟨fb, f1, f2, f3, f4, f5, f6, f7, f8, f9, f10, f11, f12, f13⟩ := FKof hk
  have hn : n < 2 ^ 63 := (lt_pow (fb := fb) hk rfl h).2
  have hd : n / (fm k).tails ≤ 2047 := by
    have : n / (fm k).tails ≤ (fm k).exps - 1 := Nat.div_le_of_le_mul (by rw [Nat.mul_comm]; exact h)
    omega
  unfold f_X3_exponent exN
  rw [mg_bk hk h, f1, f2, wb_shr (by omega) (by omega), ← f4, lN_i]
  generalize n / (fm k).tails = d at hd ⊢
  rw [← iI_nat, show (1 : Int32) = iI 1 from rfl, iI_sub, show (0 : Int32) = iI 0 from rfl, iI_max ⟨by omega, by omega⟩ (by omega), iI_add]
  congr 1
  omega
theorem ex_rng {k : Int32} (hk : isRk k) {n : Nat} (h : n ≤ iN k) : -1074 ≤ exN (fm k) n ∧ exN (fm k) n ≤ 1000 := by
  have hd : n / (fm k).tails ≤ (fm k).exps - 1 := Nat.div_le_of_le_mul (by rw [Nat.mul_comm]; exact h)
  unfold exN
  generalize n / (fm k).tails = d at hd
  rcases hk with rfl | rfl
  · have e1 : (fm 5).exps = 256 := by decide +kernel
    have e2 : (fm 5).qmin = -149 := by decide +kernel
    omega
  · have e1 : (fm 6).exps = 2048 := by decide +kernel
    have e2 : (fm 6).qmin = -1074 := by decide +kernel
    omega
theorem sg_rng {k : Int32} (hk : isRk k) {n : Nat} : sgN (fm k) n < 2 ^ 53 := by
  obtain ⟨fb, f1, f2, f3, f4, f5, f6, f7, f8, f9, f10, f11, f12, f13⟩ := FKof hk
  have hT : (fm k).tails ≤ 2 ^ 52 := by rw [f4]; exact pow2_le f7
  have := sg_lt (F := fm k) (n := n)
  omega
/-- a number above the least exponent has all its bits -/
theorem sg_norm {F : FP.Core.Fmt} {n : Nat} (h : F.qmin < exN F n) : F.tails ≤ sgN F n := by
  unfold exN at h
  unfold sgN
  rw [if_neg (by omega)]
  omega
end VIEW
