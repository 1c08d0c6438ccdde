section REALS
/-- whole numbers as ints and longs -/
def iI (z : Int) : Int32 := Int32.ofInt z
def lI (z : Int) : Int64 := Int64.ofInt z
theorem iI_toInt {z : Int} (h1 : -2147483648 ≤ z) (h2 : z < 2147483648) : (iI z).toInt = z := fb_ofI h1 h2
theorem iI_nat (n : Nat) : iI n = nI n := rfl
theorem iI_add (a b : Int) : iI a + iI b = iI (a + b) := (Int32.ofInt_add a b).symm
theorem iI_sub (a b : Int) : iI a - iI b = iI (a - b) := (Int32.ofInt_sub a b).symm
theorem iI_neg (a : Int) : -iI a = iI (-a) := (Int32.ofInt_neg a).symm
theorem iI_le {a b : Int} (ha : -2147483648 ≤ a ∧ a < 2147483648) (hb : -2147483648 ≤ b ∧ b < 2147483648) : iI a ≤ iI b ↔ a ≤ b := by
  rw [fa_le, iI_toInt ha.1 ha.2, iI_toInt hb.1 hb.2]
theorem iI_lt {a b : Int} (ha : -2147483648 ≤ a ∧ a < 2147483648) (hb : -2147483648 ≤ b ∧ b < 2147483648) : iI a < iI b ↔ a < b := by
  rw [fa_lt, iI_toInt ha.1 ha.2, iI_toInt hb.1 hb.2]
theorem iI_max {a b : Int} (ha : -2147483648 ≤ a ∧ a < 2147483648) (hb : -2147483648 ≤ b ∧ b < 2147483648) : f_J9_max_7cf53 (iI a) (iI b) = iI (max a b) := by
  unfold f_J9_max_7cf53
  by_cases h : a < b
  · rw [if_pos ((iI_lt ha hb).mpr h), Int.max_eq_right (by omega)]
  · rw [if_neg (fun q => h ((iI_lt ha hb).mp q)), Int.max_eq_left (by omega)]
theorem l6_int {n : Nat} (h : n < 2 ^ 63) : (lN n).toInt = n := pf_lI h
theorem l6_le {a b : Nat} (ha : a < 2 ^ 63) (hb : b < 2 ^ 63) : lN a ≤ lN b ↔ a ≤ b := by
  rw [fa_le64, l6_int ha, l6_int hb]
  omega
theorem l6_lt {a b : Nat} (ha : a < 2 ^ 63) (hb : b < 2 ^ 63) : lN a < lN b ↔ a < b := by
  rw [fa_lt64, l6_int ha, l6_int hb]
  omega
theorem l6_eq {a b : Nat} (ha : a < 2 ^ 63) (hb : b < 2 ^ 63) : lN a = lN b ↔ a = b := fb_lN_inj ha hb
theorem l6_min {a b : Nat} (ha : a < 2 ^ 63) (hb : b < 2 ^ 63) : f_J9_min_f86c9 (lN a) (lN b) = lN (min a b) := by
  unfold f_J9_min_f86c9
  by_cases h : b < a
  · rw [if_pos ((l6_lt hb ha).mpr h), Nat.min_eq_right (by omega)]
  · rw [if_neg (fun q => h ((l6_lt hb ha).mp q)), Nat.min_eq_left (by omega)]
theorem ush_i {k j : Nat} (hk : k < 2 ^ 32) (hj : j < 32) : ((nI k).toUInt32 >>> ((nI j).toUInt32 &&& Int32.toUInt32 31)).toInt32 = nI (k / 2 ^ j) := by
  have hs : k / 2 ^ j ≤ k := Nat.div_le_self _ _
  have e2 : UInt32.ofNat k >>> (UInt32.ofNat j &&& Int32.toUInt32 31) = UInt32.ofNat (k / 2 ^ j) := by
    apply UInt32.toNat_inj.1
    have h1 : (UInt32.ofNat k).toNat = k := Nat.mod_eq_of_lt (by omega)
    have h2 : (UInt32.ofNat (k / 2 ^ j)).toNat = k / 2 ^ j := Nat.mod_eq_of_lt (by omega)
    rw [UInt32.toNat_shiftRight, nx_cnt ⟨j, hj⟩, h1, h2, Nat.shiftRight_eq_div_pow]
  show (UInt32.ofNat k >>> (UInt32.ofNat j &&& Int32.toUInt32 31)).toInt32 = _
  rw [e2]
  rfl
theorem log2_of {n L : Nat} (h1 : 2 ^ L ≤ n) (h2 : n < 2 ^ (L + 1)) : n.log2 = L := by
  have h0 : 0 < n := Nat.lt_of_lt_of_le (Nat.two_pow_pos L) h1
  have a1 := log_lo h0
  have a2 := log_hi n
  have := (Nat.pow_lt_pow_iff_right (show 1 < 2 by decide)).mp (Nat.lt_of_le_of_lt h1 a2)
  have := (Nat.pow_lt_pow_iff_right (show 1 < 2 by decide)).mp (Nat.lt_of_le_of_lt a1 h2)
  omega
/-- leading noughts -/
theorem nlz_i {n : Nat} (h0 : 0 < n) (h : n < 2 ^ 31) : f_J6_numberOfLeadingZeros_0f7a4 (nI n) = nI (31 - n.log2) := by
  have u1 : ∀ k, k < 2 ^ 32 → ((nI k).toUInt32 >>> ((nI 1).toUInt32 &&& Int32.toUInt32 31)).toInt32 = nI (k / 2) := fun k hk => ush_i hk (by decide)
  have u2 : ∀ k, k < 2 ^ 32 → ((nI k).toUInt32 >>> ((nI 2).toUInt32 &&& Int32.toUInt32 31)).toInt32 = nI (k / 4) := fun k hk => ush_i hk (by decide)
  have u4 : ∀ k, k < 2 ^ 32 → ((nI k).toUInt32 >>> ((nI 4).toUInt32 &&& Int32.toUInt32 31)).toInt32 = nI (k / 16) := fun k hk => ush_i hk (by decide)
  have u8 : ∀ k, k < 2 ^ 32 → ((nI k).toUInt32 >>> ((nI 8).toUInt32 &&& Int32.toUInt32 31)).toInt32 = nI (k / 256) := fun k hk => ush_i hk (by decide)
  have u16 : ∀ k, k < 2 ^ 32 → ((nI k).toUInt32 >>> ((nI 16).toUInt32 &&& Int32.toUInt32 31)).toInt32 = nI (k / 65536) := fun k hk => ush_i hk (by decide)
  unfold f_J6_numberOfLeadingZeros_0f7a4
  rw [show (1 : Int32) = nI 1 from rfl, show (2 : Int32) = nI 2 from rfl, show (4 : Int32) = nI 4 from rfl, show (8 : Int32) = nI 8 from rfl, show (16 : Int32) = nI 16 from rfl, show (256 : Int32) = nI 256 from rfl, show (65536 : Int32) = nI 65536 from rfl, if_pos (show (0 : Int32) < nI n from nI_lt (a := 0) h0 h)]
  simp (disch := omega) only [u1, u2, u4, u8, u16, nI_ltI]
  rcases (show (1 ≤ n ∧ n < 2) ∨ (2 ≤ n ∧ n < 4) ∨ (4 ≤ n ∧ n < 8) ∨ (8 ≤ n ∧ n < 16) ∨ (16 ≤ n ∧ n < 32) ∨ (32 ≤ n ∧ n < 64) ∨ (64 ≤ n ∧ n < 128) ∨ (128 ≤ n ∧ n < 256) ∨ (256 ≤ n ∧ n < 512) ∨ (512 ≤ n ∧ n < 1024) ∨ (1024 ≤ n ∧ n < 2048) ∨ (2048 ≤ n ∧ n < 4096) ∨ (4096 ≤ n ∧ n < 8192) ∨ (8192 ≤ n ∧ n < 16384) ∨ (16384 ≤ n ∧ n < 32768) ∨ (32768 ≤ n ∧ n < 65536) ∨ (65536 ≤ n ∧ n < 131072) ∨ (131072 ≤ n ∧ n < 262144) ∨ (262144 ≤ n ∧ n < 524288) ∨ (524288 ≤ n ∧ n < 1048576) ∨ (1048576 ≤ n ∧ n < 2097152) ∨ (2097152 ≤ n ∧ n < 4194304) ∨ (4194304 ≤ n ∧ n < 8388608) ∨ (8388608 ≤ n ∧ n < 16777216) ∨ (16777216 ≤ n ∧ n < 33554432) ∨ (33554432 ≤ n ∧ n < 67108864) ∨ (67108864 ≤ n ∧ n < 134217728) ∨ (134217728 ≤ n ∧ n < 268435456) ∨ (268435456 ≤ n ∧ n < 536870912) ∨ (536870912 ≤ n ∧ n < 1073741824) ∨ (1073741824 ≤ n ∧ n < 2147483648) by omega) with ⟨a, b⟩ | ⟨a, b⟩ | ⟨a, b⟩ | ⟨a, b⟩ | ⟨a, b⟩ | ⟨a, b⟩ | ⟨a, b⟩ | ⟨a, b⟩ | ⟨a, b⟩ | ⟨a, b⟩ | ⟨a, b⟩ | ⟨a, b⟩ | ⟨a, b⟩ | ⟨a, b⟩ | ⟨a, b⟩ | ⟨a, b⟩ | ⟨a, b⟩ | ⟨a, b⟩ | ⟨a, b⟩ | ⟨a, b⟩ | ⟨a, b⟩ | ⟨a, b⟩ | ⟨a, b⟩ | ⟨a, b⟩ | ⟨a, b⟩ | ⟨a, b⟩ | ⟨a, b⟩ | ⟨a, b⟩ | ⟨a, b⟩ | ⟨a, b⟩ | ⟨a, b⟩
  · have e : n.log2 = 0 := log2_of (by omega) (by omega)
    rw [e]
    simp (disch := omega) only [if_pos, if_neg]
    simp only [← iI_nat, show (31 : Int32) = iI 31 from rfl, iI_add, iI_sub, iI_neg]
    refine congrArg iI ?_
    omega
  · have e : n.log2 = 1 := log2_of (by omega) (by omega)
    rw [e]
    simp (disch := omega) only [if_pos, if_neg]
    simp only [← iI_nat, show (31 : Int32) = iI 31 from rfl, iI_add, iI_sub, iI_neg]
    refine congrArg iI ?_
    omega
  · have e : n.log2 = 2 := log2_of (by omega) (by omega)
    rw [e]
    simp (disch := omega) only [if_pos, if_neg]
    simp only [← iI_nat, show (31 : Int32) = iI 31 from rfl, iI_add, iI_sub, iI_neg]
    refine congrArg iI ?_
    omega
  · have e : n.log2 = 3 := log2_of (by omega) (by omega)
    rw [e]
    simp (disch := omega) only [if_pos, if_neg]
    simp only [← iI_nat, show (31 : Int32) = iI 31 from rfl, iI_add, iI_sub, iI_neg]
    refine congrArg iI ?_
    omega
  · have e : n.log2 = 4 := log2_of (by omega) (by omega)
    rw [e]
    simp (disch := omega) only [if_pos, if_neg]
    simp only [← iI_nat, show (31 : Int32) = iI 31 from rfl, iI_add, iI_sub, iI_neg]
    refine congrArg iI ?_
    omega
  · have e : n.log2 = 5 := log2_of (by omega) (by omega)
    rw [e]
    simp (disch := omega) only [if_pos, if_neg]
    simp only [← iI_nat, show (31 : Int32) = iI 31 from rfl, iI_add, iI_sub, iI_neg]
    refine congrArg iI ?_
    omega
  · have e : n.log2 = 6 := log2_of (by omega) (by omega)
    rw [e]
    simp (disch := omega) only [if_pos, if_neg]
    simp only [← iI_nat, show (31 : Int32) = iI 31 from rfl, iI_add, iI_sub, iI_neg]
    refine congrArg iI ?_
    omega
  · have e : n.log2 = 7 := log2_of (by omega) (by omega)
    rw [e]
    simp (disch := omega) only [if_pos, if_neg]
    simp only [← iI_nat, show (31 : Int32) = iI 31 from rfl, iI_add, iI_sub, iI_neg]
    refine congrArg iI ?_
    omega
  · have e : n.log2 = 8 := log2_of (by omega) (by omega)
    rw [e]
    simp (disch := omega) only [if_pos, if_neg]
    simp only [← iI_nat, show (31 : Int32) = iI 31 from rfl, iI_add, iI_sub, iI_neg]
    refine congrArg iI ?_
    omega
  · have e : n.log2 = 9 := log2_of (by omega) (by omega)
    rw [e]
    simp (disch := omega) only [if_pos, if_neg]
    simp only [← iI_nat, show (31 : Int32) = iI 31 from rfl, iI_add, iI_sub, iI_neg]
    refine congrArg iI ?_
    omega
  · have e : n.log2 = 10 := log2_of (by omega) (by omega)
    rw [e]
    simp (disch := omega) only [if_pos, if_neg]
    simp only [← iI_nat, show (31 : Int32) = iI 31 from rfl, iI_add, iI_sub, iI_neg]
    refine congrArg iI ?_
    omega
  · have e : n.log2 = 11 := log2_of (by omega) (by omega)
    rw [e]
    simp (disch := omega) only [if_pos, if_neg]
    simp only [← iI_nat, show (31 : Int32) = iI 31 from rfl, iI_add, iI_sub, iI_neg]
    refine congrArg iI ?_
    omega
  · have e : n.log2 = 12 := log2_of (by omega) (by omega)
    rw [e]
    simp (disch := omega) only [if_pos, if_neg]
    simp only [← iI_nat, show (31 : Int32) = iI 31 from rfl, iI_add, iI_sub, iI_neg]
    refine congrArg iI ?_
    omega
  · have e : n.log2 = 13 := log2_of (by omega) (by omega)
    rw [e]
    simp (disch := omega) only [if_pos, if_neg]
    simp only [← iI_nat, show (31 : Int32) = iI 31 from rfl, iI_add, iI_sub, iI_neg]
    refine congrArg iI ?_
    omega
  · have e : n.log2 = 14 := log2_of (by omega) (by omega)
    rw [e]
    simp (disch := omega) only [if_pos, if_neg]
    simp only [← iI_nat, show (31 : Int32) = iI 31 from rfl, iI_add, iI_sub, iI_neg]
    refine congrArg iI ?_
    omega
  · have e : n.log2 = 15 := log2_of (by omega) (by omega)
    rw [e]
    simp (disch := omega) only [if_pos, if_neg]
    simp only [← iI_nat, show (31 : Int32) = iI 31 from rfl, iI_add, iI_sub, iI_neg]
    refine congrArg iI ?_
    omega
  · have e : n.log2 = 16 := log2_of (by omega) (by omega)
    rw [e]
    simp (disch := omega) only [if_pos, if_neg]
    simp only [← iI_nat, show (31 : Int32) = iI 31 from rfl, iI_add, iI_sub, iI_neg]
    refine congrArg iI ?_
    omega
  · have e : n.log2 = 17 := log2_of (by omega) (by omega)
    rw [e]
    simp (disch := omega) only [if_pos, if_neg]
    simp only [← iI_nat, show (31 : Int32) = iI 31 from rfl, iI_add, iI_sub, iI_neg]
    refine congrArg iI ?_
    omega
  · have e : n.log2 = 18 := log2_of (by omega) (by omega)
    rw [e]
    simp (disch := omega) only [if_pos, if_neg]
    simp only [← iI_nat, show (31 : Int32) = iI 31 from rfl, iI_add, iI_sub, iI_neg]
    refine congrArg iI ?_
    omega
  · have e : n.log2 = 19 := log2_of (by omega) (by omega)
    rw [e]
    simp (disch := omega) only [if_pos, if_neg]
    simp only [← iI_nat, show (31 : Int32) = iI 31 from rfl, iI_add, iI_sub, iI_neg]
    refine congrArg iI ?_
    omega
  · have e : n.log2 = 20 := log2_of (by omega) (by omega)
    rw [e]
    simp (disch := omega) only [if_pos, if_neg]
    simp only [← iI_nat, show (31 : Int32) = iI 31 from rfl, iI_add, iI_sub, iI_neg]
    refine congrArg iI ?_
    omega
  · have e : n.log2 = 21 := log2_of (by omega) (by omega)
    rw [e]
    simp (disch := omega) only [if_pos, if_neg]
    simp only [← iI_nat, show (31 : Int32) = iI 31 from rfl, iI_add, iI_sub, iI_neg]
    refine congrArg iI ?_
    omega
  · have e : n.log2 = 22 := log2_of (by omega) (by omega)
    rw [e]
    simp (disch := omega) only [if_pos, if_neg]
    simp only [← iI_nat, show (31 : Int32) = iI 31 from rfl, iI_add, iI_sub, iI_neg]
    refine congrArg iI ?_
    omega
  · have e : n.log2 = 23 := log2_of (by omega) (by omega)
    rw [e]
    simp (disch := omega) only [if_pos, if_neg]
    simp only [← iI_nat, show (31 : Int32) = iI 31 from rfl, iI_add, iI_sub, iI_neg]
    refine congrArg iI ?_
    omega
  · have e : n.log2 = 24 := log2_of (by omega) (by omega)
    rw [e]
    simp (disch := omega) only [if_pos, if_neg]
    simp only [← iI_nat, show (31 : Int32) = iI 31 from rfl, iI_add, iI_sub, iI_neg]
    refine congrArg iI ?_
    omega
  · have e : n.log2 = 25 := log2_of (by omega) (by omega)
    rw [e]
    simp (disch := omega) only [if_pos, if_neg]
    simp only [← iI_nat, show (31 : Int32) = iI 31 from rfl, iI_add, iI_sub, iI_neg]
    refine congrArg iI ?_
    omega
  · have e : n.log2 = 26 := log2_of (by omega) (by omega)
    rw [e]
    simp (disch := omega) only [if_pos, if_neg]
    simp only [← iI_nat, show (31 : Int32) = iI 31 from rfl, iI_add, iI_sub, iI_neg]
    refine congrArg iI ?_
    omega
  · have e : n.log2 = 27 := log2_of (by omega) (by omega)
    rw [e]
    simp (disch := omega) only [if_pos, if_neg]
    simp only [← iI_nat, show (31 : Int32) = iI 31 from rfl, iI_add, iI_sub, iI_neg]
    refine congrArg iI ?_
    omega
  · have e : n.log2 = 28 := log2_of (by omega) (by omega)
    rw [e]
    simp (disch := omega) only [if_pos, if_neg]
    simp only [← iI_nat, show (31 : Int32) = iI 31 from rfl, iI_add, iI_sub, iI_neg]
    refine congrArg iI ?_
    omega
  · have e : n.log2 = 29 := log2_of (by omega) (by omega)
    rw [e]
    simp (disch := omega) only [if_pos, if_neg]
    simp only [← iI_nat, show (31 : Int32) = iI 31 from rfl, iI_add, iI_sub, iI_neg]
    refine congrArg iI ?_
    omega
  · have e : n.log2 = 30 := log2_of (by omega) (by omega)
    rw [e]
    simp (disch := omega) only [if_pos, if_neg]
    simp only [← iI_nat, show (31 : Int32) = iI 31 from rfl, iI_add, iI_sub, iI_neg]
    refine congrArg iI ?_
    omega
end REALS
