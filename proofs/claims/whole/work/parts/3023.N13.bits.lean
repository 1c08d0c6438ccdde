section BITS2
theorem nat_xor_add {k b a : Nat} (ha : a < 2 ^ k) : a ^^^ (b * 2 ^ k) = b * 2 ^ k + a := by
  rw [← Nat.shiftLeft_eq, Nat.shiftLeft_add_eq_or_of_lt ha, Nat.shiftLeft_eq, Nat.mul_comm b]
  refine Nat.eq_of_testBit_eq fun i => ?_
  rw [Nat.testBit_xor, Nat.testBit_or, Nat.testBit_two_pow_mul]
  by_cases h : k ≤ i
  · rw [Nat.testBit_lt_two_pow (Nat.lt_of_lt_of_le ha (Nat.pow_le_pow_right (by decide) h))]
    simp
  · simp [h]
theorem nat_xor_sub {k b a : Nat} (ha : a < 2 ^ k) : (b * 2 ^ k + a) ^^^ (b * 2 ^ k) = a := by
  rw [← nat_xor_add ha, Nat.xor_assoc, Nat.xor_self, Nat.xor_zero]
theorem lt63 {k : Int32} (hk : isRk k) {n : Nat} (h : n ≤ iN k) : n < 2 ^ 63 := by
  rcases hk with rfl | rfl
  · rw [iN5] at h; omega
  · rw [iN6] at h; omega
theorem sb_xor {k : Int32} (hk : isRk k) {s : Bool} {n : Nat} (h : n ≤ iN k) : bk k s n ^^^ f_X3_signBits k = bk k (!s) n := by
  rcases hk with rfl | rfl
  · rw [iN5] at h
    have e : f_X3_signBits 5 = lN (8589934591 * 2 ^ 31) := by decide +kernel
    rw [e]
    cases s with
    | false => show lN n ^^^ _ = lN (18446744071562067968 + n); rw [fb_xorL, nat_xor_add (by omega)]
    | true => show lN (18446744071562067968 + n) ^^^ _ = lN n; rw [fb_xorL, show (18446744071562067968 + n) = 8589934591 * 2 ^ 31 + n from by omega, nat_xor_sub (by omega)]
  · rw [iN6] at h
    have e : f_X3_signBits 6 = lN (1 * 2 ^ 63) := by decide +kernel
    rw [e]
    cases s with
    | false => show lN n ^^^ _ = lN (9223372036854775808 + n); rw [fb_xorL, nat_xor_add (by omega)]
    | true => show lN (9223372036854775808 + n) ^^^ _ = lN n; rw [fb_xorL, show (9223372036854775808 + n) = 1 * 2 ^ 63 + n from by omega, nat_xor_sub (by omega)]
theorem turned_bk {k : Int32} (hk : isRk k) {s : Bool} {n : Nat} (h : n ≤ iN k) : f_X3_turned k (bk k s n) = bk k (!s) n := by
  unfold f_X3_turned
  rw [iT_t (P_isReal hk), sb_xor hk h]
theorem infinite_lN {k : Int32} (hk : isRk k) : f_X3_infinite k = lN (iN k) := by
  rcases hk with rfl | rfl
  · rw [iN5]; decide +kernel
  · rw [iN6]; decide +kernel
theorem inf_bk {k : Int32} (hk : isRk k) {s : Bool} {n : Nat} (h : n ≤ iN k) : P_X3_isInfinite k (bk k s n) ↔ iN k ≤ n := by
  unfold P_X3_isInfinite
  rw [mg_bk hk h, infinite_lN hk, l6_lt (lt63 hk h) (lt63 hk (Nat.le_refl _)), Nat.not_lt]
  exact ⟨fun q => q.2, fun q => ⟨P_isReal hk, q⟩⟩
theorem val_bk {k : Int32} (hk : isRk k) {s : Bool} {n : Nat} (h : n ≤ iN k) : f_X3_value k (bk k s n) = lI (if s then -(n : Int) else n) := by
  unfold f_X3_value
  rw [iT_t (P_isReal hk), mg_bk hk h]
  have hn := lt63 hk h
  cases s with
  | false => rw [if_pos ((bk_pos hk h).mpr rfl)]; show lN n = _; rw [if_neg (by decide)]; rfl
  | true =>
    rw [if_neg (fun q => by have := (bk_pos hk h).mp q; cases this), if_pos rfl]
    exact lI_neg n
theorem not_lN {n : Nat} (h : n < 2 ^ 63) : lN n ^^^ (-1 : Int64) = lI (-1 - (n : Int)) := by
  rw [Int64.xor_neg_one]
  have h1 : -lI (n : Int) = ~~~(lN n) + 1 := Int64.neg_eq_not_add (lN n)
  have h2 : ~~~(lN n) = -lI (n : Int) - 1 := by rw [h1, Int64.add_sub_cancel]
  rw [h2, lI_neg]
  show lI _ - lI 1 = _
  rw [lI_sub]
  congr 1
  omega
theorem ord_bk {k : Int32} (hk : isRk k) {s : Bool} {n : Nat} (h : n ≤ iN k) : f_X3_order k (bk k s n) = lI (if s then -1 - (n : Int) else n) := by
  unfold f_X3_order
  rw [iT_t (P_isReal hk), mg_bk hk h]
  have hn := lt63 hk h
  cases s with
  | false => rw [if_pos ((bk_pos hk h).mpr rfl)]; show lN n = _; rw [if_neg (by decide)]; rfl
  | true => rw [if_neg (fun q => by have := (bk_pos hk h).mp q; cases this), if_pos rfl, not_lN hn]
theorem zero_bk {k : Int32} (hk : isRk k) {s : Bool} {n : Nat} (h : n ≤ iN k) : P_X3_isZero k (bk k s n) ↔ n = 0 := by
  unfold P_X3_isZero
  have hn := lt63 hk h
  rw [val_bk hk h, show (0 : Int64) = lI 0 from rfl, lI_eq (by split <;> omega) (by decide)]
  split <;> omega
end BITS2
