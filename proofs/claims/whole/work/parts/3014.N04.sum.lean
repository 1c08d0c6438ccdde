section DEC
/-- the encoding of a sign and a magnitude -/
def eb (k : Int32) (s : Bool) (n : Nat) : Nat := s.toNat * ((fm k).exps * (fm k).tails) + n
theorem fmt5 : fm 5 = FP.Core.b32 := rfl
theorem fmt6 : fm 6 = FP.Core.b64 := by unfold fm; rw [if_neg (by decide)]
theorem dec_eb {k : Int32} (hk : isRk k) {s : Bool} {n : Nat} (h : n < iN k) : FP.Core.decode (fm k) (eb k s n) = .fin s (sgN (fm k) n) (exN (fm k) n) := by
  obtain ⟨fb, f1, f2, f3, f4, f5, f6, f7, f8, f9, f10, f11, f12, f13⟩ := FKof hk
  unfold iN at h
  unfold eb
  generalize fm k = F at *
  have hT : 0 < F.tails := Nat.two_pow_pos _
  have hE : 2 ≤ F.exps := f12
  have e1 : (s.toNat * (F.exps * F.tails) + n) % F.tails = n % F.tails := by
    rw [← Nat.mul_assoc, Nat.add_comm, Nat.add_mul_mod_self_right]
  have e2 : (s.toNat * (F.exps * F.tails) + n) / F.tails = s.toNat * F.exps + n / F.tails := by
    rw [← Nat.mul_assoc, Nat.add_comm, Nat.add_mul_div_right _ _ hT, Nat.add_comm]
  have hn : n / F.tails < F.exps - 1 := by
    rw [Nat.div_lt_iff_lt_mul hT]
    exact h
  have e3 : (s.toNat * F.exps + n / F.tails) % F.exps = n / F.tails := by
    rw [Nat.add_comm, Nat.add_mul_mod_self_right, Nat.mod_eq_of_lt (by omega)]
  have e4 : (s.toNat * F.exps + n / F.tails) / F.exps = s.toNat := by
    rw [Nat.add_comm, Nat.add_mul_div_right _ _ (by omega), Nat.div_eq_of_lt (by omega), Nat.zero_add]
  unfold FP.Core.decode FP.Core.fieldE FP.Core.fieldT FP.Core.fieldS sgN exN
  rw [e1, e2, e3, e4, if_neg (by omega)]
  have hs : (s.toNat % 2 == 1) = s := by cases s <;> rfl
  rw [hs]
  by_cases q : n / F.tails = 0
  · rw [if_pos q, if_pos q, q]
    show FP.Core.Datum.fin s (n % F.tails) F.qmin = FP.Core.Datum.fin s (n % F.tails) (F.qmin + ((0 : Nat) : Int))
    rw [show ((0 : Nat) : Int) = 0 from rfl, Int.add_zero]
  · rw [if_neg q, if_neg q]
    congr 1
    congr 1
    omega
theorem enc_eb {k : Int32} (hk : isRk k) {s : Bool} {m : Nat} {e : Int} : FP.Core.encode (fm k) (FP.Core.roundRatio (fm k) s m 1 e) = eb k s (pm (fm k) m e) := by
  obtain ⟨fb, f1, f2, f3, f4, f5, f6, f7, f8, f9, f10, f11, f12, f13⟩ := FKof hk
  unfold eb pm
  by_cases h : m = 0
  · subst h
    rw [if_pos rfl, enc_zero, Nat.add_zero]
  · rw [if_neg h, enc_round (by omega) f10 (by omega)]
theorem eb_lt {k : Int32} (hk : isRk k) {s : Bool} {n : Nat} (h : n ≤ iN k) : (k = 5 → eb k s n < 2 ^ 32) ∧ eb k s n < 2 ^ 64 := by
  unfold eb
  rcases hk with rfl | rfl
  · have e : (fm 5).exps * (fm 5).tails = 2147483648 := by decide +kernel
    rw [e]
    rw [iN5] at h
    cases s <;> simp <;> omega
  · have e : (fm 6).exps * (fm 6).tails = 9223372036854775808 := by decide +kernel
    rw [e]
    rw [iN6] at h
    cases s <;> simp <;> omega
theorem bk_u64 {s : Bool} {n : Nat} : (bk 6 s n).toUInt64 = UInt64.ofNat (eb 6 s n) := by
  have e : (fm 6).exps * (fm 6).tails = 9223372036854775808 := by decide +kernel
  unfold eb bk
  rw [e]
  cases s with
  | false => show (lN n).toUInt64 = UInt64.ofNat (0 * _ + n); rw [Nat.zero_mul, Nat.zero_add]; rfl
  | true => show (lN (9223372036854775808 + n)).toUInt64 = UInt64.ofNat (1 * 9223372036854775808 + n); rw [Nat.one_mul]; rfl
theorem u64_bk {s : Bool} {n : Nat} : (UInt64.ofNat (eb 6 s n)).toInt64 = bk 6 s n := by
  rw [← bk_u64]
  rfl
theorem lN_mod32 {a b : Nat} (h : a % 2 ^ 32 = b % 2 ^ 32) : (lN a).toInt32 = nI b := by
  rw [lN_i]
  apply Int32.toBitVec_inj.mp
  show BitVec.ofNat 32 a = BitVec.ofNat 32 b
  apply BitVec.eq_of_toNat_eq
  rw [BitVec.toNat_ofNat, BitVec.toNat_ofNat, h]
theorem bk_u32 {s : Bool} {n : Nat} (h : n ≤ iN 5) : (bk 5 s n).toInt32.toUInt32 = UInt32.ofNat (eb 5 s n) := by
  have e : (fm 5).exps * (fm 5).tails = 2147483648 := by decide +kernel
  unfold eb bk
  rw [e]
  rw [iN5] at h
  cases s with
  | false => show (lN n).toInt32.toUInt32 = UInt32.ofNat (0 * _ + n); rw [Nat.zero_mul, Nat.zero_add, lN_i]; rfl
  | true =>
    show (lN (18446744071562067968 + n)).toInt32.toUInt32 = UInt32.ofNat (1 * 2147483648 + n)
    rw [lN_mod32 (b := 1 * 2147483648 + n) (by omega)]
    rfl
theorem nI_l5 {s : Bool} {n : Nat} (h : n ≤ iN 5) : (nI (eb 5 s n)).toInt64 = bk 5 s n := by
  have e : (fm 5).exps * (fm 5).tails = 2147483648 := by decide +kernel
  rw [fa_eq64, Int32.toInt_toInt64, bk_int (Or.inl rfl) h]
  unfold eb
  rw [e]
  rw [iN5] at h
  cases s with
  | false => simp only [Bool.toNat_false, Nat.zero_mul, Nat.zero_add]; rw [nI_toInt (by omega)]; simp
  | true =>
    simp only [Bool.toNat_true, Nat.one_mul, if_true]
    have : nI (2147483648 + n) = iI ((n : Int) - 2147483648) := by
      rw [← iI_nat, show (((2147483648 + n : Nat)) : Int) = ((n : Int) - 2147483648) + 4294967296 by omega, ← iI_add]
      rw [show iI 4294967296 = 0 by decide, Int32.add_zero]
    rw [this, iI_toInt (by omega) (by omega)]
theorem u32_bk {s : Bool} {n : Nat} (h : n ≤ iN 5) : (UInt32.ofNat (eb 5 s n)).toInt32.toInt64 = bk 5 s n := by
  rw [← nI_l5 h]
  rfl
end DEC
section SUM
/-- a sum's sign and magnitude -/
def suV (F : FP.Core.Fmt) (s : Bool) (n : Nat) (t : Bool) (m : Nat) : Int := FP.Core.sumUnits s (sgN F n) (exN F n) t (sgN F m) (exN F m) (min (exN F n) (exN F m))
def suS (k : Int32) (s : Bool) (n : Nat) (t : Bool) (m : Nat) : Bool := FP.Core.sumSign s t (suV (fm k) s n t m)
def suM (k : Int32) (s : Bool) (n : Nat) (t : Bool) (m : Nat) : Nat := pm (fm k) (suV (fm k) s n t m).natAbs (min (exN (fm k) n) (exN (fm k) m))
theorem add_eb {k : Int32} (hk : isRk k) {s t : Bool} {n m : Nat} (hn : n < iN k) (hm : m < iN k) : FP.Core.add (fm k) (eb k s n) (eb k t m) = eb k (suS k s n t m) (suM k s n t m) := by
  unfold FP.Core.add
  rw [dec_eb hk hn, dec_eb hk hm]
  exact enc_eb hk
end SUM
