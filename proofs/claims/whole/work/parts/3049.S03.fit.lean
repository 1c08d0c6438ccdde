section FIT
/-- what is known of an instruction that fits -/
def FIT (o : Nat) (c : Nat → Int64) (d : DS) : Prop :=
  (∀ j, j < cntR o 4 → isK (dk d (2 * rgN o c j)) ∧ dn d (2 * rgN o c j) = dn d (2 * rgN o c 0) ∧ (alB o j = true → dk d (2 * rgN o c j) = dk d (2 * rgN o c 0)) ∧ ∀ i, i < dn d (2 * rgN o c 0) → okJ (dk d (2 * rgN o c j)) (di d (2 * rgN o c j) i))
  ∧ (1 ≤ dn d (2 * rgN o c 0) ∧ dn d (2 * rgN o c 0) ≤ 32)
  ∧ ((8 ≤ o ∧ o ≤ 13) ∨ (41 ≤ o ∧ o ≤ 43) ∨ o = 25 → ¬ isRk (dk d (2 * rgN o c 0))) ∧ (o = 16 → isRk (dk d (2 * rgN o c 0))) ∧ (o = 34 → dk d (2 * rgN o c 2) = 3) ∧ (o = 26 ∨ o = 27 → dk d (2 * rgN o c 1) = 3)
  ∧ (usA o = true → dk d (2 * arN c + 1) = dk d (2 * rgN o c 0) ∧ dn d (2 * arN c + 1) ≤ 64 ∧ ∀ i, i < dn d (2 * arN c + 1) → okJ (dk d (2 * rgN o c 0)) (di d (2 * arN c + 1) i))
theorem fit_of {o : Nat} {c : Nat → Int64} {d : DS} (ho : o < 46) (h0 : o ≠ 0) (hv : VC o c) (hd : WD d) (h : mfD o c d = 0) : FIT o c d := by
  obtain ⟨h1, hA⟩ := mfS_ok h0 h
  obtain ⟨p1, p2, p3, -, -, -⟩ := pos_all o (List.mem_range.mpr ho)
  have hR : ∀ j, j < cntR o 4 → isK (dk d (2 * rgN o c j)) ∧ dn d (2 * rgN o c j) = dn d (2 * rgN o c 0) ∧ (¬ ((f_X4_kinds (nI (letN o (posR o j)))) >>> (dk d (2 * rgN o c j) &&& 31)) &&& (1 : Int32) = 0) ∧ (1 ≤ dn d (2 * rgN o c j) ∧ dn d (2 * rgN o c j) ≤ 32) ∧ ∀ i, i < dn d (2 * rgN o c j) → okJ (dk d (2 * rgN o c j)) (di d (2 * rgN o c j) i) := by
    intro j hj
    obtain ⟨a1, a2, a3⟩ := p1 j (List.mem_range.mpr (by omega)) hj
    obtain ⟨b1, b2, b3, -⟩ := h1 _ a1 a2
    rw [a3] at b1 b2 b3
    have b1 : ¬ dk d (2 * rgN o c j) = -1 := b1
    have b3 : dn d (2 * rgN o c j) = dn d (2 * rgN o c 0) := of_decide_eq_true b3
    obtain ⟨r1, -⟩ := rg_is ho hv hj
    obtain ⟨w1, w2⟩ := hd.1 (2 * rgN o c j) (by omega)
    rcases w1 with w | w
    · exact absurd w.1 b1
    · exact ⟨w.1, b3, b2, w.2.2 (by omega), w2⟩
  have hW := wh_all o (List.mem_range.mpr ho)
  have h00 := hR 0 (by omega)
  refine ⟨fun j hj => ?_, h00.2.2.2.1, fun q => ?_, fun q => ?_, fun q => ?_, fun q => ?_, fun q => ?_⟩
  · obtain ⟨g1, g2, g3, g4, g5⟩ := hR j hj
    refine ⟨g1, g2, fun ha => ?_, fun i hi => g5 i (by omega)⟩
    by_cases z : j = 0
    · rw [z]
    · obtain ⟨s1, s2, s3⟩ := al_all o (List.mem_range.mpr ho) h0 j (List.mem_range.mpr (by omega)) hj ha z
      obtain ⟨a1, a2, a3⟩ := p1 j (List.mem_range.mpr (by omega)) hj
      obtain ⟨c1, c2, c3⟩ := p1 0 (List.mem_range.mpr (by omega)) (by omega)
      have := (h1 _ c1 c2).2.2.2 s1 _ s3 a1 a2 s2
      rw [a3, c3] at this
      exact this
  · rcases q with q | q | q
    · have := h00.2.2.1
      rw [hW.1 (Or.inl q)] at this
      exact kb_w h00.1 this
    · have := h00.2.2.1
      rw [hW.1 (Or.inr q)] at this
      exact kb_w h00.1 this
    · have := h00.2.2.1
      rw [hW.2.2.1 q] at this
      exact kb_h h00.1 this
  · have := h00.2.2.1
    rw [hW.2.1 q] at this
    exact kb_r h00.1 this
  · have h2 := hR 2 (by have := hW.2.2.2.2.2.2.mpr (Or.inr (Or.inr (Or.inl q))); omega)
    have := h2.2.2.1
    rw [hW.2.2.2.1 q] at this
    exact kb_i h2.1 this
  · have w : ¬ cntR o 4 ≤ 1 := fun z => absurd (hW.2.2.2.2.2.1.mp z) (by omega)
    have h2 := hR 1 (by omega)
    have := h2.2.2.1
    rw [hW.2.2.2.2.1 q] at this
    exact kb_i h2.1 this
  · obtain ⟨a1, a2⟩ := hA q
    obtain ⟨r1, -⟩ := ar_is ho hv q
    have a1 : ¬ dk d (2 * arN c + 1) = -1 := a1
    have a2 : dk d (2 * arN c + 1) = dk d (2 * rgN o c 0) := a2
    obtain ⟨w1, w2⟩ := hd.1 (2 * arN c + 1) (by omega)
    rcases w1 with w | w
    · exact absurd w.1 a1
    · exact ⟨a2, w.2.1, fun i hi => a2 ▸ w2 i hi⟩
/-- bits of whole kinds -/
theorem low2 (x : Int64) : f_X3_lowBits 2 x = x &&& 65535 := by
  unfold f_X3_lowBits
  rw [if_neg (by decide), if_neg (by decide), if_pos rfl, pk_char]
  have h : x.toInt32.toBitVec.toNat % 65536 = x.toBitVec.toNat % 65536 := by
    rw [Int64.toBitVec_toInt32, BitVec.signExtend_eq_setWidth_of_le _ (by decide), BitVec.toNat_setWidth, Nat.mod_mod_of_dvd _ (by decide)]
  rw [h, nI_toL (by have := Nat.mod_lt x.toBitVec.toNat (show 0 < 65536 by decide); omega)]
  apply Int64.toBitVec_inj.mp
  apply BitVec.eq_of_toNat_eq
  show (BitVec.ofNat 64 (x.toBitVec.toNat % 65536)).toNat = (x.toBitVec &&& 65535#64).toNat
  rw [BitVec.toNat_ofNat, BitVec.toNat_and, Nat.mod_eq_of_lt (by have := Nat.mod_lt x.toBitVec.toNat (show 0 < 65536 by decide); omega)]
  exact (Nat.and_two_pow_sub_one_eq_mod x.toBitVec.toNat 16).symm
theorem and_and_r (x y m : Int64) : (x &&& y) &&& m = (x &&& m) &&& (y &&& m) := by
  apply Int64.toBitVec_inj.mp
  simp only [Int64.toBitVec_and]
  apply BitVec.eq_of_getLsbD_eq
  intro i _
  simp only [BitVec.getLsbD_and]
  cases x.toBitVec.getLsbD i <;> cases y.toBitVec.getLsbD i <;> cases m.toBitVec.getLsbD i <;> rfl
theorem or_and_r (x y m : Int64) : (x ||| y) &&& m = (x &&& m) ||| (y &&& m) := by
  apply Int64.toBitVec_inj.mp
  simp only [Int64.toBitVec_and, Int64.toBitVec_or]
  apply BitVec.eq_of_getLsbD_eq
  intro i _
  simp only [BitVec.getLsbD_and, BitVec.getLsbD_or]
  cases x.toBitVec.getLsbD i <;> cases y.toBitVec.getLsbD i <;> cases m.toBitVec.getLsbD i <;> rfl
theorem xor_and_r (x y m : Int64) : (x ^^^ y) &&& m = (x &&& m) ^^^ (y &&& m) := by
  apply Int64.toBitVec_inj.mp
  simp only [Int64.toBitVec_and, Int64.toBitVec_xor]
  apply BitVec.eq_of_getLsbD_eq
  intro i _
  simp only [BitVec.getLsbD_and, BitVec.getLsbD_xor]
  cases x.toBitVec.getLsbD i <;> cases y.toBitVec.getLsbD i <;> cases m.toBitVec.getLsbD i <;> rfl
theorem nRk {k : Int32} (h : isK k) (hr : ¬ isRk k) : k = 0 ∨ k = 1 ∨ k = 2 ∨ k = 3 ∨ k = 4 := by
  rcases h with h | h | h | h | h | h | h
  · exact Or.inl h
  · exact Or.inr (Or.inl h)
  · exact Or.inr (Or.inr (Or.inl h))
  · exact Or.inr (Or.inr (Or.inr (Or.inl h)))
  · exact Or.inr (Or.inr (Or.inr (Or.inr h)))
  · exact absurd (Or.inl h) hr
  · exact absurd (Or.inr h) hr
theorem low_0 (x : Int64) : f_X3_lowBits 0 x = (x.toInt32.toInt8.toInt32).toInt64 := rfl
theorem low_1 (x : Int64) : f_X3_lowBits 1 x = (x.toInt32.toInt16.toInt32).toInt64 := rfl
theorem low_3 (x : Int64) : f_X3_lowBits 3 x = x.toInt32.toInt64 := rfl
theorem low_4 (x : Int64) : f_X3_lowBits 4 x = x := rfl
theorem low_and {k : Int32} (hk : isK k) (hr : ¬ isRk k) (x y : Int64) : f_X3_lowBits k (x &&& y) = f_X3_lowBits k x &&& f_X3_lowBits k y := by
  rcases nRk hk hr with rfl | rfl | rfl | rfl | rfl
  · simp only [low_0, Int64.toInt32_and, Int32.toInt8_and, Int8.toInt32_and, Int32.toInt64_and]
  · simp only [low_1, Int64.toInt32_and, Int32.toInt16_and, Int16.toInt32_and, Int32.toInt64_and]
  · rw [low2, low2, low2, and_and_r]
  · simp only [low_3, Int64.toInt32_and, Int32.toInt64_and]
  · rfl
theorem low_or {k : Int32} (hk : isK k) (hr : ¬ isRk k) (x y : Int64) : f_X3_lowBits k (x ||| y) = f_X3_lowBits k x ||| f_X3_lowBits k y := by
  rcases nRk hk hr with rfl | rfl | rfl | rfl | rfl
  · simp only [low_0, Int64.toInt32_or, Int32.toInt8_or, Int8.toInt32_or, Int32.toInt64_or]
  · simp only [low_1, Int64.toInt32_or, Int32.toInt16_or, Int16.toInt32_or, Int32.toInt64_or]
  · rw [low2, low2, low2, or_and_r]
  · simp only [low_3, Int64.toInt32_or, Int32.toInt64_or]
  · rfl
theorem low_xor {k : Int32} (hk : isK k) (hr : ¬ isRk k) (x y : Int64) : f_X3_lowBits k (x ^^^ y) = f_X3_lowBits k x ^^^ f_X3_lowBits k y := by
  rcases nRk hk hr with rfl | rfl | rfl | rfl | rfl
  · simp only [low_0, Int64.toInt32_xor, Int32.toInt8_xor, Int8.toInt32_xor, Int32.toInt64_xor]
  · simp only [low_1, Int64.toInt32_xor, Int32.toInt16_xor, Int16.toInt32_xor, Int32.toInt64_xor]
  · rw [low2, low2, low2, xor_and_r]
  · simp only [low_3, Int64.toInt32_xor, Int32.toInt64_xor]
  · rfl
/-- the least and the greatest of a whole kind -/
def loK (k : Int32) : Int := if k = 0 then -128 else if k = 1 then -32768 else if k = 2 then 0 else if k = 3 then -2147483648 else -9223372036854775808
def hiK (k : Int32) : Int := if k = 0 then 127 else if k = 1 then 32767 else if k = 2 then 65535 else if k = 3 then 2147483647 else 9223372036854775807
theorem bmod_rng {z : Int} {n : Nat} (h : 0 < n) : z.bmod (2 * n) = z ↔ -(n : Int) ≤ z ∧ z < n := by
  have h1 := Int.le_bmod (x := z) (m := 2 * n) (by omega)
  have h2 := Int.bmod_lt (x := z) (m := 2 * n) (by omega)
  constructor
  · intro e
    omega
  · intro ⟨a, b⟩
    exact Int.bmod_eq_of_le (by omega) (by omega)
theorem low_rng {k : Int32} (hk : isK k) (hr : ¬ isRk k) (x : Int64) : f_X3_lowBits k x = x ↔ loK k ≤ x.toInt ∧ x.toInt ≤ hiK k := by
  have hx := fb_rngL x
  rcases nRk hk hr with rfl | rfl | rfl | rfl | rfl
  · rw [low_0, ← Int64.toInt_inj, Int32.toInt_toInt64, Int8.toInt_toInt32, Int32.toInt_toInt8, Int64.toInt_toInt32, Int.bmod_bmod_of_dvd (by decide), show (2 ^ 8 : Nat) = 2 * 128 from rfl, bmod_rng (by decide)]
    show _ ↔ (-128 : Int) ≤ _ ∧ _ ≤ (127 : Int)
    omega
  · rw [low_1, ← Int64.toInt_inj, Int32.toInt_toInt64, Int16.toInt_toInt32, Int32.toInt_toInt16, Int64.toInt_toInt32, Int.bmod_bmod_of_dvd (by decide), show (2 ^ 16 : Nat) = 2 * 32768 from rfl, bmod_rng (by decide)]
    show _ ↔ (-32768 : Int) ≤ _ ∧ _ ≤ (32767 : Int)
    omega
  · show _ ↔ (0 : Int) ≤ _ ∧ _ ≤ (65535 : Int)
    have e : f_X3_lowBits 2 x = lN (x.toBitVec.toNat % 65536) := by
      unfold f_X3_lowBits
      rw [if_neg (by decide), if_neg (by decide), if_pos rfl, pk_char]
      have h : x.toInt32.toBitVec.toNat % 65536 = x.toBitVec.toNat % 65536 := by
        rw [Int64.toBitVec_toInt32, BitVec.signExtend_eq_setWidth_of_le _ (by decide), BitVec.toNat_setWidth, Nat.mod_mod_of_dvd _ (by decide)]
      rw [h, nI_toL (by have := Nat.mod_lt x.toBitVec.toNat (show 0 < 65536 by decide); omega)]
    have hm := Nat.mod_lt x.toBitVec.toNat (show 0 < 65536 by decide)
    constructor
    · intro q
      rw [← q, e, l6_int (by omega)]
      omega
    · intro ⟨a, b⟩
      have ht : x.toInt = (x.toBitVec.toNat : Int) := by
        have := BitVec.toInt_eq_toNat_cond x.toBitVec
        have w : x.toInt = x.toBitVec.toInt := rfl
        rw [w] at a b ⊢
        split at this <;> omega
      rw [e]
      refine Int64.toInt_inj.mp ?_
      rw [l6_int (by omega), ht]
      omega
  · rw [low_3, ← Int64.toInt_inj, Int32.toInt_toInt64, Int64.toInt_toInt32, show (2 ^ 32 : Nat) = 2 * 2147483648 from rfl, bmod_rng (by decide)]
    show _ ↔ (-2147483648 : Int) ≤ _ ∧ _ ≤ (2147483647 : Int)
    omega
  · rw [low_4]
    show _ ↔ (-9223372036854775808 : Int) ≤ _ ∧ _ ≤ (9223372036854775807 : Int)
    constructor
    · intro _
      omega
    · intro _
      rfl
theorem shr_rng {lo hi z : Int} (h0 : lo ≤ 0) (h1 : 0 ≤ hi) (s : Nat) (h : lo ≤ z ∧ z ≤ hi) : lo ≤ z >>> s ∧ z >>> s ≤ hi := by
  rw [Int.shiftRight_eq_div_pow]
  have hp : (0 : Int) < ((2 ^ s : Nat) : Int) := by have := Nat.two_pow_pos s; omega
  refine ⟨?_, ?_⟩
  · refine (Int.le_ediv_iff_mul_le hp).mpr ?_
    have : lo * ((2 ^ s : Nat) : Int) ≤ lo * 1 := Int.mul_le_mul_of_nonpos_left h0 (by omega)
    omega
  · by_cases w : 0 ≤ z
    · exact Int.le_trans (Int.ediv_le_self _ w) h.2
    · have := Int.ediv_neg_of_neg_of_pos (show z < 0 by omega) hp
      omega
theorem lo_hi {k : Int32} (hk : isK k) (hr : ¬ isRk k) : loK k ≤ 0 ∧ 0 ≤ hiK k := by
  rcases nRk hk hr with rfl | rfl | rfl | rfl | rfl <;> decide
theorem shr_int (x b : Int64) : ∃ s : Nat, (x >>> b).toInt = x.toInt >>> s := ⟨(b.toBitVec.smod 64).toNat, BitVec.toInt_sshiftRight⟩
end FIT
