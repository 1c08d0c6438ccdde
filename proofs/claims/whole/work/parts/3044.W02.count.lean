section COUNT
/-- the bits of a word that are on -/
def cntW (w : Int32) : Nat := fb_ct (fun i => bt w i) 32
def g1 (b : Nat) : Nat := b - ((b / 2) &&& 85)
def g2 (x : Nat) : Nat := (x &&& 51) + ((x / 4) &&& 51)
def g3 (y : Nat) : Nat := (y + y / 16) &&& 15
theorem byte_all : ∀ b ∈ List.range 256, ((b / 2) &&& 85 ≤ b) ∧ ((b / 2 + 128) &&& 85 = (b / 2) &&& 85) ∧ g1 b < 256 ∧ g2 (g1 b) ≤ 68 ∧ g2 (g1 b) % 16 ≤ 4 ∧ g3 (g2 (g1 b)) = fb_ct (fun i => b.testBit i) 8 ∧ g3 (g2 (g1 b)) ≤ 8
   ∧ (∀ c ∈ List.range 4, (b / 4 + 64 * c) &&& 51 = (b / 4) &&& 51) := by decide +kernel
theorem byte_3 : ∀ y ∈ List.range 69, ∀ c ∈ List.range 5, (y + y / 16 + 16 * c) &&& 15 = g3 y := by decide +kernel
theorem and_byte {a b m n : Nat} (ha : a < 256) (hm : m < 256) : (a + 256 * b) &&& (m + 256 * n) = (a &&& m) + 256 * (b &&& n) := by
  have hlt : a &&& m < 256 := Nat.lt_of_le_of_lt Nat.and_le_left ha
  have h1 : ((a + 256 * b) &&& (m + 256 * n)) % 2 ^ 8 = a &&& m := by
    rw [Nat.and_mod_two_pow, show (a + 256 * b) % 2 ^ 8 = a by omega, show (m + 256 * n) % 2 ^ 8 = m by omega]
  have h2 : ((a + 256 * b) &&& (m + 256 * n)) / 2 ^ 8 = b &&& n := by
    rw [Nat.and_div_two_pow, show (a + 256 * b) / 2 ^ 8 = b by omega, show (m + 256 * n) / 2 ^ 8 = n by omega]
  omega
theorem and4 {a b c d : Nat} (ha : a < 256) (hb : b < 256) (hc : c < 256) (hd : d < 256) (m : Nat) (hm : m < 256) : (a + 256 * (b + 256 * (c + 256 * d))) &&& (m + 256 * (m + 256 * (m + 256 * m))) = (a &&& m) + 256 * ((b &&& m) + 256 * ((c &&& m) + 256 * (d &&& m))) := by
  rw [and_byte ha hm, and_byte hb hm, and_byte hc hm]
def W4 (a b c d : Nat) : Nat := a + 256 * (b + 256 * (c + 256 * d))
theorem and4' {a b c d m M : Nat} (ha : a < 256) (hb : b < 256) (hc : c < 256) (hd : d < 256) (hm : m < 256) (hM : M = W4 m m m m) : W4 a b c d &&& M = W4 (a &&& m) (b &&& m) (c &&& m) (d &&& m) := by
  subst hM; exact and4 ha hb hc hd m hm
theorem s1_byte {b c : Nat} (hb : b < 256) : (b / 2 + 128 * (c % 2)) &&& 85 = (b / 2) &&& 85 := by
  have h := (byte_all b (List.mem_range.mpr hb)).2.1
  rcases Nat.mod_two_eq_zero_or_one c with e | e
  · rw [e]; rfl
  · rw [e]; exact h
theorem s1 {a b c d : Nat} (ha : a < 256) (hb : b < 256) (hc : c < 256) (hd : d < 256) : (W4 a b c d / 2 &&& 1431655765) ≤ W4 a b c d ∧ W4 a b c d - (W4 a b c d / 2 &&& 1431655765) = W4 (g1 a) (g1 b) (g1 c) (g1 d) := by
  have e : W4 a b c d / 2 = W4 (a / 2 + 128 * (b % 2)) (b / 2 + 128 * (c % 2)) (c / 2 + 128 * (d % 2)) (d / 2 + 128 * (0 % 2)) := by unfold W4; omega
  have h0 := (byte_all a (List.mem_range.mpr ha)).1
  have h1 := (byte_all b (List.mem_range.mpr hb)).1
  have h2 := (byte_all c (List.mem_range.mpr hc)).1
  have h3 := (byte_all d (List.mem_range.mpr hd)).1
  rw [e, and4' (m := 85) (by omega) (by omega) (by omega) (by omega) (by decide) (by decide), s1_byte ha, s1_byte hb, s1_byte hc, s1_byte hd]
  unfold W4 g1
  omega
theorem s2_byte {b c : Nat} (hb : b < 256) : (b / 4 + 64 * (c % 4)) &&& 51 = (b / 4) &&& 51 := (byte_all b (List.mem_range.mpr hb)).2.2.2.2.2.2.2 (c % 4) (List.mem_range.mpr (by omega))
theorem s2 {a b c d : Nat} (ha : a < 256) (hb : b < 256) (hc : c < 256) (hd : d < 256) : (W4 a b c d &&& 858993459) + (W4 a b c d / 4 &&& 858993459) = W4 (g2 a) (g2 b) (g2 c) (g2 d) := by
  have e : W4 a b c d / 4 = W4 (a / 4 + 64 * (b % 4)) (b / 4 + 64 * (c % 4)) (c / 4 + 64 * (d % 4)) (d / 4 + 64 * (0 % 4)) := by unfold W4; omega
  rw [e, and4' (m := 51) (by omega) (by omega) (by omega) (by omega) (by decide) (by decide), and4' (m := 51) (by omega) (by omega) (by omega) (by omega) (by decide) (by decide), s2_byte ha, s2_byte hb, s2_byte hc, s2_byte hd]
  unfold W4 g2
  omega
theorem s3 {a b c d : Nat} (ha : a ≤ 68) (hb : b ≤ 68 ∧ b % 16 ≤ 4) (hc : c ≤ 68 ∧ c % 16 ≤ 4) (hd : d ≤ 68 ∧ d % 16 ≤ 4) : (W4 a b c d + W4 a b c d / 16) &&& 252645135 = W4 (g3 a) (g3 b) (g3 c) (g3 d) := by
  have e : W4 a b c d + W4 a b c d / 16 = W4 (a + a / 16 + 16 * (b % 16)) (b + b / 16 + 16 * (c % 16)) (c + c / 16 + 16 * (d % 16)) (d + d / 16 + 16 * 0) := by unfold W4; omega
  rw [e, and4' (m := 15) (by omega) (by omega) (by omega) (by omega) (by decide) (by decide),
    byte_3 a (List.mem_range.mpr (by omega)) _ (List.mem_range.mpr (by omega)), byte_3 b (List.mem_range.mpr (by omega)) _ (List.mem_range.mpr (by omega)), byte_3 c (List.mem_range.mpr (by omega)) _ (List.mem_range.mpr (by omega)), byte_3 d (List.mem_range.mpr (by omega)) 0 (by decide)]
theorem s4 {a b c d z z2 : Nat} (ha : a ≤ 8) (hb : b ≤ 8) (hc : c ≤ 8) (hd : d ≤ 8) (hz : z = W4 a b c d) (hz2 : z2 = z + z / 256) : (z2 + z2 / 65536) % 64 = a + b + c + d := by
  unfold W4 at hz
  have h1 : z / 256 = b + 256 * (c + 256 * d) := by omega
  have h2 : z2 = (a + b) + 256 * (b + c) + 65536 * ((c + d) + 256 * d) := by omega
  have h3 : z2 / 65536 = (c + d) + 256 * d := by omega
  have h4 : z2 + z2 / 65536 = (a + b + c + d) + 64 * (4 * (b + c) + 1024 * ((c + d) + 256 * d) + 4 * d) := by omega
  rw [h4]
  omega
theorem bitCount_n {W : Nat} (hW : W < 2 ^ 32) : f_J6_bitCount_0f7a4 (nI W) = nI (cntW (nI W)) := by
  obtain ⟨a, b, c, d, ha, hb, hc, hd, e⟩ : ∃ a b c d, a < 256 ∧ b < 256 ∧ c < 256 ∧ d < 256 ∧ W = W4 a b c d := ⟨W % 256, W / 256 % 256, W / 65536 % 256, W / 16777216, by omega, by omega, by omega, by omega, by unfold W4; omega⟩
  have hA := byte_all a (List.mem_range.mpr ha)
  have hB := byte_all b (List.mem_range.mpr hb)
  have hC := byte_all c (List.mem_range.mpr hc)
  have hD := byte_all d (List.mem_range.mpr hd)
  have e1 := s1 ha hb hc hd
  rw [← e] at e1
  have e2 := s2 hA.2.2.1 hB.2.2.1 hC.2.2.1 hD.2.2.1
  have e3 := s3 hA.2.2.2.1 ⟨hB.2.2.2.1, hB.2.2.2.2.1⟩ ⟨hC.2.2.2.1, hC.2.2.2.2.1⟩ ⟨hD.2.2.2.1, hD.2.2.2.2.1⟩
  have e4 := s4 hA.2.2.2.2.2.2.1 hB.2.2.2.2.2.2.1 hC.2.2.2.2.2.2.1 hD.2.2.2.2.2.2.1 rfl rfl
  have x1 : nI W - (((nI W).toUInt32 >>> ((1 : Int32).toUInt32 &&& Int32.toUInt32 31)).toInt32 &&& (1431655765 : Int32)) = nI (W4 (g1 a) (g1 b) (g1 c) (g1 d)) := by
    rw [show (1 : Int32) = nI 1 from rfl, ush_i hW (by decide), show (1431655765 : Int32) = nI 1431655765 from rfl, nx_and, pk_sub (by exact e1.1)]
    rw [← e1.2]
  have hX : W4 (g1 a) (g1 b) (g1 c) (g1 d) < 2 ^ 32 := by have := hA.2.2.1; have := hB.2.2.1; have := hC.2.2.1; have := hD.2.2.1; unfold W4; omega
  have x2 : (nI (W4 (g1 a) (g1 b) (g1 c) (g1 d)) &&& (858993459 : Int32)) + (((nI (W4 (g1 a) (g1 b) (g1 c) (g1 d))).toUInt32 >>> ((2 : Int32).toUInt32 &&& Int32.toUInt32 31)).toInt32 &&& (858993459 : Int32)) = nI (W4 (g2 (g1 a)) (g2 (g1 b)) (g2 (g1 c)) (g2 (g1 d))) := by
    rw [show (2 : Int32) = nI 2 from rfl, ush_i hX (by decide), show (858993459 : Int32) = nI 858993459 from rfl, nx_and, nx_and, nI_add, ← e2]
  have hY : W4 (g2 (g1 a)) (g2 (g1 b)) (g2 (g1 c)) (g2 (g1 d)) < 2 ^ 32 := by have := hA.2.2.2.1; have := hB.2.2.2.1; have := hC.2.2.2.1; have := hD.2.2.2.1; unfold W4; omega
  have x3 : (nI (W4 (g2 (g1 a)) (g2 (g1 b)) (g2 (g1 c)) (g2 (g1 d))) + ((nI (W4 (g2 (g1 a)) (g2 (g1 b)) (g2 (g1 c)) (g2 (g1 d)))).toUInt32 >>> ((4 : Int32).toUInt32 &&& Int32.toUInt32 31)).toInt32) &&& (252645135 : Int32) = nI (W4 (g3 (g2 (g1 a))) (g3 (g2 (g1 b))) (g3 (g2 (g1 c))) (g3 (g2 (g1 d)))) := by
    rw [show (4 : Int32) = nI 4 from rfl, ush_i hY (by decide), nI_add, show (252645135 : Int32) = nI 252645135 from rfl, nx_and, ← e3]
  unfold f_J6_bitCount_0f7a4
  rw [x1, x2, x3]
  generalize hz : W4 (g3 (g2 (g1 a))) (g3 (g2 (g1 b))) (g3 (g2 (g1 c))) (g3 (g2 (g1 d))) = z at e4 ⊢
  have hz2 : z < 2 ^ 28 := by have := hA.2.2.2.2.2.2.1; have := hB.2.2.2.2.2.2.1; have := hC.2.2.2.2.2.2.1; have := hD.2.2.2.2.2.2.1; unfold W4 at hz; omega
  rw [show (8 : Int32) = nI 8 from rfl, ush_i (by omega) (by decide), nI_add, show (16 : Int32) = nI 16 from rfl, ush_i (by omega) (by decide), nI_add, show (63 : Int32) = nI (2 ^ 6 - 1) from rfl, nx_and, Nat.and_two_pow_sub_one_eq_mod]
  congr 1
  refine Eq.trans e4 ?_
  rw [hA.2.2.2.2.2.1, hB.2.2.2.2.2.1, hC.2.2.2.2.2.1, hD.2.2.2.2.2.1]
  have hb : ∀ i, i < 32 → bt (nI W) i = W.testBit i := by
    intro i hi
    show (BitVec.ofNat 32 W).getLsbD i = _
    rw [BitVec.getLsbD_ofNat]
    simp [hi]
  unfold cntW
  rw [fb_ct_cong (q := fun i => W.testBit i) hb, show 32 = 8 + (8 + (8 + 8)) from rfl, fb_ct_split, fb_ct_split, fb_ct_split]
  have hbit : ∀ j x, j ≤ 24 → x = W / 2 ^ j % 2 ^ 8 → fb_ct (fun i => x.testBit i) 8 = fb_ct (fun i => W.testBit (j + i)) 8 := by
    intro j x hj hx
    refine fb_ct_cong (fun i hi => ?_)
    subst hx
    show (W / 2 ^ j % 2 ^ 8).testBit i = W.testBit (j + i)
    rw [Nat.testBit_mod_two_pow, Nat.testBit_div_two_pow, Nat.add_comm j]
    simp [hi]
  have q0 := hbit 0 a (by decide) (by rw [e]; unfold W4; omega)
  have q1 := hbit 8 b (by decide) (by rw [e]; unfold W4; omega)
  have q2 := hbit 16 c (by decide) (by rw [e]; unfold W4; omega)
  have q3 := hbit 24 d (by decide) (by rw [e]; unfold W4; omega)
  rw [q0, q1, q2, q3]
  simp only [Nat.zero_add, ← Nat.add_assoc]
theorem bitCount_w (w : Int32) : f_J6_bitCount_0f7a4 w = nI (cntW w) := by
  have h : w = nI w.toBitVec.toNat := by
    refine Int32.toBitVec_inj.mp ?_
    show _ = BitVec.ofNat 32 w.toBitVec.toNat
    rw [BitVec.ofNat_toNat, BitVec.setWidth_eq]
  have := bitCount_n (W := w.toBitVec.toNat) w.toBitVec.isLt
  rw [← h] at this
  exact this
end COUNT
