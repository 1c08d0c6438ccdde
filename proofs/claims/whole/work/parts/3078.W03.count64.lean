section COUNT64
def vl : List Nat → Nat
  | [] => 0
  | a :: t => a + 256 * vl t
theorem vl_c {a : Nat} {t : List Nat} : vl (a :: t) = a + 256 * vl t := rfl
theorem rep_c {n m : Nat} : List.replicate (n + 1) m = m :: List.replicate n m := rfl
theorem s1L : ∀ l : List Nat, (∀ a ∈ l, a < 256) → ((vl l / 2) &&& vl (List.replicate l.length 85)) ≤ vl l ∧ vl l - ((vl l / 2) &&& vl (List.replicate l.length 85)) = vl (l.map g1) := by
  intro l
  induction l with
  | nil => intro _; exact ⟨Nat.zero_le _, rfl⟩
  | cons a t ih =>
    intro h
    have ha := h a (List.mem_cons_self)
    obtain ⟨i1, i2⟩ := ih (fun b hb => h b (List.mem_cons_of_mem _ hb))
    have h0 := (byte_all a (List.mem_range.mpr ha)).1
    rw [List.length_cons, rep_c, List.map_cons, vl_c, vl_c, vl_c, ← i2]
    have e : (a + 256 * vl t) / 2 = (a / 2 + 128 * (vl t % 2)) + 256 * (vl t / 2) := by omega
    rw [e, and_byte (by omega) (by decide), s1_byte ha]
    unfold g1
    omega
theorem s2L : ∀ l : List Nat, (∀ a ∈ l, a < 256) → (vl l &&& vl (List.replicate l.length 51)) + ((vl l / 4) &&& vl (List.replicate l.length 51)) = vl (l.map g2) := by
  intro l
  induction l with
  | nil => intro _; rfl
  | cons a t ih =>
    intro h
    have ha := h a (List.mem_cons_self)
    have i2 := ih (fun b hb => h b (List.mem_cons_of_mem _ hb))
    rw [List.length_cons, rep_c, List.map_cons, vl_c, vl_c, vl_c, ← i2]
    have e : (a + 256 * vl t) / 4 = (a / 4 + 64 * (vl t % 4)) + 256 * (vl t / 4) := by omega
    rw [e, and_byte (by omega) (by decide), and_byte (by omega) (by decide), s2_byte ha]
    unfold g2
    omega
theorem vl_16 : ∀ l : List Nat, (∀ a ∈ l, a ≤ 68 ∧ a % 16 ≤ 4) → vl l % 16 ≤ 4 := by
  intro l h
  cases l with
  | nil => decide
  | cons a t =>
    have := h a (List.mem_cons_self)
    rw [vl_c]; omega
theorem s3L : ∀ l : List Nat, (∀ a ∈ l, a ≤ 68 ∧ a % 16 ≤ 4) → (vl l + vl l / 16) &&& vl (List.replicate l.length 15) = vl (l.map g3) := by
  intro l
  induction l with
  | nil => intro _; rfl
  | cons a t ih =>
    intro h
    have ha := h a (List.mem_cons_self)
    have i2 := ih (fun b hb => h b (List.mem_cons_of_mem _ hb))
    have h16 := vl_16 t (fun b hb => h b (List.mem_cons_of_mem _ hb))
    rw [List.length_cons, rep_c, List.map_cons, vl_c, vl_c, vl_c, ← i2]
    have e : (a + 256 * vl t) + (a + 256 * vl t) / 16 = (a + a / 16 + 16 * (vl t % 16)) + 256 * (vl t + vl t / 16) := by omega
    rw [e, and_byte (by omega) (by decide), byte_3 a (List.mem_range.mpr (by omega)) _ (List.mem_range.mpr (by omega))]
theorem vl_d {a : Nat} {t : List Nat} (h : a < 256) : vl (a :: t) / 256 = vl t := by rw [vl_c]; omega
theorem vl_add {a b : Nat} {t u : List Nat} {v : List Nat} (h : vl t + vl u = vl v) : vl (a :: t) + vl (b :: u) = vl ((a + b) :: v) := by rw [vl_c, vl_c, vl_c, ← h]; omega
theorem vl_a0 {t : List Nat} : vl t + vl [] = vl t := Nat.add_zero _
theorem vl_lt : ∀ l : List Nat, (∀ a ∈ l, a < 256) → vl l < 256 ^ l.length := by
  intro l
  induction l with
  | nil => intro _; exact Nat.one_pos
  | cons a t ih =>
    intro h
    have ha := h a (List.mem_cons_self)
    have i := ih (fun b hb => h b (List.mem_cons_of_mem _ hb))
    rw [vl_c, List.length_cons, Nat.pow_succ]
    omega
theorem vl_8 {a b c d e f g h : Nat} (ha : a < 256) (hb : b < 256) (hc : c < 256) (hd : d < 256) (he : e < 256) (hf : f < 256) (hg : g < 256) (hh : h < 256) : vl [a, b, c, d, e, f, g, h] < 2 ^ 64 := by
  have := vl_lt [a, b, c, d, e, f, g, h] (by
    intro x hx
    simp only [List.mem_cons, List.not_mem_nil, or_false] at hx
    rcases hx with rfl | rfl | rfl | rfl | rfl | rfl | rfl | rfl <;> assumption)
  exact Nat.lt_of_lt_of_eq this (show 256 ^ 8 = 2 ^ 64 by decide)
theorem s4L {a b c d e f g h z z2 z3 : Nat} (ha : a ≤ 8) (hb : b ≤ 8) (hc : c ≤ 8) (hd : d ≤ 8) (he : e ≤ 8) (hf : f ≤ 8) (hg : g ≤ 8) (hh : h ≤ 8) (hz : z = vl [a, b, c, d, e, f, g, h]) (hz2 : z2 = z + z / 256) (hz3 : z3 = z2 + z2 / 65536) : (z3 + z3 / 4294967296) % 128 = a + b + c + d + e + f + g + h ∧ z < 2 ^ 64 ∧ z2 < 2 ^ 64 ∧ z3 < 2 ^ 64 := by
  have e2 : z2 = vl [a + b, b + c, c + d, d + e, e + f, f + g, g + h, h] := by
    rw [hz2, hz, vl_d (by omega)]
    exact vl_add (vl_add (vl_add (vl_add (vl_add (vl_add (vl_add vl_a0))))))
  have e3 : z3 = vl [a + b + (c + d), b + c + (d + e), c + d + (e + f), d + e + (f + g), e + f + (g + h), f + g + h, g + h, h] := by
    rw [hz3, e2, show (65536 : Nat) = 256 * 256 from rfl, ← Nat.div_div_eq_div_mul, vl_d (by omega), vl_d (by omega)]
    exact vl_add (vl_add (vl_add (vl_add (vl_add (vl_add vl_a0)))))
  have e4 : z3 / 4294967296 = vl [e + f + (g + h), f + g + h, g + h, h] := by
    rw [e3, show (4294967296 : Nat) = 256 * 256 * 256 * 256 from rfl, ← Nat.div_div_eq_div_mul, ← Nat.div_div_eq_div_mul, ← Nat.div_div_eq_div_mul, vl_d (by omega), vl_d (by omega), vl_d (by omega), vl_d (by omega)]
  refine ⟨?_, ?_, ?_, ?_⟩
  · rw [e4, e3, vl_c, vl_c (a := e + f + (g + h))]
    generalize vl [b + c + (d + e), c + d + (e + f), d + e + (f + g), e + f + (g + h), f + g + h, g + h, h] = P
    generalize vl [f + g + h, g + h, h] = Q
    omega
  · rw [hz]; exact vl_8 (by omega) (by omega) (by omega) (by omega) (by omega) (by omega) (by omega) (by omega)
  · rw [e2]; exact vl_8 (by omega) (by omega) (by omega) (by omega) (by omega) (by omega) (by omega) (by omega)
  · rw [e3]; exact vl_8 (by omega) (by omega) (by omega) (by omega) (by omega) (by omega) (by omega) (by omega)
theorem wb_ad (a b : Nat) : lN a + lN b = lN (a + b) := (Int64.ofNat_add a b).symm
theorem wb_sb {a b : Nat} (h : b ≤ a) : lN a - lN b = lN (a - b) := by
  conv => lhs; rw [show a = (a - b) + b by omega, ← wb_ad]
  exact Int64.add_sub_cancel _ _
def cntL (w : Int64) : Nat := fb_ct (fun i => w.toBitVec.getLsbD i) 64
theorem bitCount_l (w : Int64) : f_J13_bitCount_95d88 w = nI (cntL w) := by
  obtain ⟨W, hW, ew⟩ : ∃ W, W < 2 ^ 64 ∧ w = lN W := ⟨w.toBitVec.toNat, w.toBitVec.isLt, by
    refine Int64.toBitVec_inj.mp ?_
    show _ = BitVec.ofNat 64 w.toBitVec.toNat
    rw [BitVec.ofNat_toNat, BitVec.setWidth_eq]⟩
  subst ew
  obtain ⟨a, b, c, d, e, f, g, h, ha, hb, hc, hd, he, hf, hg, hh, eW⟩ : ∃ a b c d e f g h, a < 256 ∧ b < 256 ∧ c < 256 ∧ d < 256 ∧ e < 256 ∧ f < 256 ∧ g < 256 ∧ h < 256 ∧ W = vl [a, b, c, d, e, f, g, h] :=
    ⟨W % 256, W / 256 % 256, W / 65536 % 256, W / 16777216 % 256, W / 4294967296 % 256, W / 1099511627776 % 256, W / 281474976710656 % 256, W / 72057594037927936, by omega, by omega, by omega, by omega, by omega, by omega, by omega, by omega, by
      show _ = W % 256 + 256 * (W / 256 % 256 + 256 * (W / 65536 % 256 + 256 * (W / 16777216 % 256 + 256 * (W / 4294967296 % 256 + 256 * (W / 1099511627776 % 256 + 256 * (W / 281474976710656 % 256 + 256 * (W / 72057594037927936 + 256 * 0)))))))
      omega⟩
  have hl : ∀ x ∈ [a, b, c, d, e, f, g, h], x < 256 := by
    intro x hx
    simp only [List.mem_cons, List.not_mem_nil, or_false] at hx
    rcases hx with rfl | rfl | rfl | rfl | rfl | rfl | rfl | rfl <;> assumption
  generalize hL : [a, b, c, d, e, f, g, h] = L at hl eW
  have len : L.length = 8 := by subst hL; rfl
  have A : ∀ x ∈ L, _ := fun x hx => byte_all x (List.mem_range.mpr (hl x hx))
  have l1 : ∀ y ∈ L.map g1, y < 256 := fun y hy => by
    obtain ⟨x, hx, rfl⟩ := List.mem_map.mp hy
    exact (A x hx).2.2.1
  have l2 : ∀ y ∈ (L.map g1).map g2, y ≤ 68 ∧ y % 16 ≤ 4 := fun y hy => by
    obtain ⟨x', hx', rfl⟩ := List.mem_map.mp hy
    obtain ⟨x, hx, rfl⟩ := List.mem_map.mp hx'
    exact ⟨(A x hx).2.2.2.1, (A x hx).2.2.2.2.1⟩
  have e1 := s1L L hl
  have e2 := s2L _ l1
  have e3 := s3L _ l2
  rw [List.length_map, len] at e2
  rw [List.length_map, List.length_map, len] at e3
  rw [len] at e1
  have v1 : vl (L.map g1) < 2 ^ 64 := by
    have := vl_lt _ l1
    rw [List.length_map, len] at this
    exact this
  have v2 : vl ((L.map g1).map g2) < 2 ^ 63 := by
    have := e2
    have h1 : vl (L.map g1) &&& vl (List.replicate 8 51) ≤ vl (List.replicate 8 51) := Nat.and_le_right
    have h2 : vl (L.map g1) / 4 &&& vl (List.replicate 8 51) ≤ vl (List.replicate 8 51) := Nat.and_le_right
    have h3 : vl (List.replicate 8 51) < 2 ^ 62 := by decide
    omega
  have x1 : lN W - (((lN W).toUInt64 >>> ((1 : Int32).toInt64.toUInt64 &&& Int64.toUInt64 63)).toInt64 &&& (6148914691236517205 : Int64)) = lN (vl (L.map g1)) := by
    rw [show (1 : Int32) = nI 1 from rfl, wb_shr hW (by decide), show (6148914691236517205 : Int64) = lN (vl (List.replicate 8 85)) from by decide, wb_and (by omega) (by decide), wb_sb (by rw [eW]; exact e1.1), eW]
    rw [← e1.2]
  have x2 : (lN (vl (L.map g1)) &&& (3689348814741910323 : Int64)) + (((lN (vl (L.map g1))).toUInt64 >>> ((2 : Int32).toInt64.toUInt64 &&& Int64.toUInt64 63)).toInt64 &&& (3689348814741910323 : Int64)) = lN (vl ((L.map g1).map g2)) := by
    rw [show (2 : Int32) = nI 2 from rfl, wb_shr v1 (by decide), show (3689348814741910323 : Int64) = lN (vl (List.replicate 8 51)) from by decide, wb_and v1 (by decide), wb_and (by omega) (by decide), wb_ad, ← e2]
  have x3 : (lN (vl ((L.map g1).map g2)) + ((lN (vl ((L.map g1).map g2))).toUInt64 >>> ((4 : Int32).toInt64.toUInt64 &&& Int64.toUInt64 63)).toInt64) &&& (1085102592571150095 : Int64) = lN (vl (((L.map g1).map g2).map g3)) := by
    rw [show (4 : Int32) = nI 4 from rfl, wb_shr (by omega) (by decide), wb_ad, show (1085102592571150095 : Int64) = lN (vl (List.replicate 8 15)) from by decide, wb_and (by omega) (by decide), ← e3]
  unfold f_J13_bitCount_95d88
  rw [x1, x2, x3]
  have hA := A
  subst hL
  have ha' := (byte_all a (List.mem_range.mpr ha)).2.2.2.2.2
  have hb' := (byte_all b (List.mem_range.mpr hb)).2.2.2.2.2
  have hc' := (byte_all c (List.mem_range.mpr hc)).2.2.2.2.2
  have hd' := (byte_all d (List.mem_range.mpr hd)).2.2.2.2.2
  have he' := (byte_all e (List.mem_range.mpr he)).2.2.2.2.2
  have hf' := (byte_all f (List.mem_range.mpr hf)).2.2.2.2.2
  have hg' := (byte_all g (List.mem_range.mpr hg)).2.2.2.2.2
  have hh' := (byte_all h (List.mem_range.mpr hh)).2.2.2.2.2
  have e4 := s4L ha'.2.1 hb'.2.1 hc'.2.1 hd'.2.1 he'.2.1 hf'.2.1 hg'.2.1 hh'.2.1 rfl rfl rfl
  have em : (([a, b, c, d, e, f, g, h].map g1).map g2).map g3 = [g3 (g2 (g1 a)), g3 (g2 (g1 b)), g3 (g2 (g1 c)), g3 (g2 (g1 d)), g3 (g2 (g1 e)), g3 (g2 (g1 f)), g3 (g2 (g1 g)), g3 (g2 (g1 h))] := rfl
  rw [em]
  generalize hz : vl [g3 (g2 (g1 a)), g3 (g2 (g1 b)), g3 (g2 (g1 c)), g3 (g2 (g1 d)), g3 (g2 (g1 e)), g3 (g2 (g1 f)), g3 (g2 (g1 g)), g3 (g2 (g1 h))] = z at e4 ⊢
  obtain ⟨e4, e5, e6, e7⟩ := e4
  rw [show (8 : Int32) = nI 8 from rfl, wb_shr e5 (by decide), wb_ad, show (16 : Int32) = nI 16 from rfl, wb_shr e6 (by decide), wb_ad, show (32 : Int32) = nI 32 from rfl, wb_shr e7 (by decide), wb_ad, lN_toI, show (127 : Int32) = nI (2 ^ 7 - 1) from rfl, nx_and, Nat.and_two_pow_sub_one_eq_mod]
  congr 1
  refine Eq.trans e4 ?_
  rw [ha'.1, hb'.1, hc'.1, hd'.1, he'.1, hf'.1, hg'.1, hh'.1]
  have hbt : ∀ i, i < 64 → (lN W).toBitVec.getLsbD i = W.testBit i := by
    intro i hi
    show (BitVec.ofNat 64 W).getLsbD i = _
    rw [BitVec.getLsbD_ofNat]
    simp [hi]
  unfold cntL
  rw [fb_ct_cong (q := fun i => W.testBit i) hbt, show 64 = 8 + (8 + (8 + (8 + (8 + (8 + (8 + 8)))))) from rfl, fb_ct_split, fb_ct_split, fb_ct_split, fb_ct_split, fb_ct_split, fb_ct_split, fb_ct_split]
  have hbit : ∀ j x, j ≤ 56 → x = W / 2 ^ j % 2 ^ 8 → fb_ct (fun i => x.testBit i) 8 = fb_ct (fun i => W.testBit (j + i)) 8 := by
    intro j x hj hx
    refine fb_ct_cong (fun i hi => ?_)
    subst hx
    show (W / 2 ^ j % 2 ^ 8).testBit i = W.testBit (j + i)
    rw [Nat.testBit_mod_two_pow, Nat.testBit_div_two_pow, Nat.add_comm j]
    simp [hi]
  have eW' : W = a + 256 * (b + 256 * (c + 256 * (d + 256 * (e + 256 * (f + 256 * (g + 256 * (h + 256 * 0))))))) := eW
  have q0 := hbit 0 a (by decide) (by omega)
  have q1 := hbit 8 b (by decide) (by omega)
  have q2 := hbit 16 c (by decide) (by omega)
  have q3 := hbit 24 d (by decide) (by omega)
  have q4 := hbit 32 e (by decide) (by omega)
  have q5 := hbit 40 f (by decide) (by omega)
  have q6 := hbit 48 g (by decide) (by omega)
  have q7 := hbit 56 h (by decide) (by omega)
  rw [q0, q1, q2, q3, q4, q5, q6, q7]
  simp only [Nat.zero_add, ← Nat.add_assoc]
end COUNT64
