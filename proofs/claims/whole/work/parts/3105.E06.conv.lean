section CONV13
theorem i3264 {x : Int64} (h1 : -2147483648 ≤ x.toInt) (h2 : x.toInt < 2147483648) : x.toInt32.toInt64 = x := by
  apply Int64.toInt_inj.mp
  rw [Int32.toInt_toInt64, Int64.toInt_toInt32, Int.bmod_def]
  omega
theorem bits5 {s : Bool} {n : Nat} (hn : n < iN 5) : f_Jxf58ca_floatToIntBits_5c35a (X5 s n) = (bk 5 s n).toInt32 := by
  unfold f_Jxf58ca_floatToIntBits_5c35a
  have e : ¬ P_Jxf58ca_isNaN_12338 (X5 s n) := by
    unfold P_Jxf58ca_isNaN_12338
    intro q
    refine q ?_
    show cmpValue (FP.Core.order (FP.Core.decode FP.Core.b32 (X5 s n).toNat) (FP.Core.decode FP.Core.b32 (X5 s n).toNat)) .l = 0
    rw [dcf5 hn]
    exact cv_eq.mpr rfl
  rw [iT_f e, ← bk5_u (Nat.le_of_lt hn)]
  rfl
theorem bits6 {s : Bool} {n : Nat} (hn : n < iN 6) : f_Jxe99ae_doubleToLongBits_ccdee (X6 s n) = bk 6 s n := by
  unfold f_Jxe99ae_doubleToLongBits_ccdee
  have e : ¬ P_Jxe99ae_isNaN_b9ae7 (X6 s n) := by
    unfold P_Jxe99ae_isNaN_b9ae7
    intro q
    refine q ?_
    rw [dcmp_X hn hn]
    exact cv_eq.mpr rfl
  rw [iT_f e, ← bk6_u]
  rfl
theorem bits_is {k : Int32} {w b : Int64} {x : UInt64} (hk : isK k) (hb : okJ k b) (hv : VR k w x b) : f_X13_bits k w x = b ∧ q_X13_bits k w x := by
  by_cases hr : isRk k
  · rw [hv.r hr]
    obtain ⟨s, n, hn, rfl⟩ := fin_bk (hb.1 hr)
    have hn' := Nat.le_of_lt hn
    rw [xO_bk hr hn']
    unfold f_X13_bits q_X13_bits
    rcases hr with rfl | rfl
    · rw [d2f_w hn', if_pos rfl, bits5 hn]
      have hi := bk_int rk5 hn' (s := s)
      rw [if_pos rfl] at hi
      rw [iN5] at hn
      exact ⟨i3264 (by rw [hi]; split <;> omega) (by rw [hi]; split <;> omega), fun _ => vf5 hn'⟩
    · rw [if_neg (by decide), if_pos rfl, w66]
      exact ⟨bits6 hn, fun z => absurd z (by decide)⟩
  · unfold f_X13_bits q_X13_bits
    rw [if_neg (fun z => hr (Or.inl z)), if_neg (fun z => hr (Or.inr z))]
    exact ⟨hv.w hr, fun z => absurd (Or.inl z) hr⟩
theorem nearLong_is {k : Int32} (hr : isRk k) (v : Int64) : f_X13_nearLong k v = xO k (putJ k v) ∧ q_X13_nearLong k v := by
  have ed : decide (v < 0) = decide (v.toInt < 0) := by
    congr 1
    rw [Int64.lt_iff_toInt_lt]
    rfl
  have hp : putJ k v = bk k (decide (v.toInt < 0)) (pm (fm k) v.toInt.natAbs 0) := by
    unfold putJ
    rw [iT_t hr]
    unfold reaJ
    rw [ed]
  rw [hp, xO_bk hr pm_le]
  unfold f_X13_nearLong q_X13_nearLong
  rcases hr with rfl | rfl
  · have e : FP.l2f v = X5 (decide (v.toInt < 0)) (pm (fm 5) v.toInt.natAbs 0) := by
      show UInt32.ofNat (FP.Core.fromInt FP.Core.b32 v.toInt) = _
      rw [← fmt5, from_eb rk5]; rfl
    have L : pm (fm 5) v.toInt.natAbs 0 ≤ iN 5 := pm_le
    rw [if_pos rfl, e, f2d_X L, w65]
    exact ⟨rfl, fun _ => vf6 (wid_le L).1⟩
  · have e : FP.l2d v = X6 (decide (v.toInt < 0)) (pm (fm 6) v.toInt.natAbs 0) := by
      show UInt64.ofNat (FP.Core.fromInt FP.Core.b64 v.toInt) = _
      rw [← fmt6, from_eb rk6]; rfl
    rw [if_neg (by decide), e, w66]
    exact ⟨rfl, fun z => absurd z (by decide)⟩
theorem infJ_w {k : Int32} (hk : isK k) (hr : ¬ isRk k) (v : Int64) : infJ k v = 0 := by
  unfold infJ
  refine iT_f (fun z => hr ((isK_real hk).mp z.1))
theorem infJ_put {k : Int32} (hr : isRk k) (v : Int64) : infJ k (putJ k v) = 0 := by
  unfold putJ
  rw [iT_t hr]
  have h := reaJ_fin hr v
  rw [h.2]
  exact infJ_nf hr h.1
/-- put: a cell's value out of a long -/
theorem c_put13 {k : Int32} {p : Nat} {v : Int64} {M : Mem} {K : RT} (hW : Wf M) (hk : isK k) (hp : p < 768) (h : ∀ W X, VR k W X (putJ k v) → K none (uD (uL M 626 p W) 627 p X)) : sp_X13_put [.ref 605, .int (nI p), .int k, .long v] M K := by
  refine wX13_put hW (fun {G} hc => ?_)
  have hv : vp_in (nI p) 768 := vpN hp (by decide)
  have ep : (nI p).toNatClampNeg = p := nI_clamp (by omega)
  refine ⟨fun r => ?_, fun r => ?_⟩
  · have hr : ¬ isRk k := fun z => r ((isReal_P hk).mpr z)
    refine eX13_put_21 hc hW Ss_626 ⟨hv, fun _ => ⟨hv, ?_⟩, fun z => absurd z r⟩
    rw [ep]
    refine h _ _ ⟨fun z => absurd z hr, fun _ => ?_⟩
    unfold putJ
    rw [iT_f hr, low_13 hk hr]
  · have hr := (isReal_P hk).mp r
    obtain ⟨e, q⟩ := nearLong_is hr v
    refine eX13_put_21 hc hW Ss_626 ⟨hv, fun z => absurd r z, fun _ => ⟨q, hv, ?_⟩⟩
    rw [ep]
    exact h _ _ ⟨fun _ => e, fun z => absurd hr z⟩
/-- scaling does not change what is cut off -/
theorem tr_inv {s : Bool} {c j : Nat} {q lo hi : Int} : FP.Core.toInt lo hi (.fin s (c * 2 ^ j) (q - j)) = FP.Core.toInt lo hi (.fin s c q) := by
  have e : c * 2 ^ j * 2 ^ (q - j).toNat / 2 ^ (-(q - j)).toNat = c * 2 ^ q.toNat / 2 ^ (-q).toNat := by
    by_cases h1 : (j : Int) ≤ q
    · rw [show (-(q - (j : Int))).toNat = 0 by omega, show (-q).toNat = 0 by omega, Nat.mul_assoc, ← Nat.pow_add]
      congr 3
      omega
    · by_cases h2 : q < 0
      · rw [show (q - (j : Int)).toNat = 0 by omega, show q.toNat = 0 by omega, show (-(q - (j : Int))).toNat = (-q).toNat + j by omega, Nat.pow_zero, Nat.mul_one, Nat.mul_one, Nat.pow_add]
        exact Nat.mul_div_mul_right _ _ (Nat.two_pow_pos j)
      · rw [show (q - (j : Int)).toNat = 0 by omega, show (-q).toNat = 0 by omega, Nat.pow_zero, Nat.mul_one, Nat.div_one, show j = q.toNat + (-(q - (j : Int))).toNat by omega]
        rw [Nat.pow_add, ← Nat.mul_assoc]
        have : (-(q - ((q.toNat + (-(q - (j : Int))).toNat : Nat) : Int))).toNat = (-(q - (j : Int))).toNat := by omega
        rw [this]
        exact Nat.mul_div_cancel _ (Nat.two_pow_pos _)
  unfold FP.Core.toInt FP.Core.truncate
  dsimp only
  rw [e]
theorem tr_w6 {k : Int32} (hr : isRk k) {s : Bool} {n : Nat} (hn : n < iN k) {lo hi : Int} : FP.Core.toInt lo hi (FP.Core.decode FP.Core.b64 (xO k (bk k s n)).toNat) = FP.Core.toInt lo hi (.fin s (sgN (fm k) n) (exN (fm k) n)) := by
  rw [xO_bk hr (Nat.le_of_lt hn), dcf6 (w6_lt hr hn)]
  rcases hr with rfl | rfl
  · rw [w65]
    rcases Nat.eq_zero_or_pos n with y | y
    · subst y
      rw [wid_0, (sg_z rk6 (by rw [iN6]; decide)).mpr rfl, (sg_z rk5 hn).mpr rfl]
      unfold FP.Core.toInt FP.Core.truncate
      dsimp only
      rw [Nat.zero_mul, Nat.zero_mul, Nat.zero_div, Nat.zero_div]
    · obtain ⟨j, a, b, -, -⟩ := wid_at y hn
      rw [a, b]
      exact tr_inv
  · rw [w66]
theorem whole_bits {k : Int32} (hr : isRk k) {b : Int64} (hb : finJ k b) : FP.d2l (xO k b) = f_X3_whole k b := by
  obtain ⟨s, n, hn, rfl⟩ := fin_bk hb
  rw [whole_bk hr hn]
  show Int64.ofInt (FP.Core.toInt (-2 ^ 63) (2 ^ 63 - 1) (FP.Core.decode FP.Core.b64 (xO k (bk k s n)).toNat)) = _
  rw [tr_w6 hr hn]
  rfl
theorem whole_i {k : Int32} (hr : isRk k) {b : Int64} (hb : finJ k b) : (FP.d2i (xO k b)).toInt64 = hoJ 3 (f_X3_whole k b) := by
  obtain ⟨s, n, hn, rfl⟩ := fin_bk hb
  rw [whole_bk hr hn]
  have h1 : (FP.d2i (xO k (bk k s n))).toInt = FP.Core.toInt (-2 ^ 31) (2 ^ 31 - 1) (.fin s (sgN (fm k) n) (exN (fm k) n)) := by
    show (Int32.ofInt (FP.Core.toInt (-2 ^ 31) (2 ^ 31 - 1) (FP.Core.decode FP.Core.b64 (xO k (bk k s n)).toNat))).toInt = _
    rw [tr_w6 hr hn]
    refine iI_toInt ?_ ?_
    · unfold FP.Core.toInt; dsimp only; omega
    · unfold FP.Core.toInt; dsimp only; omega
  apply Int64.toInt_inj.mp
  have hw := whI_rng (k := k) (s := s) (n := n)
  obtain ⟨l1, l2⟩ := hoLo_int (k := 3) (Or.inr (Or.inr (Or.inr (Or.inl rfl)))) (by unfold isRk; decide)
  rw [Int32.toInt_toInt64, h1, hoJ_def, max_int, min_int, l1, l2, lI_toInt hw.1 hw.2]
  unfold loK hiK whI
  unfold FP.Core.toInt
  dsimp only
  simp (decide := true) only [if_false, if_true]
  omega
end CONV13
