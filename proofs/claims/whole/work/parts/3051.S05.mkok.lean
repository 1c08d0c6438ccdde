section MKOK
noncomputable def hoLo (k : Int32) : Int64 := if k = 2 then 0 else (-((9223372036854775807 : Int64) >>> (((64 : Int32) - (f_X3_width k)).toInt64 &&& 63)) - 1)
noncomputable def hoHi (k : Int32) : Int64 := if k = 2 then 65535 else ((9223372036854775807 : Int64) >>> (((64 : Int32) - (f_X3_width k)).toInt64 &&& 63))
theorem hoJ_def {k : Int32} {v : Int64} : hoJ k v = f_J9_max_f86c9 (hoLo k) (f_J9_min_f86c9 (hoHi k) v) := rfl
theorem hoLo_int {k : Int32} (hk : isK k) (hr : ¬ isRk k) : (hoLo k).toInt = loK k ∧ (hoHi k).toInt = hiK k := by
  rcases nRk hk hr with rfl | rfl | rfl | rfl | rfl <;> decide +kernel
theorem max_int (x y : Int64) : (f_J9_max_f86c9 x y).toInt = max x.toInt y.toInt := by
  unfold f_J9_max_f86c9
  by_cases h : x < y
  · rw [if_pos h]
    rw [Int64.lt_iff_toInt_lt] at h
    omega
  · rw [if_neg h]
    rw [Int64.lt_iff_toInt_lt] at h
    omega
theorem min_int (x y : Int64) : (f_J9_min_f86c9 x y).toInt = min x.toInt y.toInt := by
  unfold f_J9_min_f86c9
  by_cases h : y < x
  · rw [if_pos h]
    rw [Int64.lt_iff_toInt_lt] at h
    omega
  · rw [if_neg h]
    rw [Int64.lt_iff_toInt_lt] at h
    omega
theorem okJ_rng {k : Int32} (hk : isK k) (hr : ¬ isRk k) {x : Int64} : okJ k x ↔ loK k ≤ x.toInt ∧ x.toInt ≤ hiK k :=
  ⟨fun h => (low_rng hk hr x).mp (h.2 hr), fun h => ⟨fun q => absurd q hr, fun _ => (low_rng hk hr x).mpr h⟩⟩
theorem hoJ_ok {k : Int32} (hk : isK k) (hr : ¬ isRk k) (v : Int64) : okJ k (hoJ k v) := by
  rw [okJ_rng hk hr, hoJ_def, max_int, min_int, (hoLo_int hk hr).1, (hoLo_int hk hr).2]
  have := lo_hi hk hr
  omega
theorem shr_ok {k : Int32} (hk : isK k) (hr : ¬ isRk k) {x : Int64} (hx : okJ k x) (b : Int64) : okJ k (x >>> b) := by
  rw [okJ_rng hk hr] at hx ⊢
  obtain ⟨s, e⟩ := shr_int x b
  rw [e]
  exact shr_rng (lo_hi hk hr).1 (lo_hi hk hr).2 s hx
theorem reaS_ok {o : Nat} {k : Int32} {x y : Int64} (hk : isRk k) (ho : 1 ≤ o ∧ o ≤ 7) (hx : finJ k x) (hy : finJ k y) (h0 : (reaS o k x y).1 = 0) : finJ k (reaS o k x y).2 := by
  have hc : o = 1 ∨ o = 2 ∨ o = 3 ∨ o = 4 ∨ o = 5 ∨ o = 6 ∨ o = 7 := by omega
  rcases hc with rfl | rfl | rfl | rfl | rfl | rfl | rfl
  · exact infJ_fin hk (pm_le : suM k _ _ _ _ ≤ iN k) h0
  · exact infJ_fin hk (pm_le : suM k _ _ _ _ ≤ iN k) h0
  · exact infJ_fin hk (pm_le : muM k _ _ ≤ iN k) h0
  · rw [reaS4] at h0 ⊢
    by_cases q : P_X3_isZero k y
    · rw [iT_t q] at h0
      exact absurd h0 (by decide)
    · rw [iT_f q] at h0 ⊢
      exact infJ_fin hk (diM_le hk _ _) h0
  · rw [reaS5] at h0 ⊢
    by_cases q : P_X3_isZero k y
    · rw [iT_t q] at h0
      exact absurd h0 (by decide)
    · rw [iT_f q]
      refine finJ_bk hk (reM_lt hk hx.1 hy.1 (Nat.pos_of_ne_zero (fun z => q ?_)))
      exact (zero_fin hk hy).mpr ((sg_z hk hy.1).mp z)
  · rw [reaS6]
    show finJ k (if f_X3_order k y < f_X3_order k x then y else x)
    split
    · exact hy
    · exact hx
  · rw [reaS7]
    show finJ k (if f_X3_order k x < f_X3_order k y then y else x)
    split
    · exact hy
    · exact hx
theorem whoS_ok {o : Nat} {k : Int32} {x y : Int64} (hk : isK k) (hr : ¬ isRk k) (ho : 1 ≤ o ∧ o ≤ 10) (hx : okJ k x) (hy : okJ k y) (h0 : (whoS o k x y).1 = 0) : okJ k (whoS o k x y).2 := by
  have hc : o = 1 ∨ o = 2 ∨ o = 3 ∨ o = 4 ∨ o = 5 ∨ o = 6 ∨ o = 7 ∨ o = 8 ∨ o = 9 ∨ o = 10 := by omega
  rcases hc with rfl | rfl | rfl | rfl | rfl | rfl | rfl | rfl | rfl | rfl
  · exact okJ_low hr _
  · exact okJ_low hr _
  · exact okJ_low hr _
  · rw [whoS4] at h0 ⊢
    by_cases q : y = 0
    · rw [if_pos q] at h0; exact absurd h0 (by decide)
    · rw [if_neg q]; exact okJ_low hr _
  · rw [whoS5] at h0 ⊢
    by_cases q : y = 0
    · rw [if_pos q] at h0; exact absurd h0 (by decide)
    · rw [if_neg q]; exact okJ_low hr _
  · show okJ k (f_J9_min_f86c9 x y)
    unfold f_J9_min_f86c9
    split
    · exact hy
    · exact hx
  · show okJ k (f_J9_max_f86c9 x y)
    unfold f_J9_max_f86c9
    split
    · exact hy
    · exact hx
  · refine ⟨fun q => absurd q hr, fun _ => ?_⟩
    show f_X3_lowBits k (x &&& y) = x &&& y
    rw [low_and hk hr, hx.2 hr, hy.2 hr]
  · refine ⟨fun q => absurd q hr, fun _ => ?_⟩
    show f_X3_lowBits k (x ||| y) = x ||| y
    rw [low_or hk hr, hx.2 hr, hy.2 hr]
  · refine ⟨fun q => absurd q hr, fun _ => ?_⟩
    show f_X3_lowBits k (x ^^^ y) = x ^^^ y
    rw [low_xor hk hr, hx.2 hr, hy.2 hr]
theorem bin_ok {o : Nat} {k : Int32} {x y : Int64} (hk : isK k) (ho : 1 ≤ o ∧ o ≤ 10) (h7 : isRk k → o ≤ 7) (hx : okJ k x) (hy : okJ k y) (h0 : (iT (isRk k) (reaS o k x y) (whoS o k x y)).1 = 0) : okJ k (iT (isRk k) (reaS o k x y) (whoS o k x y)).2 := by
  by_cases hr : isRk k
  · rw [iT_t hr] at h0 ⊢
    exact okJ_fin hr (reaS_ok hr ⟨ho.1, h7 hr⟩ (hx.1 hr) (hy.1 hr) h0)
  · rw [iT_f hr] at h0 ⊢
    exact whoS_ok hk hr ho hx hy h0
theorem putJ_ok {k : Int32} (v : Int64) : okJ k (putJ k v) := by
  unfold putJ
  by_cases hr : isRk k
  · rw [iT_t hr]; exact okJ_fin hr (reaJ_fin hr v)
  · rw [iT_f hr]; exact okJ_low hr v
theorem turned_ok {k : Int32} (hk : isK k) {x : Int64} (hx : okJ k x) : okJ k (f_X3_turned k x) := by
  by_cases hr : isRk k
  · exact okJ_fin hr (turned_fin hr (hx.1 hr))
  · unfold f_X3_turned
    rw [iT_f (fun z => hr ((isK_real hk).mp z))]
    exact okJ_low hr _
theorem casJ_ok {k k1 : Int32} {x : Int64} (h0 : infJ k (casJ k1 k x) = 0) : okJ k (casJ k1 k x) := by
  unfold casJ at h0 ⊢
  by_cases hr : isRk k
  · rw [iT_t hr] at h0 ⊢
    by_cases h1 : isRk k1
    · rw [iT_t h1] at h0 ⊢
      exact okJ_fin hr (infJ_fin hr pm_le h0)
    · rw [iT_f h1]
      exact okJ_fin hr (reaJ_fin hr x)
  · rw [iT_f hr]
    by_cases h1 : isRk k1 ∧ ¬ k = 4
    · rw [iT_t h1]; exact okJ_low hr _
    · rw [iT_f h1]; exact okJ_low hr _
section
variable {o : Nat} {c : Nat → Int64} {d : DS}
theorem FIT.k0 (ho : o < 46) (h : FIT o c d) : isK (dk d (2 * rgN o c 0)) := (h.1 0 (by have := (pos_all o (List.mem_range.mpr ho)).2.1; omega)).1
theorem FIT.x1 (ho : o < 46) (h : FIT o c d) (h1 : 1 < cntR o 4) {i : Nat} (hi : i < dn d (2 * rgN o c 0)) : okJ (dk d (2 * rgN o c 1)) (di d (2 * rgN o c 1) i) := (h.1 1 h1).2.2.2 i hi
theorem FIT.x2 (ho : o < 46) (h : FIT o c d) (h1 : 2 < cntR o 4) {i : Nat} (hi : i < dn d (2 * rgN o c 0)) : okJ (dk d (2 * rgN o c 2)) (di d (2 * rgN o c 2) i) := (h.1 2 h1).2.2.2 i hi
theorem mk_cnt (ho : o ∈ MKL ∨ o = 39) : (¬ (28 ≤ o ∧ o ≤ 31) → 1 < cntR o 4) ∧ (((1 ≤ o ∧ o ≤ 10) ∨ o = 34 ∨ o = 37) → 2 < cntR o 4) := by
  obtain ⟨a0, a1, a2, a3, a4, a5, a6, a7, a8, a9, a10, ho4⟩ := mk_not ho
  have hW := wh_all o (List.mem_range.mpr ho4)
  obtain ⟨-, -, -, -, -, w1, w2⟩ := hW
  refine ⟨fun q => ?_, fun q => ?_⟩
  · have : ¬ cntR o 4 ≤ 1 := fun z => by have := w1.mp z; omega
    omega
  · have := w2.mpr (by omega)
    omega
theorem mk_hok (ho : o ∈ MKL ∨ o = 39) (hF : FIT o c d) : ∀ i t, i < dn d (2 * rgN o c 0) → (∀ v, t = some v → okJ (dk d (2 * rgN o c 0)) v) → mkOk o (dk d (2 * rgN o c 0)) (dk d (2 * rgN o c 1)) t (di d (2 * rgN o c 1) i) (di d (2 * rgN o c 2) i) := by
  intro i t hi ht
  obtain ⟨a0, a1, a2, a3, a4, a5, a6, a7, a8, a9, a10, ho4⟩ := mk_not ho
  have hk := hF.k0 ho4
  obtain ⟨c1, c2⟩ := mk_cnt ho
  unfold mkOk
  by_cases h39 : o = 39
  · rw [if_pos h39]
    have e1 := (hF.1 1 (c1 (by omega))).2.2.1 (by subst h39; decide)
    have x1 := hF.x1 ho4 (c1 (by omega)) hi
    rw [e1] at x1
    exact ⟨hk, fun hr => ⟨x1.1 hr, fun w e => (ht w e).1 hr⟩⟩
  · rw [if_neg h39]
    unfold madeOk
    by_cases h10 : o ≤ 10
    · rw [if_pos h10]
      have e1 := (hF.1 1 (c1 (by omega))).2.2.1 (by unfold alB; simp; omega)
      have e2 := (hF.1 2 (c2 (by omega))).2.2.1 (by unfold alB; simp; omega)
      have x1 := hF.x1 ho4 (c1 (by omega)) hi
      have x2 := hF.x2 ho4 (c2 (by omega)) hi
      rw [e1] at x1
      rw [e2] at x2
      refine ⟨hk, fun hr => ⟨?_, x1.1 hr, x2.1 hr⟩⟩
      by_cases w : o ≤ 7
      · exact w
      · exact absurd hr (hF.2.2.1 (Or.inl (by omega)))
    · rw [if_neg h10]
      by_cases h16 : o = 16
      · rw [if_pos h16]
        have e1 := (hF.1 1 (c1 (by omega))).2.2.1 (by unfold alB; simp; omega)
        have x1 := hF.x1 ho4 (c1 (by omega)) hi
        rw [e1] at x1
        have hr := hF.2.2.2.1 h16
        exact ⟨hr, x1.1 hr⟩
      · rw [if_neg h16]
        by_cases h24 : o = 24
        · rw [if_pos h24]
          have x1 := hF.x1 ho4 (c1 (by omega)) hi
          exact ⟨(hF.1 1 (c1 (by omega))).1, hk, fun hr => x1.1 hr⟩
        · rw [if_neg h24]
          exact hk
theorem mk_hres (ho : o ∈ MKL ∨ o = 39) (hF : FIT o c d) {S : Int64} : ∀ i t, i < dn d (2 * rgN o c 0) → (∀ v, t = some v → okJ (dk d (2 * rgN o c 0)) v)
    → (mkS o (dk d (2 * rgN o c 0)) (dk d (2 * rgN o c 1)) (dn d (2 * rgN o c 0)) (di d (2 * rgN o c 1)) (di d (2 * rgN o c 2)) S (dn d (2 * arN c + 1)) (di d (2 * arN c + 1)) t i).1 = 0
    → okJ (dk d (2 * rgN o c 0)) (mkS o (dk d (2 * rgN o c 0)) (dk d (2 * rgN o c 1)) (dn d (2 * rgN o c 0)) (di d (2 * rgN o c 1)) (di d (2 * rgN o c 2)) S (dn d (2 * arN c + 1)) (di d (2 * arN c + 1)) t i).2 := by
  intro i t hi ht
  obtain ⟨a0, a1, a2, a3, a4, a5, a6, a7, a8, a9, a10, ho4⟩ := mk_not ho
  have hk := hF.k0 ho4
  obtain ⟨c1, c2⟩ := mk_cnt ho
  have hn := hF.2.1
  have X1 : alB o 1 = true → 1 < cntR o 4 → ∀ j, j < dn d (2 * rgN o c 0) → okJ (dk d (2 * rgN o c 0)) (di d (2 * rgN o c 1) j) := by
    intro ha h1 j hj
    have e1 := (hF.1 1 h1).2.2.1 ha
    have x1 := hF.x1 ho4 h1 hj
    rw [e1] at x1
    exact x1
  have X2 : alB o 2 = true → 2 < cntR o 4 → ∀ j, j < dn d (2 * rgN o c 0) → okJ (dk d (2 * rgN o c 0)) (di d (2 * rgN o c 2) j) := by
    intro ha h1 j hj
    have e1 := (hF.1 2 h1).2.2.1 ha
    have x1 := hF.x2 ho4 h1 hj
    rw [e1] at x1
    exact x1
  have bin := hF.2.2.1
  have r16 := hF.2.2.2.1
  have hA := hF.2.2.2.2.2.2
  clear hF
  generalize hk0 : dk d (2 * rgN o c 0) = k at *
  generalize hk1 : dk d (2 * rgN o c 1) = k1 at *
  generalize hn0 : dn d (2 * rgN o c 0) = n at *
  generalize hX : di d (2 * rgN o c 1) = X at *
  generalize hY : di d (2 * rgN o c 2) = Y at *
  intro h0
  unfold mkS at h0 ⊢
  by_cases h39 : o = 39
  · rw [if_pos h39] at h0 ⊢
    have x1 := X1 (by subst h39; decide) (c1 (by omega)) i hi
    cases t with
    | none => exact x1
    | some w => exact bin_ok (o := 1) hk (by decide) (fun _ => by decide) (ht w rfl) x1 h0
  · rw [if_neg h39] at h0 ⊢
    have ho := ho.resolve_right h39
    unfold MKL at ho
    simp only [List.mem_cons, List.not_mem_nil, or_false] at ho
    by_cases h10 : o ≤ 10
    · rw [madeS_bin h10] at h0 ⊢
      refine bin_ok hk ⟨by omega, h10⟩ (fun hr => ?_) (X1 (by unfold alB; simp; omega) (c1 (by omega)) i hi) (X2 (by unfold alB; simp; omega) (c2 (by omega)) i hi) h0
      by_cases w : o ≤ 7
      · exact w
      · exact absurd hr (bin (Or.inl (by omega)))
    · have hc : (o = 11 ∨ o = 12 ∨ o = 13) ∨ o = 14 ∨ o = 15 ∨ o = 16 ∨ o = 24 ∨ o = 25 ∨ (o = 26 ∨ o = 28) ∨ o = 30 ∨ o = 31 ∨ (o = 34 ∨ o = 35 ∨ o = 36 ∨ o = 37) := by omega
      rcases hc with h | h | h | h | h | h | h | h | h | h
      · rw [madeS_sh h]
        have hr := bin (Or.inl (by omega))
        have x1 := X1 (by unfold alB; simp; omega) (c1 (by omega)) i hi
        show okJ k (shS o k (X i) S)
        rcases h with rfl | rfl | rfl
        · exact okJ_low hr _
        · exact shr_ok hk hr x1 _
        · exact okJ_low hr _
      · subst h
        exact turned_ok hk (X1 (by decide) (c1 (by omega)) i hi)
      · subst h
        rw [madeS_15]
        have x1 := X1 (by decide) (c1 (by omega)) i hi
        show okJ k (f_X3_withoutSign k (X i))
        unfold f_X3_withoutSign
        split
        · exact turned_ok hk x1
        · exact x1
      · subst h
        rw [madeS_16] at h0 ⊢
        have x1 := X1 (by decide) (c1 (by omega)) i hi
        by_cases q : (0 : Int64) ≤ f_X3_value k (X i)
        · rw [if_pos q]
          have hr := r16 rfl
          exact okJ_fin hr (rooJ_fin hr (x1.1 hr))
        · rw [if_neg q] at h0
          exact absurd h0 (by decide)
      · subst h
        rw [madeS_24] at h0 ⊢
        have h0 : infJ k (casJ k1 k (X i)) = 0 := h0
        show okJ k (casJ k1 k (X i))
        exact casJ_ok h0
      · subst h
        rw [madeS_25]
        show okJ k (hoJ k (f_X3_whole k1 (X i)))
        exact hoJ_ok hk (bin (Or.inr (Or.inr rfl))) _
      · have hA := hA (by unfold usA; simp; omega)
        rw [madeS_el h] at h0 ⊢
        by_cases q : inS (elS o X S i) (dn d (2 * arN c + 1))
        · rw [iT_t q]
          obtain ⟨p, p1, p2⟩ := inS_lN hA.2.1 q
          show okJ k (di d (2 * arN c + 1) (elS o X S i).toInt.toNat)
          rw [p2, l6_int (by omega)]
          exact hA.2.2 p p1
        · rw [iT_f q] at h0
          exact absurd h0 (by decide)
      · subst h
        rw [madeS_30]
        show okJ k (putJ k S)
        exact putJ_ok _
      · subst h
        rw [madeS_31]
        show okJ k (putJ k (S + lN i))
        exact putJ_ok _
      · rw [madeS_fet h] at h0 ⊢
        have x1 := X1 (by unfold alB; simp; omega) (c1 (by omega))
        rcases h with rfl | rfl | rfl | rfl
        · have e : fetS 34 n X Y S i = iT (inS (Y i) n) (0, X (Y i).toInt.toNat) (4, 0) := rfl
          rw [e] at h0 ⊢
          by_cases q : inS (Y i) n
          · rw [iT_t q]
            obtain ⟨p, p1, p2⟩ := inS_lN (by omega) q
            show okJ k (X (Y i).toInt.toNat)
            rw [p2, l6_int (by omega)]
            exact x1 p p1
          · rw [iT_f q] at h0
            exact absurd h0 (by decide)
        · exact x1 _ (Nat.mod_lt _ (by omega))
        · exact x1 _ (show n - 1 - i < n by omega)
        · show okJ k (if i % 2 = 0 then X (i / 2) else Y (i / 2))
          split
          · exact x1 _ (by omega)
          · exact X2 (by decide) (c2 (by omega)) _ (by omega)
end
end MKOK
