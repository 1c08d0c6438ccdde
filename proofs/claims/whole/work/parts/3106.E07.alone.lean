section ALONE13
theorem zbT {s : Bool} (h : ¬ s = false) : s = true := by cases s; exact absurd rfl h; rfl
theorem neg_X {s : Bool} {n : Nat} (hn : n ≤ iN 6) : FP.dneg (X6 s n) = X6 (!s) n := by
  have hl : n < 2 ^ 63 := by rw [iN6] at hn; omega
  unfold FP.dneg
  apply UInt64.toNat_inj.mp
  rw [UInt64.toNat_xor, tn6 hn, tn6 hn, eb6, eb6, show (0x8000000000000000 : UInt64).toNat = 1 * 2 ^ 63 from rfl]
  cases s
  · have := nat_xor_add (k := 63) (b := 1) hl
    simp only [Bool.toNat_false, Bool.not_false, Bool.toNat_true]
    rw [show 0 * 9223372036854775808 + n = n by omega, this]
  · have := nat_xor_sub (k := 63) (b := 1) hl
    simp only [Bool.toNat_true, Bool.not_true, Bool.toNat_false]
    rw [show 1 * 9223372036854775808 + n = 1 * 2 ^ 63 + n by omega, this]
    omega
theorem neg_x {k : Int32} (hr : isRk k) {s : Bool} {n : Nat} (hn : n ≤ iN k) : FP.dneg (xO k (bk k s n)) = xO k (bk k (!s) n) := by
  rw [xO_bk hr hn, xO_bk hr hn, neg_X (w6_le hr hn)]
theorem i32_lt {x : Int32} : ¬ x < 0 ↔ 0 ≤ x := by rw [i32_lt0]; exact Classical.not_not
theorem c_alone13 {o : Nat} {k : Int32} {w b : Int64} {x : UInt64} {M : Mem} {K : RT} (ho : o = 14 ∨ o = 15) (hW : Wf M) (hk : isK k) (hb : okJ k b) (hv : VR k w x b) (h : mkC M K k (0, if o = 14 then f_X3_turned k b else f_X3_withoutSign k b)) : sp_X13_alone [.ref 605, .int (nI o), .int k, .long w, .double x] M K := by
  have hh := h.ok rfl
  refine wX13_alone hW (fun {G} hc => ⟨fun r => ?_, fun r => ?_⟩)
  · have hr := (isReal_P hk).mp r
    obtain ⟨s, n, hn, rfl⟩ := fin_bk (hb.1 hr)
    have hn' := Nat.le_of_lt hn
    rw [hv.r hr]
    -- turned
    have T : f_X3_turned k (bk k s n) = (if o = 14 then f_X3_turned k (bk k s n) else f_X3_withoutSign k (bk k s n)) → ∀ L1, G 105 [some (.ref 605), L1, some (.int k), some (.long w), none, some (.double (xO k (bk k s n))), none, none] [] M := by
      intro e L1
      refine eX13_alone_105 hc hW ?_
      rw [neg_x hr hn']
      refine gv_R hW hr hn' ?_
      rw [infJ_nf hr hn]
      rw [← e, turned_bk hr hn'] at hh
      exact hh
    have N : bk k s n = (if o = 14 then f_X3_turned k (bk k s n) else f_X3_withoutSign k (bk k s n)) → ∀ L1, G 109 [some (.ref 605), L1, some (.int k), some (.long w), none, some (.double (xO k (bk k s n))), none, none] [] M := by
      intro e L1
      refine eX13_alone_109 hc hW ?_
      refine gv_R hW hr hn' ?_
      rw [infJ_nf hr hn]
      rw [← e] at hh
      exact hh
    refine ⟨fun n16 => ⟨fun e => ?_, fun e => ?_⟩, fun e => ?_⟩
    · have : o = 14 := ho.resolve_right (fun z => by subst z; exact absurd e (by decide))
      subst this
      exact T (if_pos rfl).symm _
    · have : o = 15 := ho.resolve_left (fun z => by subst z; exact absurd rfl e)
      subst this
      have ew : f_X3_withoutSign k (bk k s n) = if s = true then f_X3_turned k (bk k s n) else bk k s n := by
        unfold f_X3_withoutSign
        by_cases hs : s = true
        · rw [if_pos hs, if_pos ((bk_neg hr hn').mpr hs)]
        · rw [if_neg hs, if_neg (fun z => hs ((bk_neg hr hn').mp z))]
      rw [if_neg (by decide), ew] at T N
      refine ⟨fun lt => ?_, fun ge => ⟨fun nz => ?_, fun z => ?_⟩⟩
      · rw [i32_lt0, x_ge0 hr hn] at lt
        exact T (if_pos (zbT (fun y => lt (fun u => by rw [y] at u; exact absurd u (by decide))))).symm _
      · rw [i32_lt, x_ge0 hr hn] at ge
        rw [x_z hr hn] at nz
        exact N (if_neg (fun y => nz (ge y))).symm _
      · rw [x_z hr hn] at z
        subst z
        obtain ⟨a, a'⟩ := x_inv hr (s := s)
        rw [a']
        exact ⟨a, fun y => N (if_neg (by rw [y]; decide)).symm _, fun y => T (if_pos (zbT y)).symm _⟩
    · rcases ho with rfl | rfl <;> exact absurd e (by decide)
  · have hr : ¬ isRk k := fun z => r ((isReal_P hk).mpr z)
    rw [hv.w hr]
    have et : f_X3_turned k b = f_X3_lowBits k (-b) := by
      unfold f_X3_turned
      exact iT_f (fun z => hr ((isK_real hk).mp z))
    rcases ho with rfl | rfl
    · rw [if_pos rfl, et] at hh
      exact ⟨fun _ => gv_W hW hk hr rfl hh, fun z => absurd rfl z⟩
    · rw [if_neg (by decide)] at hh
      unfold f_X3_withoutSign at hh
      refine ⟨fun z => absurd z (by decide), fun _ => ⟨fun g => ?_, fun g => ?_⟩⟩
      · rw [if_neg (fun z => by rw [i64_lt] at z; exact z g)] at hh
        exact gv_W hW hk hr (hb.2 hr) hh
      · rw [if_pos ((i64_lt _ _).mpr g), et] at hh
        exact gv_W hW hk hr rfl hh
theorem c_cast13 {k k1 : Int32} {w b : Int64} {x : UInt64} {M : Mem} {K : RT} (hW : Wf M) (hk : isK k) (hk1 : isK k1) (hb : okJ k1 b) (hv : VR k1 w x b) (h : mkC M K k (infJ k (casJ k1 k b), casJ k1 k b)) : sp_X13_cast [.ref 605, .int k, .int k1, .long w, .double x] M K := by
  have hh := h.inf rfl
  unfold casJ at hh
  refine wX13_cast hW ⟨fun r => ?_, fun r => ?_⟩
  · have hr : ¬ isRk k := fun z => r ((isReal_P hk).mpr z)
    rw [infJ_w hk hr, iT_f hr] at hh
    refine ⟨fun r1 => ?_, fun r1 => ?_⟩
    · have hr1 := (isReal_P hk1).mp r1
      rw [hv.r hr1]
      refine ⟨fun n4 => ?_, fun e4 => ?_⟩
      · rw [iT_t ⟨hr1, n4⟩] at hh
        rw [whole_i hr1 (hb.1 hr1)]
        exact gv_W hW hk hr rfl hh
      · rw [iT_f (fun z => z.2 e4)] at hh
        rw [whole_bits hr1 (hb.1 hr1)]
        exact gv_W hW hk hr rfl hh
    · have hr1 : ¬ isRk k1 := fun z => r1 ((isReal_P hk1).mpr z)
      rw [iT_f (fun z => hr1 z.1)] at hh
      have ew : f_X3_whole k1 b = b := by
        unfold f_X3_whole
        exact iT_f (fun z => hr1 ((isK_real hk1).mp z))
      rw [ew] at hh
      rw [hv.w hr1]
      exact gv_W hW hk hr rfl hh
  · have hr := (isReal_P hk).mp r
    rw [iT_t hr] at hh
    refine ⟨fun r1 => ?_, fun r1 => ?_⟩
    · have hr1 : ¬ isRk k1 := fun z => r1 ((isReal_P hk1).mpr z)
      rw [iT_f hr1] at hh
      rw [hv.w hr1]
      obtain ⟨e, q⟩ := nearLong_is hr b
      have ep : putJ k b = reaJ k b := by unfold putJ; exact iT_t hr
      rw [ep] at e
      refine ⟨q, ?_⟩
      rw [e]
      have hf := reaJ_fin hr b
      rw [hf.2] at hh ⊢
      exact gv_R hW hr (Nat.le_of_lt hf.1) hh
    · have hr1 := (isReal_P hk1).mp r1
      rw [iT_t hr1] at hh
      rw [hv.r hr1]
      obtain ⟨s, n, hn, rfl⟩ := fin_bk (hb.1 hr1)
      have hn' := Nat.le_of_lt hn
      rw [sOf_bk hr1 hn', nOf_bk hr1 hn'] at hh
      have key : f_X13_near k (xO k1 (bk k1 s n)) = xO k (bk k s (pm (fm k) (sgN (fm k1) n) (exN (fm k1) n))) ∧ q_X13_near k (xO k1 (bk k1 s n)) := by
        rw [xO_bk hr1 hn', xO_bk hr pm_le]
        unfold f_X13_near q_X13_near
        rcases hr with rfl | rfl
        · have e : FP.d2f (X6 s (w6 k1 n)) = X5 s (pm (fm 5) (sgN (fm k1) n) (exN (fm k1) n)) := by
            rw [d2f_X (w6_le hr1 hn')]
            rcases hr1 with rfl | rfl
            · rw [w65, nar_wid hn', pm_self rk5 hn]
            · rw [w66]; exact congrArg (X5 s) (if_pos hn)
          rw [if_pos rfl, e, f2d_X pm_le, w65]
          exact ⟨rfl, fun _ => ⟨vf5 pm_le, vf6 (wid_le pm_le).1⟩⟩
        · rw [if_neg (by decide)]
          refine ⟨?_, fun z => absurd z (by decide)⟩
          rcases hr1 with rfl | rfl
          · rw [w65, w66]; exact congrArg (X6 s) (if_pos hn)
          · rw [w66, w66, pm_self rk6 hn]
      obtain ⟨e, q⟩ := key
      refine ⟨q, ?_⟩
      rw [e]
      exact gv_R hW hr pm_le hh
theorem c_held13 {k k1 : Int32} {w b : Int64} {x : UInt64} {M : Mem} {K : RT} (hW : Wf M) (hk : isK k) (hr : ¬ isRk k) (hk1 : isK k1) (hb : okJ k1 b) (hv : VR k1 w x b) (h : mkC M K k (0, hoJ k (f_X3_whole k1 b))) : sp_X13_held [.ref 605, .int k, .int k1, .long w, .double x] M K := by
  have hh := h.ok rfl
  have hok := hoJ_ok hk hr (f_X3_whole k1 b)
  obtain ⟨l1, l2⟩ := hoLo_int hk hr
  have e1 : (f_X13_leastOf k).toInt = loK k := by
    rcases hk with rfl | rfl | rfl | rfl | rfl | rfl | rfl
    · decide
    · decide
    · decide
    · decide
    · decide
    · exact absurd (Or.inl rfl) hr
    · exact absurd (Or.inr rfl) hr
  have e2 : (f_X13_mostOf k).toInt = hiK k := by
    rcases hk with rfl | rfl | rfl | rfl | rfl | rfl | rfl
    · decide
    · decide
    · decide
    · decide
    · decide
    · exact absurd (Or.inl rfl) hr
    · exact absurd (Or.inr rfl) hr
  have hlh : loK k ≤ hiK k := by
    rcases hk with rfl | rfl | rfl | rfl | rfl | rfl | rfl <;> decide
  refine wX13_held hW (fun {G} hc => ?_)
  have key : ∀ v, v = f_X3_whole k1 b → ∀ L : List (Option Value), G 14 [some (.ref 605), some (.int k), some (.int k1), some (.long w), none, some (.double x), none, none, none] [.long v] M := by
    intro v ev _
    subst ev
    have hi : (hoJ k (f_X3_whole k1 b)).toInt = max (loK k) (min (hiK k) (f_X3_whole k1 b).toInt) := by rw [hoJ_def, max_int, min_int, l1, l2]
    have go : ∀ y : Int64, y.toInt = max (loK k) (min (hiK k) (f_X3_whole k1 b).toInt) → K (some (.int (f_X13_giveWhole k y))) (m_X13_giveWhole k y M) := fun y hy => by
      have : y = hoJ k (f_X3_whole k1 b) := Int64.toInt_inj.mp (hy.trans hi.symm)
      subst this
      exact gv_W hW hk hr (hok.2 hr) hh
    refine eX13_held_14 hc hW ?_
    rw [Int64.le_iff_toInt_le, Int64.le_iff_toInt_le, e1, e2]
    exact ⟨fun a => ⟨fun a' => go _ (by omega), fun a' => go _ (by omega)⟩, fun a => go _ (by omega)⟩
  refine ⟨fun r1 => ?_, fun r1 => ?_⟩
  · have hr1 : ¬ isRk k1 := fun z => r1 ((isReal_P hk1).mpr z)
    refine key w ?_ []
    rw [hv.w hr1]
    unfold f_X3_whole
    exact (iT_f (fun z => hr1 ((isK_real hk1).mp z))).symm
  · have hr1 := (isReal_P hk1).mp r1
    refine key _ ?_ []
    rw [hv.r hr1]
    exact whole_bits hr1 (hb.1 hr1)
end ALONE13
