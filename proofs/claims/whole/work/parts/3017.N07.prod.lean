section PROD2
theorem pm_0 {F : FP.Core.Fmt} {e : Int} : pm F 0 e = 0 := by unfold pm; rw [if_pos rfl]
theorem sgN_0 {k : Int32} (hk : isRk k) {n : Nat} : lN (sgN (fm k) n) = 0 ↔ sgN (fm k) n = 0 := by
  have := sg_rng hk (n := n)
  exact l6_eq (b := 0) (by omega) (by decide)
theorem c27 : (134217727 : Int64) = lN (2 ^ 27 - 1) := by decide
theorem c17 : (131071 : Int64) = lN (2 ^ 17 - 1) := by decide
theorem ssh {n k : Nat} (hn : n < 2 ^ 63) (hk : k < 64) : lN n >>> ((nI k).toInt64 &&& 63) = lN (n / 2 ^ k) := by
  rw [wb_c k hk]
  apply Int64.toInt_inj.mp
  have hb : n / 2 ^ k ≤ n := Nat.div_le_self _ _
  rw [l6_int (by omega)]
  have e : (lN k).toBitVec.smod 64 = BitVec.ofNat 64 k := by rw [wb_tb]; exact wb_sm k hk
  show (lN n >>> lN k).toBitVec.toInt = _
  rw [Int64.toBitVec_shiftRight, e, BitVec.sshiftRight_eq', BitVec.toNat_ofNat, Nat.mod_eq_of_lt (by omega), BitVec.toInt_sshiftRight]
  have : (lN n).toBitVec.toInt = n := l6_int hn
  rw [this, Int.shiftRight_eq_div_pow]
  simp
theorem pr_204 {G : Nat → KT} {K : RT} (hc : cloX3_product G K wT) {k : Int32} (hk : isRk k) {s t sg : Bool} {n m N u v : Nat} {b : Int32} (hn : n < iN k) (hm : m < iN k) (hN : N < 2 ^ 63) (hu : u ≤ 52) (hv : v ≤ 52)
    {o6 o7 o8 o9 o12 o13 o14 o15 o16 o17 o20 o21 : Option Value} {M : Mem} (hW : Wf M) (hN2 : (N ||| 1) < 2 ^ 63)
    (h : K (some (.long (bk k sg (pm (fm k) (if b = 0 then N ||| 1 else N) (exN (fm k) n + exN (fm k) m - u - v + 44))))) M) :
    G 204 [some (.int k), some (.long (bk k s n)), none, some (.long (bk k t m)), none, some (.int (sI sg)), o6, o7, o8, o9, some (.int (nI u)), some (.int (nI v)), o12, o13, o14, o15, o16, o17, some (.long (lN N)), none, o20, o21] [.int b] M := by
  have g3 := ex_rng hk (n := n) (by omega)
  have g4 := ex_rng hk (n := m) (by omega)
  refine eX3_product_204 hc hW ?_
  intro y9 hy9
  have hy : y9 = iI (exN (fm k) n + exN (fm k) m - u - v + 44) := by
    rw [hy9, ex_bk hk (by omega), ex_bk hk (by omega), ← iI_nat, ← iI_nat, show (44 : Int32) = iI 44 from rfl, iI_add, iI_sub, iI_sub, iI_add]
  subst hy
  refine ⟨fun q => ?_, fun q => ?_⟩
  · rw [if_pos q] at h
    rw [show (1 : Int64) = lN 1 from rfl, wb_or (by omega) (by decide)]
    exact c_X3_pack hW hk rfl hN2 (by omega) (rX3_product_245_1 hc hW h)
  · rw [if_neg q] at h
    exact c_X3_pack hW hk rfl hN (by omega) (rX3_product_245_1 hc hW h)
theorem pr_30 {G : Nat → KT} {K : RT} (hc : cloX3_product G K wT) {k : Int32} (hk : isRk k) {s t sg : Bool} {n m : Nat} (hn : n < iN k) (hm : m < iN k)
    {o5 o6 o7 o8 o9 o10 o11 o12 o13 o14 o15 o16 o17 o18 o19 o20 o21 : Option Value} {M : Mem} (hW : Wf M) (h : K (some (.long (bk k sg (muM k n m)))) M) :
    G 30 [some (.int k), some (.long (bk k s n)), none, some (.long (bk k t m)), none, o5, o6, o7, o8, o9, o10, o11, o12, o13, o14, o15, o16, o17, o18, o19, o20, o21] [.int (sI sg)] M := by
  obtain ⟨fb, f1, f2, f3, f4, f5, f6, f7, f8, f9, f10, f11, f12, f13⟩ := FKof hk
  have g1 := sg_rng hk (n := n)
  have g2 := sg_rng hk (n := m)
  unfold muM at h
  refine eX3_product_30 hc hW ?_
  rw [sg_bk hk (by omega), sg_bk hk (by omega), sgN_0 hk, sgN_0 hk]
  have z : sgN (fm k) n * sgN (fm k) m = 0 → K (some (.long (bk k sg (pm (fm k) 0 0)))) M := by
    intro q
    rw [q, pm_0] at h
    rw [pm_0]
    exact h
  refine ⟨fun q => ?_, fun q => ⟨fun q2 => ?_, fun q2 => ?_⟩⟩
  · exact c_X3_pack (m := 0) (e := 0) hW hk rfl (by decide) (by decide) (rX3_product_60_4 hc hW (z (by rw [q, Nat.zero_mul])))
  · intro y1 hy1 y2 hy2 y3 hy3 y4 hy4 y5 hy5 y6 hy6 y7 hy7 y8 hy8
    obtain ⟨u1, u2, u3⟩ := up_53 (c := sgN (fm k) n) (by omega) g1
    obtain ⟨v1, v2, v3⟩ := up_53 (c := sgN (fm k) m) (by omega) g2
    rw [up_l (by omega) g1] at hy1
    rw [up_l (by omega) g2] at hy2
    rw [hy1, wb_shl _ (by omega)] at hy3
    rw [hy2, wb_shl _ (by omega)] at hy4
    have hab : (sgN (fm k) n * 2 ^ (52 - (sgN (fm k) n).log2)) * (sgN (fm k) m * 2 ^ (52 - (sgN (fm k) m).log2)) = sgN (fm k) n * sgN (fm k) m * 2 ^ ((52 - (sgN (fm k) n).log2) + (52 - (sgN (fm k) m).log2)) := by
      rw [Nat.pow_add]
      grind
    generalize ha : sgN (fm k) n * 2 ^ (52 - (sgN (fm k) n).log2) = a at *
    generalize hb : sgN (fm k) m * 2 ^ (52 - (sgN (fm k) m).log2) = b at *
    obtain ⟨p1, p2, p3, p4, p5, p6⟩ := mul_parts u3 v3
    have hP : 2 ^ 104 ≤ a * b := by
      have := Nat.mul_le_mul u2 v2
      exact this
    have hP2 : a * b < 2 ^ 106 := by
      have := Nat.mul_lt_mul'' u3 v3
      exact this
    have ya : ∀ z : Nat, z < 2 ^ 53 → lN z &&& (134217727 : Int64) = lN (z % 2 ^ 27) := fun z hz => by rw [c27, wb_mask (by omega) (by decide)]
    have yb : ∀ z : Nat, z < 2 ^ 63 → lN z >>> ((27 : Int32).toInt64 &&& 63) = lN (z / 2 ^ 27) := fun z hz => ssh (k := 27) hz (by decide)
    rw [hy3, hy4, ya _ u3, ya _ v3, lN_mul] at hy5
    rw [hy3, hy4, hy5, ya _ u3, ya _ v3, yb _ (by omega), yb _ (by omega), yb _ (by omega), lN_mul, lN_mul, lN_add, lN_add] at hy6
    rw [hy3, hy4, yb _ (by omega), yb _ (by omega), lN_mul] at hy7
    rw [hy6, hy7, show (10 : Int32) = nI 10 from rfl, wb_shl _ (by decide), show (17 : Int32) = nI 17 from rfl, ssh (by omega) (by decide), lN_add, p1] at hy8
    have ex1 : (y5 &&& (134217727 : Int64)) = 0 ↔ (a % 2 ^ 27) * (b % 2 ^ 27) % 2 ^ 27 = 0 := by
      rw [hy5, c27, wb_mask (by omega) (by decide)]
      exact l6_eq (b := 0) (by omega) (by decide)
    have ex2 : (y6 &&& (131071 : Int64)) = 0 ↔ ((a / 2 ^ 27) * (b % 2 ^ 27) + (a % 2 ^ 27) * (b / 2 ^ 27) + (a % 2 ^ 27) * (b % 2 ^ 27) / 2 ^ 27) % 2 ^ 17 = 0 := by
      rw [hy6, c17, wb_mask (by omega) (by decide)]
      exact l6_eq (b := 0) (by omega) (by decide)
    rw [ex1, ex2, hy1, hy2, hy8]
    clear hy1 hy2 hy3 hy4 hy5 hy6 hy7 hy8 ya yb
    have hT : 2 ^ ((fm k).p + 1) ≤ 2 ^ 54 := pow2_le (by omega)
    have fin : ∀ b' : Int32, (b' = 0 ↔ ¬ a * b % 2 ^ 44 = 0) → K (some (.long (bk k sg (pm (fm k) (if b' = 0 then a * b / 2 ^ 44 ||| 1 else a * b / 2 ^ 44) (exN (fm k) n + exN (fm k) m - ((52 - (sgN (fm k) n).log2 : Nat) : Int) - ((52 - (sgN (fm k) m).log2 : Nat) : Int) + 44))))) M := by
      intro b' hb'
      have e1 : (if b' = 0 then a * b / 2 ^ 44 ||| 1 else a * b / 2 ^ 44) = mvN (a * b) 44 := by
        unfold mvN
        by_cases w : a * b % 2 ^ 44 = 0
        · rw [if_pos w, if_neg (fun z => hb'.mp z w)]
        · rw [if_neg w, if_pos (hb'.mpr w)]
      rw [e1]
      have e2 : pm (fm k) (mvN (a * b) 44) (exN (fm k) n + exN (fm k) m - ((52 - (sgN (fm k) n).log2 : Nat) : Int) - ((52 - (sgN (fm k) m).log2 : Nat) : Int) + 44) = pm (fm k) (sgN (fm k) n * sgN (fm k) m) (exN (fm k) n + exN (fm k) m) := by
        have := pm_of_rr hk (rr_mv (f := fm k) (s := false) (x := a * b) (d := 44) (e := exN (fm k) n + exN (fm k) m - ((52 - (sgN (fm k) n).log2 : Nat) : Int) - ((52 - (sgN (fm k) m).log2 : Nat) : Int)) (by omega) (by omega))
        rw [show ((44 : Nat) : Int) = 44 from rfl] at this
        rw [this, hab]
        have q3 := pm_num hk (m := sgN (fm k) n * sgN (fm k) m) (j := (52 - (sgN (fm k) n).log2) + (52 - (sgN (fm k) m).log2)) (e := exN (fm k) n + exN (fm k) m)
        rw [← q3]
        congr 1
        omega
      rw [e2]
      exact h
    have hN1 : a * b / 2 ^ 44 < 2 ^ 62 := by omega
    have hN2 : (a * b / 2 ^ 44 ||| 1) < 2 ^ 63 := by rw [or1]; split <;> omega
    have w0 : ¬ (1 : Int32) = 0 := by decide
    refine ⟨fun w => ?_, fun w => ⟨fun w2 => ?_, fun w2 => ?_⟩⟩
    · exact pr_204 hc hk hn hm (by omega) (by omega) (by omega) hW hN2 (fin 0 ⟨fun _ z => w ((p2.mpr z).1), fun _ => rfl⟩)
    · exact pr_204 hc hk hn hm (by omega) (by omega) (by omega) hW hN2 (fin 0 ⟨fun _ z => w2 ((p2.mpr z).2), fun _ => rfl⟩)
    · exact pr_204 hc hk hn hm (by omega) (by omega) (by omega) hW hN2 (fin 1 ⟨fun z => absurd z w0, fun z => absurd (p2.mp ⟨w, w2⟩) z⟩)
  · exact c_X3_pack (m := 0) (e := 0) hW hk rfl (by decide) (by decide) (rX3_product_60_4 hc hW (z (by rw [q2, Nat.mul_zero])))
theorem c_X3_product {k : Int32} {s t : Bool} {n m : Nat} {M : Mem} {K : RT} (hW : Wf M) (hk : isRk k) (hn : n < iN k) (hm : m < iN k) (h : K (some (.long (bk k (s != t) (muM k n m)))) M) : sp_X3_product [.int k, .long (bk k s n), .long (bk k t m)] M K := by
  refine ⟨Nat.le_of_ble_eq_true rfl, fun G hc => ?_⟩
  rw [hW.1] at hc
  refine eX3_product hc hW ?_
  rw [bk_pos hk (by omega)]
  refine ⟨fun q => eX3_product_11 hc hW ?_, fun q => eX3_product_11 hc hW ?_⟩
  · subst q
    rw [bk_pos hk (by omega)]
    refine ⟨fun q => ⟨fun _ => ?_, fun z => absurd rfl z⟩, fun q => ⟨fun z => absurd z (by decide), fun _ => ?_⟩⟩
    · subst q
      exact pr_30 (sg := false) hc hk hn hm hW h
    · have := ts_nf q
      subst this
      exact pr_30 (sg := true) hc hk hn hm hW h
  · have := ts_nf q
    subst this
    rw [bk_pos hk (by omega)]
    refine ⟨fun q => ⟨fun z => absurd z (by decide), fun _ => ?_⟩, fun q => ⟨fun _ => ?_, fun z => absurd rfl z⟩⟩
    · subst q
      exact pr_30 (sg := true) hc hk hn hm hW h
    · have := ts_nf q
      subst this
      exact pr_30 (sg := false) hc hk hn hm hW h
end PROD2
