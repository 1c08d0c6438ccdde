section OPS1
/-- the doubles' constants over zero -/
theorem div_zero {s : Bool} : FP.ddiv FP.dconst1 (X6 s 0) = X6 s (iN 6) := by
  rw [d1_X]
  unfold X6
  rw [eb6, eb6, eb6, iN6]
  cases s <;> decide +kernel
theorem inf_sg {s : Bool} {op : CmpOp} : 0 ≤ cmpValue (FP.dcmp (X6 s (iN 6)) FP.dconst0) op ↔ s = false := by
  rw [d0_X]
  unfold X6
  rw [eb6, eb6, iN6]
  cases s <;> cases op <;> decide +kernel
theorem x_z {k : Int32} (hk : isRk k) {s : Bool} {n : Nat} (hn : n < iN k) {op : CmpOp} : cmpValue (FP.dcmp (xO k (bk k s n)) FP.dconst0) op = 0 ↔ n = 0 := by
  rw [xcmp0 hk hn, cv_eq, vI_0 hk]
theorem x_ge0 {k : Int32} (hk : isRk k) {s : Bool} {n : Nat} (hn : n < iN k) {op : CmpOp} : 0 ≤ cmpValue (FP.dcmp (xO k (bk k s n)) FP.dconst0) op ↔ (s = true → n = 0) := by
  have h := vI_le hk (s := false) (t := s) (n := 0) (m := n)
  have e : vI k false 0 = 0 := by unfold vI; rw [zuN_0 hk]; rfl
  rw [e] at h
  rw [xcmp0 hk hn, cv_ge, h]
  unfold pI_
  cases s
  · exact ⟨fun _ z => absurd z (by decide), fun _ => by simp⟩
  · simp only [Bool.false_eq_true, if_false, if_true]
    exact ⟨fun z _ => by omega, fun z => by have := z trivial; omega⟩
theorem i32_lt0 (x : Int32) : x < 0 ↔ ¬ 0 ≤ x := by
  rw [Int32.lt_iff_toInt_lt, Int32.le_iff_toInt_le]; omega
theorem i64_lt (x y : Int64) : x < y ↔ ¬ y ≤ x := by
  rw [Int64.lt_iff_toInt_lt, Int64.le_iff_toInt_le]; omega
/-- one over a zero: its sign -/
theorem x_inv {k : Int32} (hk : isRk k) {s : Bool} : vf_n64 (FP.ddiv FP.dconst1 (xO k (bk k s 0))) ∧ ∀ op, (0 ≤ cmpValue (FP.dcmp (FP.ddiv FP.dconst1 (xO k (bk k s 0))) FP.dconst0) op ↔ s = false) := by
  have h0 : 0 ≤ iN k := Nat.zero_le _
  rw [xO_bk hk h0, (w6_z hk h0).mpr rfl, div_zero]
  exact ⟨vf6 (Nat.le_refl _), fun op => inf_sg⟩
noncomputable def ordS (k : Int32) (x y : Int64) : Int32 := if f_X3_order k x < f_X3_order k y then -1 else if f_X3_order k y < f_X3_order k x then 1 else 0
theorem ordK {k : Int32} (h : isK k) (hr : ¬ isRk k) (x : Int64) : f_X3_order k x = x := by
  unfold f_X3_order
  exact iT_f (fun z => hr ((isK_real h).mp z))
/-- a value's place in the order of sorting -/
def oI_ (s : Bool) (n : Nat) : Int := if s then -1 - (n : Int) else n
theorem ord_lt {k : Int32} (hk : isRk k) {s t : Bool} {n m : Nat} (hn : n ≤ iN k) (hm : m ≤ iN k) : f_X3_order k (bk k s n) < f_X3_order k (bk k t m) ↔ oI_ s n < oI_ t m := by
  have h1 := lt63 hk hn
  have h2 := lt63 hk hm
  rw [ord_bk hk hn, ord_bk hk hm, Int64.lt_iff_toInt_lt, lI_toInt (by cases s <;> simp <;> omega) (by cases s <;> simp <;> omega), lI_toInt (by cases t <;> simp <;> omega) (by cases t <;> simp <;> omega)]
  rfl
theorem c_order13 {k : Int32} {w w' b b' : Int64} {x x' : UInt64} {M : Mem} {K : RT} (hW : Wf M) (hk : isK k) (hb : okJ k b) (hb' : okJ k b') (hv : VR k w x b) (hv' : VR k w' x' b') (h : K (some (.int (ordS k b b'))) M) : sp_X13_order [.int k, .long w, .double x, .long w', .double x'] M K := by
  refine wX13_order hW (fun {G} hc => ?_)
  unfold ordS at h
  refine ⟨fun r => ?_, fun r => ?_⟩
  · have hr := (isReal_P hk).mp r
    rw [hv.r hr, hv'.r hr]
    obtain ⟨s, n, hn, rfl⟩ := fin_bk (hb.1 hr)
    obtain ⟨t, m, hm, rfl⟩ := fin_bk (hb'.1 hr)
    simp only [ord_lt hr (Nat.le_of_lt hn) (Nat.le_of_lt hm), ord_lt hr (Nat.le_of_lt hm) (Nat.le_of_lt hn)] at h
    rw [xcmp hr hn hm, x_z hr hn, cv_eq, cv_ge, vI_eq hr, vI_le hr]
    refine ⟨fun e => ?_, fun e => ⟨fun g => ?_, fun g => ?_⟩⟩
    · -- the second value's sign
      have snd : ∀ s0 : Int32, s0 = (if n = 0 ∧ s = true then 1 else 0) → G 70 [some (.int k), some (.long w), none, some (.double (xO k (bk k s n))), none, some (.long w'), none, some (.double (xO k (bk k t m))), none, none, none] [.int s0] M := by
        intro s0 e0
        refine eX13_order_70 hc hW ?_
        rw [x_z hr hm]
        have fin : ∀ s1 : Int32, s1 = (if m = 0 ∧ t = true then 1 else 0) → G 93 [some (.int k), some (.long w), none, some (.double (xO k (bk k s n))), none, some (.long w'), none, some (.double (xO k (bk k t m))), none, some (.int s0), none] [.int s1] M := by
          intro s1 e1
          refine eX13_order_93 hc hW ?_
          rw [e0, e1]
          unfold oI_ at h
          unfold pI_ at e
          cases s <;> cases t
          · simp only [Bool.false_eq_true, and_false, if_false] at e h ⊢
            refine ⟨fun z => absurd trivial z, fun _ => ?_⟩
            rw [if_neg (by omega), if_neg (by omega)] at h
            exact h
          · simp only [Bool.false_eq_true, and_false, and_true, if_false, if_true] at e h ⊢
            rw [if_neg (by omega), if_pos (by omega)] at h
            rw [if_pos (by omega)]
            exact ⟨fun _ => ⟨fun _ => h, fun z => absurd trivial z⟩, fun z => absurd z (by decide)⟩
          · simp only [Bool.false_eq_true, and_false, and_true, if_false, if_true] at e h ⊢
            rw [if_pos (by omega)] at h
            rw [if_pos (by omega)]
            exact ⟨fun _ => ⟨fun z => absurd z (by decide), fun _ => h⟩, fun z => absurd z (by decide)⟩
          · simp only [and_true, if_true] at e h ⊢
            have : n = m := by omega
            subst this
            rw [if_neg (by omega), if_neg (by omega)] at h
            exact ⟨fun z => absurd rfl z, fun _ => h⟩
        refine ⟨fun z => fin 0 (by rw [if_neg (fun y => z y.1)]), fun z => ?_⟩
        subst z
        obtain ⟨a, a'⟩ := x_inv hr (s := t)
        rw [a']
        refine ⟨a, fun y => fin 0 (by rw [if_neg (fun u => by rw [y] at u; exact absurd u.2 (by decide))]), fun y => fin 1 (by rw [if_pos ⟨rfl, by cases t <;> simp_all⟩])⟩
      refine ⟨fun z => snd 0 (by rw [if_neg (fun y => z y.1)]), fun z => ?_⟩
      subst z
      obtain ⟨a, a'⟩ := x_inv hr (s := s)
      rw [a']
      refine ⟨a, fun y => snd 0 (by rw [if_neg (fun u => by rw [y] at u; exact absurd u.2 (by decide))]), fun y => snd 1 (by rw [if_pos ⟨rfl, by cases s <;> simp_all⟩])⟩
    · have e' : oI_ t m < oI_ s n := by
        unfold oI_; unfold pI_ at e g
        cases s <;> cases t <;> simp_all <;> omega
      rw [if_neg (by omega), if_pos e'] at h
      exact h
    · have e' : oI_ s n < oI_ t m := by
        unfold oI_; unfold pI_ at e g
        cases s <;> cases t <;> simp_all <;> omega
      rw [if_pos e'] at h
      exact h
  · have hr : ¬ isRk k := fun z => r ((isReal_P hk).mpr z)
    rw [ordK hk hr, ordK hk hr] at h
    rw [hv.w hr, hv'.w hr]
    refine ⟨fun a => ⟨fun a' => ?_, fun a' => ?_⟩, fun a => ?_⟩
    · rw [if_neg (fun z => by rw [i64_lt] at z; exact z a), if_neg (fun z => by rw [i64_lt] at z; exact z a')] at h
      exact h
    · rw [if_neg (fun z => by rw [i64_lt] at z; exact z a), if_pos ((i64_lt _ _).mpr a')] at h
      exact h
    · rw [if_pos ((i64_lt _ _).mpr a)] at h
      exact h
end OPS1
