section NUMJ
def sOf (x : Int64) : Bool := decide (x < 0)
noncomputable def nOf (k : Int32) (x : Int64) : Nat := (f_X3_magnitude k x).toInt.toNat
/-- the bits of a finite number of a real kind -/
def finJ (k : Int32) (x : Int64) : Prop := nOf k x < iN k ∧ x = bk k (sOf x) (nOf k x)
theorem sOf_bk {k : Int32} (hk : isRk k) {s : Bool} {n : Nat} (h : n ≤ iN k) : sOf (bk k s n) = s := by
  unfold sOf
  have := bk_neg hk h (s := s)
  cases s with
  | false => exact decide_eq_false (fun q => by simpa using this.mp q)
  | true => exact decide_eq_true (this.mpr rfl)
theorem nOf_bk {k : Int32} (hk : isRk k) {s : Bool} {n : Nat} (h : n ≤ iN k) : nOf k (bk k s n) = n := by
  unfold nOf
  obtain ⟨fb, hF⟩ := FKof hk
  rw [mg_bk hk h, l6_int ((lt_pow (fb := fb) hk rfl h).2)]
  rfl
theorem finJ_bk {k : Int32} (hk : isRk k) {s : Bool} {n : Nat} (h : n < iN k) : finJ k (bk k s n) := by
  unfold finJ
  rw [nOf_bk hk (by omega), sOf_bk hk (by omega)]
  exact ⟨h, rfl⟩
theorem bk_inj {k : Int32} (hk : isRk k) {s s' : Bool} {n n' : Nat} (h : n ≤ iN k) (h' : n' ≤ iN k) (e : bk k s n = bk k s' n') : s = s' ∧ n = n' := by
  have a := sOf_bk hk h (s := s)
  have b := nOf_bk hk h (s := s)
  rw [e, sOf_bk hk h'] at a
  rw [e, nOf_bk hk h'] at b
  exact ⟨a.symm, b.symm⟩
theorem sg_z {k : Int32} (hk : isRk k) {n : Nat} (hn : n < iN k) : sgN (fm k) n = 0 ↔ n = 0 := by
  refine ⟨fun q => ?_, fun q => ?_⟩
  · have := pm_id hk hn
    rw [q, pm_0] at this
    exact this.symm
  · subst q
    unfold sgN
    rw [Nat.zero_div, if_pos rfl, Nat.zero_mod]
/-- operations on bits -/
noncomputable def sumJ (k : Int32) (x y : Int64) : Int64 := bk k (suS k (sOf x) (nOf k x) (sOf y) (nOf k y)) (suM k (sOf x) (nOf k x) (sOf y) (nOf k y))
noncomputable def proJ (k : Int32) (x y : Int64) : Int64 := bk k (sOf x != sOf y) (muM k (nOf k x) (nOf k y))
noncomputable def quoJ (k : Int32) (x y : Int64) : Int64 := bk k (sOf x != sOf y) (diM k (nOf k x) (nOf k y))
noncomputable def resJ (k : Int32) (x y : Int64) : Int64 := bk k (sOf x) (reM k (nOf k x) (nOf k y))
noncomputable def reaJ (k : Int32) (v : Int64) : Int64 := bk k (decide (v < 0)) (pm (fm k) v.toInt.natAbs 0)
def fin2 (k : Int32) (x y : Int64) : Prop := isRk k ∧ finJ k x ∧ finJ k y
def fin2z (k : Int32) (x y : Int64) : Prop := isRk k ∧ finJ k x ∧ finJ k y ∧ ¬ nOf k y = 0
theorem c_sumJ {k : Int32} {x y : Int64} {M : Mem} {K : RT} (hW : Wf M) (hp : fin2 k x y) (h : K (some (.long (sumJ k x y))) M) : sp_X3_sum [.int k, .long x, .long y] M K := by
  obtain ⟨hk, ⟨h1, h2⟩, h3, h4⟩ := hp
  rw [h2, h4]
  exact c_X3_sum hW hk h1 h3 h
theorem c_proJ {k : Int32} {x y : Int64} {M : Mem} {K : RT} (hW : Wf M) (hp : fin2 k x y) (h : K (some (.long (proJ k x y))) M) : sp_X3_product [.int k, .long x, .long y] M K := by
  obtain ⟨hk, ⟨h1, h2⟩, h3, h4⟩ := hp
  rw [h2, h4]
  exact c_X3_product hW hk h1 h3 h
theorem c_quoJ {k : Int32} {x y : Int64} {M : Mem} {K : RT} (hW : Wf M) (hp : fin2z k x y) (h : K (some (.long (quoJ k x y))) M) : sp_X3_quotient [.int k, .long x, .long y] M K := by
  obtain ⟨hk, ⟨h1, h2⟩, ⟨h3, h4⟩, h5⟩ := hp
  rw [h2, h4]
  exact c_X3_quotient hW hk h1 h3 (Nat.pos_of_ne_zero (fun q => h5 ((sg_z hk h3).mp q))) h
theorem c_resJ {k : Int32} {x y : Int64} {M : Mem} {K : RT} (hW : Wf M) (hp : fin2z k x y) (h : K (some (.long (resJ k x y))) M) : sp_X3_rest [.int k, .long x, .long y] M K := by
  obtain ⟨hk, ⟨h1, h2⟩, ⟨h3, h4⟩, h5⟩ := hp
  rw [h2, h4]
  exact c_X3_rest hW hk h1 h3 (Nat.pos_of_ne_zero (fun q => h5 ((sg_z hk h3).mp q))) h
def isRk1 (k : Int32) (_ : Int64) : Prop := isRk k
theorem lI_asI (x : Int64) : lI x.toInt = x := by
  apply Int64.toInt_inj.mp
  have := fb_rngL x
  rw [lI_toInt this.1 this.2]
theorem c_reaJ {k : Int32} {v : Int64} {M : Mem} {K : RT} (hW : Wf M) (hp : isRk1 k v) (h : K (some (.long (reaJ k v))) M) : sp_X3_real [.int k, .long v] M K := by
  have hr := fb_rngL v
  have e : (decide (v < 0)) = decide (v.toInt < 0) := by
    have : v < 0 ↔ v.toInt < 0 := by rw [fa_lt64]; rfl
    simp only [this]
  unfold reaJ at h
  rw [e] at h
  rw [← lI_asI v]
  refine c_X3_real hW hp hr ?_
  exact h
/-- kinds -/
def isK (k : Int32) : Prop := k = 0 ∨ k = 1 ∨ k = 2 ∨ k = 3 ∨ k = 4 ∨ k = 5 ∨ k = 6
theorem isK_real {k : Int32} (h : isK k) : P_X3_isReal k ↔ isRk k := by
  rcases h with rfl | rfl | rfl | rfl | rfl | rfl | rfl <;> (unfold P_X3_isReal isRk; decide)
noncomputable def putJ (k : Int32) (v : Int64) : Int64 := iT (isRk k) (reaJ k v) (f_X3_lowBits k v)
def isK1 (k : Int32) (_ : Int64) : Prop := isK k
theorem c_putJ {k : Int32} {v : Int64} {M : Mem} {K : RT} (hW : Wf M) (hp : isK1 k v) (h : K (some (.long (putJ k v))) M) : sp_X3_put [.int k, .long v] M K := by
  refine ⟨Nat.le_of_ble_eq_true rfl, fun G hc => ?_⟩
  rw [hW.1] at hc
  unfold putJ at h
  refine eX3_put hc hW ⟨fun q => ?_, fun q => ?_⟩
  · rw [isK_real hp] at q
    rw [iT_f q] at h
    exact h
  · rw [isK_real hp] at q
    rw [iT_t q] at h
    exact c_reaJ hW q (rX3_put_7_2 hc hW h)
/-- the bits x of kind f as kind t -/
noncomputable def casJ (f t : Int32) (x : Int64) : Int64 :=
  iT (isRk t) (iT (isRk f) (bk t (sOf x) (pm (fm t) (sgN (fm f) (nOf f x)) (exN (fm f) (nOf f x)))) (reaJ t x)) (iT (isRk f ∧ ¬ t = 4) (f_X3_lowBits t (hoJ 3 (f_X3_whole f x))) (f_X3_lowBits t (f_X3_whole f x)))
def q_casJ (f t : Int32) (x : Int64) : Prop := isK f ∧ isK t ∧ (isRk f → finJ f x)
theorem c_casJ {f t : Int32} {x : Int64} {M : Mem} {K : RT} (hW : Wf M) (hp : q_casJ f t x) (h : K (some (.long (casJ f t x))) M) : sp_X3_cast [.int f, .int t, .long x] M K := by
  refine ⟨Nat.le_of_ble_eq_true rfl, fun G hc => ?_⟩
  rw [hW.1] at hc
  obtain ⟨hf, ht, hx⟩ := hp
  unfold casJ at h
  refine eX3_cast hc hW ?_
  rw [isK_real hf, isK_real ht]
  refine ⟨fun q => ?_, fun q => ?_⟩
  · rw [iT_f q] at h
    refine ⟨fun q2 => ?_, fun q2 => ⟨fun q3 => ?_, fun q3 => ?_⟩⟩
    · rw [iT_f (fun z => q2 z.1)] at h
      exact h
    · rw [iT_t ⟨q2, q3⟩] at h
      exact c_X3_hold hW (rX3_cast_70_5 hc hW h)
    · rw [iT_f (fun z => z.2 q3)] at h
      exact h
  · rw [iT_t q] at h
    refine ⟨fun q2 => ?_, fun q2 => ?_⟩
    · rw [iT_f q2] at h
      exact c_reaJ hW q (rX3_cast_42_2 hc hW h)
    · rw [iT_t q2] at h
      obtain ⟨h1, h2⟩ := hx q2
      have g1 := sg_rng q2 (n := nOf f x)
      have g3 := ex_rng q2 (n := nOf f x) (by omega)
      have e1 : f_X3_significand f x = lN (sgN (fm f) (nOf f x)) := by
        conv => lhs; rw [h2]
        exact sg_bk q2 (by omega)
      have e2 : f_X3_exponent f x = iI (exN (fm f) (nOf f x)) := by
        conv => lhs; rw [h2]
        exact ex_bk q2 (by omega)
      have e3 : (0 : Int64) ≤ x ↔ sOf x = false := by
        conv => lhs; rw [h2]
        exact bk_pos q2 (by omega)
      rw [e1, e2, e3]
      refine ⟨fun q3 => ?_, fun q3 => ?_⟩
      · rw [q3] at h
        exact c_X3_pack hW q rfl (by omega) (by omega) (rX3_cast_26_6 hc hW h)
      · rw [ts_nf q3] at h
        exact c_X3_pack hW q rfl (by omega) (by omega) (rX3_cast_26_6 hc hW h)
/-- the whole root -/
def sqD : Nat → Nat → Nat × Nat
  | 0, _ => (0, 0)
  | j + 1, v => if 4 * (sqD j (v / 4)).1 + 1 ≤ 4 * (sqD j (v / 4)).2 + v % 4 then (2 * (sqD j (v / 4)).1 + 1, 4 * (sqD j (v / 4)).2 + v % 4 - (4 * (sqD j (v / 4)).1 + 1)) else (2 * (sqD j (v / 4)).1, 4 * (sqD j (v / 4)).2 + v % 4)
theorem sqD_is : ∀ (j v : Nat), v < 4 ^ j → isR v (sqD j v).1 (sqD j v).2 := by
  intro j
  induction j with
  | zero =>
    intro v hv
    have : v = 0 := by simpa using hv
    subst this
    exact isR_0
  | succ j ih =>
    intro v hv
    have h := ih (v / 4) (by rw [Nat.div_lt_iff_lt_mul (by decide)]; rw [Nat.pow_succ] at hv; exact hv)
    have hb : v % 4 < 4 := Nat.mod_lt _ (by decide)
    have e : v = 4 * (v / 4) + v % 4 := (Nat.div_add_mod v 4).symm
    unfold sqD
    split
    · rename_i q
      have := isR_hi h hb q
      rw [← e] at this
      exact this
    · rename_i q
      have := isR_lo h hb q
      rw [← e] at this
      exact this
noncomputable def rooJ (k : Int32) (x : Int64) : Int64 :=
  if nOf k x = 0 then x else bk k false (pm (fm k) (if (sqD 57 (roX k (nOf k x) * 4 ^ 30)).2 = 0 then (sqD 57 (roX k (nOf k x) * 4 ^ 30)).1 else (sqD 57 (roX k (nOf k x) * 4 ^ 30)).1 ||| 1) ((roE k (nOf k x)).tdiv 2 - 30))
def q_rooJ (k : Int32) (x : Int64) : Prop := isRk k ∧ finJ k x ∧ (sOf x = true → nOf k x = 0)
theorem roX_lt {k : Int32} (hk : isRk k) {n : Nat} (h0 : 0 < sgN (fm k) n) : roX k n < 2 ^ 54 := by
  have g1 := sg_rng hk (n := n)
  obtain ⟨u1, u2, u3⟩ := up_53 (c := sgN (fm k) n) h0 g1
  unfold roX
  have : 2 ^ ((exN (fm k) n - ((52 - (sgN (fm k) n).log2 : Nat) : Int)) % 2).toNat ≤ 2 ^ 1 := pow2_le (by omega)
  have := Nat.mul_le_mul_left (sgN (fm k) n * 2 ^ (52 - (sgN (fm k) n).log2)) this
  omega
theorem c_rooJ {k : Int32} {x : Int64} {M : Mem} {K : RT} (hW : Wf M) (hp : q_rooJ k x) (h : K (some (.long (rooJ k x))) M) : sp_X3_root [.int k, .long x] M K := by
  obtain ⟨hk, ⟨h1, h2⟩, h3⟩ := hp
  rw [h2]
  unfold rooJ at h
  refine c_X3_root hW hk h1 h3 (fun q => ?_) (fun r w q q2 hr => ?_)
  · rw [if_pos q] at h
    rw [← h2]
    exact h
  · rw [if_neg (by omega)] at h
    have hx := roX_lt hk (Nat.pos_of_ne_zero (fun z => (Nat.pos_iff_ne_zero.mp q) ((sg_z hk h1).mp z)))
    have hv : roX k (nOf k x) * 4 ^ 30 < 4 ^ 57 := by
      have h5 : roX k (nOf k x) * 4 ^ 30 < 2 ^ 54 * 4 ^ 30 := Nat.mul_lt_mul_of_pos_right hx (by decide)
      exact h5
    obtain ⟨e1, e2⟩ := isR_one hr (sqD_is 57 _ hv)
    rw [← e1, ← e2] at h
    exact h
end NUMJ
