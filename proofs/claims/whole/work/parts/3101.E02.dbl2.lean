section DBL2
theorem eb5 {s : Bool} {n : Nat} : eb 5 s n = s.toNat * 2147483648 + n := by
  unfold eb
  rw [x5, t5]
theorem eb6 {s : Bool} {n : Nat} : eb 6 s n = s.toNat * 9223372036854775808 + n := by
  unfold eb
  rw [x6, t6]
def X6 (s : Bool) (n : Nat) : UInt64 := UInt64.ofNat (eb 6 s n)
def X5 (s : Bool) (n : Nat) : UInt32 := UInt32.ofNat (eb 5 s n)
theorem tn6 {s : Bool} {n : Nat} (h : n ≤ iN 6) : (X6 s n).toNat = eb 6 s n := by
  unfold X6
  rw [iN6] at h
  have : eb 6 s n < 18446744073709551616 := by rw [eb6]; cases s <;> simp <;> omega
  exact UInt64.toNat_ofNat_of_lt' this
theorem tn5 {s : Bool} {n : Nat} (h : n ≤ iN 5) : (X5 s n).toNat = eb 5 s n := by
  unfold X5
  rw [iN5] at h
  have : eb 5 s n < 4294967296 := by rw [eb5]; cases s <;> simp <;> omega
  exact UInt32.toNat_ofNat_of_lt' this
theorem dcf6 {s : Bool} {n : Nat} (h : n < iN 6) : FP.Core.decode FP.Core.b64 (X6 s n).toNat = .fin s (sgN (fm 6) n) (exN (fm 6) n) := by
  rw [tn6 (Nat.le_of_lt h), ← fmt6]
  exact dec_eb rk6 h
theorem dcf5 {s : Bool} {n : Nat} (h : n < iN 5) : FP.Core.decode FP.Core.b32 (X5 s n).toNat = .fin s (sgN (fm 5) n) (exN (fm 5) n) := by
  rw [tn5 (Nat.le_of_lt h), ← fmt5]
  exact dec_eb rk5 h
theorem dci6 {s : Bool} : FP.Core.decode FP.Core.b64 (X6 s (iN 6)).toNat = .inf s := by
  rw [tn6 (Nat.le_refl _), eb6, iN6]
  cases s <;> decide +kernel
theorem dci5 {s : Bool} : FP.Core.decode FP.Core.b32 (X5 s (iN 5)).toNat = .inf s := by
  rw [tn5 (Nat.le_refl _), eb5, iN5]
  cases s <;> decide +kernel
theorem nn6 {s : Bool} {n : Nat} (h : n ≤ iN 6) : FP.Core.dIsNaN (X6 s n) = false := by
  unfold FP.Core.dIsNaN FP.Core.isNaN
  rcases Nat.lt_or_ge n (iN 6) with z | z
  · rw [dcf6 z]; exact decide_eq_false (fun z => by cases z)
  · rw [show n = iN 6 by omega, dci6]; exact decide_eq_false (fun z => by cases z)
theorem nn5 {s : Bool} {n : Nat} (h : n ≤ iN 5) : FP.Core.fIsNaN (X5 s n) = false := by
  unfold FP.Core.fIsNaN FP.Core.isNaN
  rcases Nat.lt_or_ge n (iN 5) with z | z
  · rw [dcf5 z]; exact decide_eq_false (fun z => by cases z)
  · rw [show n = iN 5 by omega, dci5]; exact decide_eq_false (fun z => by cases z)
theorem vf6 {s : Bool} {n : Nat} (h : n ≤ iN 6) : vf_n64 (X6 s n) := by
  unfold vf_n64
  rw [UInt64.le_iff_toNat_le, UInt64.toNat_and, tn6 h, eb6]
  rw [iN6] at h
  rw [show (0x7fffffffffffffff : UInt64).toNat = 2 ^ 63 - 1 from rfl, Nat.and_two_pow_sub_one_eq_mod, show (0x7ff0000000000000 : UInt64).toNat = 9218868437227405312 from rfl]
  cases s <;> simp <;> omega
theorem vf5 {s : Bool} {n : Nat} (h : n ≤ iN 5) : vf_n32 (X5 s n) := by
  unfold vf_n32
  rw [UInt32.le_iff_toNat_le, UInt32.toNat_and, tn5 h, eb5]
  rw [iN5] at h
  rw [show (0x7fffffff : UInt32).toNat = 2 ^ 31 - 1 from rfl, Nat.and_two_pow_sub_one_eq_mod, show (0x7f800000 : UInt32).toNat = 2139095040 from rfl]
  cases s <;> simp <;> omega
/-- a double as a float's magnitude -/
def nar (n : Nat) : Nat := if n < iN 6 then pm (fm 5) (sgN (fm 6) n) (exN (fm 6) n) else iN 5
theorem nar_le {n : Nat} : nar n ≤ iN 5 := by unfold nar; split; · exact pm_le
                                              · exact Nat.le_refl _
theorem d2f_X {s : Bool} {n : Nat} (h : n ≤ iN 6) : FP.d2f (X6 s n) = X5 s (nar n) := by
  unfold FP.d2f FP.Core.d2f nar
  rw [nn6 h, if_neg (by decide)]
  rcases Nat.lt_or_ge n (iN 6) with z | z
  · rw [if_pos z, tn6 h, ← fmt6, ← fmt5, conv_eb rk6 rk5 z]; rfl
  · unfold FP.Core.convert
    rw [if_neg (by omega), show n = iN 6 by omega, dci6]
    unfold X5
    rw [eb5, iN5]
    cases s <;> decide +kernel
theorem f2d_X {s : Bool} {n : Nat} (h : n ≤ iN 5) : FP.f2d (X5 s n) = X6 s (wid n) := by
  unfold FP.f2d FP.Core.f2d wid
  rw [nn5 h, if_neg (by decide)]
  rcases Nat.lt_or_ge n (iN 5) with z | z
  · rw [if_pos z, tn5 h, ← fmt6, ← fmt5, conv_eb rk5 rk6 z]; rfl
  · unfold FP.Core.convert
    rw [if_neg (by omega), show n = iN 5 by omega, dci5]
    unfold X6
    rw [eb6, iN6]
    cases s <;> decide +kernel
theorem nar_wid {n : Nat} (h : n ≤ iN 5) : nar (wid n) = n := by
  rcases Nat.lt_or_ge n (iN 5) with z | z
  · rcases Nat.eq_zero_or_pos n with y | y
    · subst y
      rw [wid_0]
      unfold nar
      rw [if_pos (by rw [iN6]; decide), (sg_z rk6 (by rw [iN6]; decide)).mpr rfl]
      exact if_pos rfl
    · obtain ⟨j, a, b, c, d⟩ := wid_at y z
      unfold nar
      rw [if_pos d, a, b, pm_scale rk5, show exN (fm 5) n - (j : Int) + j = exN (fm 5) n by omega]
      exact pm_self rk5 z
  · have : n = iN 5 := by omega
    subst this
    have e : wid (iN 5) = iN 6 := if_neg (Nat.lt_irrefl _)
    rw [e]
    exact if_neg (Nat.lt_irrefl _)
/-- the double that stands for bits b -/
noncomputable def xO (k : Int32) (b : Int64) : UInt64 := if k = 5 then FP.f2d (b.toInt32.toUInt32) else b.toUInt64
def w6 (k : Int32) (n : Nat) : Nat := if k = 5 then wid n else n
theorem w6_le {k : Int32} (hk : isRk k) {n : Nat} (h : n ≤ iN k) : w6 k n ≤ iN 6 := by
  rcases hk with rfl | rfl
  · exact (wid_le h).1
  · exact h
theorem w6_lt {k : Int32} (hk : isRk k) {n : Nat} (h : n < iN k) : w6 k n < iN 6 := by
  rcases hk with rfl | rfl
  · exact (wid_le (Nat.le_of_lt h)).2.1 h
  · exact h
theorem w6_z {k : Int32} (hk : isRk k) {n : Nat} (h : n ≤ iN k) : w6 k n = 0 ↔ n = 0 := by
  rcases hk with rfl | rfl
  · exact (wid_le h).2.2
  · exact Iff.rfl
theorem w6_i {k : Int32} (hk : isRk k) {n : Nat} (h : n ≤ iN k) : w6 k n = iN 6 ↔ n = iN k := by
  rcases Nat.lt_or_ge n (iN k) with z | z
  · have := w6_lt hk z; omega
  · have e : n = iN k := by omega
    refine ⟨fun _ => e, fun _ => ?_⟩
    subst e
    rcases hk with rfl | rfl
    · unfold w6
      rw [if_pos rfl]
      exact if_neg (Nat.lt_irrefl _)
    · rfl
theorem u6 {k : Int32} (hk : isRk k) {n : Nat} (h : n < iN k) : zuN 6 (w6 k n) = zuN k n := by
  rcases hk with rfl | rfl
  · exact zuN_wid h
  · rfl
theorem bk5_u {s : Bool} {n : Nat} (h : n ≤ iN 5) : (bk 5 s n).toInt32.toUInt32 = X5 s n := by
  unfold bk
  rw [iN5] at h
  cases s with
  | false =>
    rw [if_neg (by decide), lN_toI]
    unfold X5
    rw [eb5]
    show UInt32.ofNat n = _
    congr 1
    first | done | simp
  | true =>
    rw [if_pos rfl, if_pos rfl, lN_toI]
    unfold X5
    rw [eb5]
    show UInt32.ofNat (18446744071562067968 + n) = _
    apply UInt32.toNat_inj.mp
    rw [UInt32.toNat_ofNat', UInt32.toNat_ofNat']
    simp
    omega
theorem bk6_u {s : Bool} {n : Nat} : (bk 6 s n).toUInt64 = X6 s n := by
  unfold bk X6
  rw [eb6]
  cases s with
  | false =>
    rw [if_neg (by decide)]
    show UInt64.ofNat n = _
    congr 1
    first | done | simp
  | true =>
    rw [if_pos rfl, if_neg (by decide)]
    show UInt64.ofNat (9223372036854775808 + n) = _
    congr 1
    first | done | simp
theorem xO_bk {k : Int32} (hk : isRk k) {s : Bool} {n : Nat} (h : n ≤ iN k) : xO k (bk k s n) = X6 s (w6 k n) := by
  unfold xO w6
  rcases hk with rfl | rfl
  · rw [if_pos rfl, if_pos rfl, bk5_u h, f2d_X h]
  · rw [if_neg (by decide), if_neg (by decide), bk6_u]
theorem vf_xO {k : Int32} (hk : isRk k) {s : Bool} {n : Nat} (h : n ≤ iN k) : vf_n64 (xO k (bk k s n)) := by
  rw [xO_bk hk h]
  exact vf6 (w6_le hk h)
theorem zc_lt {x y : Int} (h : x < y) : compare x y = Ordering.lt := by
  show (if x < y then Ordering.lt else if x = y then Ordering.eq else Ordering.gt) = _
  rw [if_pos h]
theorem zc_eq {x y : Int} (h : x = y) : compare x y = Ordering.eq := by
  show (if x < y then Ordering.lt else if x = y then Ordering.eq else Ordering.gt) = _
  rw [if_neg (by omega), if_pos h]
theorem zc_gt {x y : Int} (h : y < x) : compare x y = Ordering.gt := by
  show (if x < y then Ordering.lt else if x = y then Ordering.eq else Ordering.gt) = _
  rw [if_neg (by omega), if_neg (by omega)]
/-- signed values -/
def vI (k : Int32) (s : Bool) (n : Nat) : Int := FP.Core.signed s (zuN k n)
theorem cmp_un {s t : Bool} {c d : Nat} {q r : Int} (h : -1074 ≤ min q r) : (compare (FP.Core.signed s (FP.Core.inUnits c q (min q r))) (FP.Core.signed t (FP.Core.inUnits d r (min q r)))) = compare (FP.Core.signed s (c * 2 ^ (q + 1074).toNat)) (FP.Core.signed t (d * 2 ^ (r + 1074).toNat)) := by
  have e1 : c * 2 ^ (q + 1074).toNat = FP.Core.inUnits c q (min q r) * 2 ^ (min q r + 1074).toNat := by
    unfold FP.Core.inUnits
    rw [Nat.mul_assoc, ← Nat.pow_add]
    congr 2
    omega
  have e2 : d * 2 ^ (r + 1074).toNat = FP.Core.inUnits d r (min q r) * 2 ^ (min q r + 1074).toNat := by
    unfold FP.Core.inUnits
    rw [Nat.mul_assoc, ← Nat.pow_add]
    congr 2
    omega
  rw [e1, e2]
  have hP : 0 < 2 ^ (min q r + 1074).toNat := Nat.two_pow_pos _
  generalize FP.Core.inUnits c q (min q r) = a
  generalize FP.Core.inUnits d r (min q r) = b
  generalize 2 ^ (min q r + 1074).toNat = P at hP
  have es : ∀ (s : Bool) (x : Nat), FP.Core.signed s (x * P) = FP.Core.signed s x * P := fun s x => by
    unfold FP.Core.signed
    cases s
    · simp
    · simp [Int.neg_mul]
  rw [es, es]
  generalize FP.Core.signed s a = x
  generalize FP.Core.signed t b = y
  have hPi : (0 : Int) < (P : Int) := by omega
  rcases Int.lt_trichotomy x y with z | z | z
  · rw [zc_lt z, zc_lt (Int.mul_lt_mul_of_pos_right z hPi)]
  · subst z; rw [zc_eq rfl, zc_eq rfl]
  · rw [zc_gt z, zc_gt (Int.mul_lt_mul_of_pos_right z hPi)]
theorem dcmp_X {s t : Bool} {n m : Nat} (hn : n < iN 6) (hm : m < iN 6) : FP.dcmp (X6 s n) (X6 t m) = some (compare (vI 6 s n) (vI 6 t m)) := by
  show FP.Core.order (FP.Core.decode FP.Core.b64 (X6 s n).toNat) (FP.Core.decode FP.Core.b64 (X6 t m).toNat) = _
  rw [dcf6 hn, dcf6 hm]
  have h1 := (ex_rng rk6 (Nat.le_of_lt hn)).1
  have h2 := (ex_rng rk6 (Nat.le_of_lt hm)).1
  exact congrArg some (cmp_un (by omega))
theorem cv_eq {x y : Int} {op : CmpOp} : Op.cmpValue (some (compare x y)) op = 0 ↔ x = y := by
  rcases Int.lt_trichotomy x y with z | z | z
  · rw [zc_lt z]; exact ⟨fun h => absurd h (by cases op <;> decide), fun h => by omega⟩
  · rw [zc_eq z]; exact ⟨fun _ => z, fun _ => rfl⟩
  · rw [zc_gt z]; exact ⟨fun h => absurd h (by cases op <;> decide), fun h => by omega⟩
theorem cv_ge {x y : Int} {op : CmpOp} : 0 ≤ Op.cmpValue (some (compare x y)) op ↔ y ≤ x := by
  rcases Int.lt_trichotomy x y with z | z | z
  · rw [zc_lt z]; exact ⟨fun h => absurd h (by cases op <;> decide), fun h => by omega⟩
  · rw [zc_eq z]; exact ⟨fun _ => by omega, fun _ => by cases op <;> decide⟩
  · rw [zc_gt z]; exact ⟨fun _ => by omega, fun _ => by cases op <;> decide⟩
theorem cv_le {x y : Int} {op : CmpOp} : Op.cmpValue (some (compare x y)) op ≤ 0 ↔ x ≤ y := by
  rcases Int.lt_trichotomy x y with z | z | z
  · rw [zc_lt z]; exact ⟨fun _ => by omega, fun _ => by cases op <;> decide⟩
  · rw [zc_eq z]; exact ⟨fun _ => by omega, fun _ => by cases op <;> decide⟩
  · rw [zc_gt z]; exact ⟨fun h => absurd h (by cases op <;> decide), fun h => by omega⟩
/-- a value's place in the order of values -/
def pI_ (s : Bool) (n : Nat) : Int := if s then -(n : Int) else n
theorem vI_lt {k : Int32} (hk : isRk k) {s t : Bool} {n m : Nat} : vI k s n < vI k t m ↔ pI_ s n < pI_ t m := by
  have h1 := zuN_lt hk (n := n) (m := m)
  have h2 := zuN_lt hk (n := m) (m := n)
  have z1 := zuN_lt hk (n := 0) (m := n)
  have z2 := zuN_lt hk (n := 0) (m := m)
  rw [zuN_0 hk] at z1 z2
  unfold vI pI_ FP.Core.signed
  cases s <;> cases t <;> simp <;> omega
theorem vI_le {k : Int32} (hk : isRk k) {s t : Bool} {n m : Nat} : vI k s n ≤ vI k t m ↔ pI_ s n ≤ pI_ t m := by
  have := vI_lt hk (s := t) (t := s) (n := m) (m := n)
  omega
theorem vI_eq {k : Int32} (hk : isRk k) {s t : Bool} {n m : Nat} : vI k s n = vI k t m ↔ pI_ s n = pI_ t m := by
  have h1 := vI_lt hk (s := t) (t := s) (n := m) (m := n)
  have h2 := vI_lt hk (s := s) (t := t) (n := n) (m := m)
  omega
theorem v6 {k : Int32} (hk : isRk k) {s : Bool} {n : Nat} (h : n < iN k) : vI 6 s (w6 k n) = vI k s n := by
  unfold vI
  rw [u6 hk h]
theorem xcmp {k : Int32} (hk : isRk k) {s t : Bool} {n m : Nat} (hn : n < iN k) (hm : m < iN k) : FP.dcmp (xO k (bk k s n)) (xO k (bk k t m)) = some (compare (vI k s n) (vI k t m)) := by
  rw [xO_bk hk (Nat.le_of_lt hn), xO_bk hk (Nat.le_of_lt hm), dcmp_X (w6_lt hk hn) (w6_lt hk hm), v6 hk hn, v6 hk hm]
theorem d0_X : FP.dconst0 = X6 false 0 := by decide +kernel
theorem d1_X : FP.dconst1 = X6 false 4607182418800017408 := by decide +kernel
theorem xcmp0 {k : Int32} (hk : isRk k) {s : Bool} {n : Nat} (hn : n < iN k) : FP.dcmp (xO k (bk k s n)) FP.dconst0 = some (compare (vI k s n) 0) := by
  have e : vI 6 false 0 = 0 := by unfold vI; rw [zuN_0 rk6]; rfl
  rw [xO_bk hk (Nat.le_of_lt hn), d0_X, dcmp_X (w6_lt hk hn) (by rw [iN6]; decide), v6 hk hn, e]
theorem vI_0 {k : Int32} (hk : isRk k) {s : Bool} {n : Nat} : vI k s n = 0 ↔ n = 0 := by
  have := vI_eq hk (s := s) (t := s) (n := n) (m := 0)
  have e : vI k s 0 = 0 := by unfold vI; rw [zuN_0 hk]; cases s <;> rfl
  rw [e] at this
  rw [this]
  unfold pI_
  cases s <;> simp
end DBL2
