section NUMR1
/-- cells of S alone may be other -/
def FrC (S : Nat → Nat → Prop) (M M' : Mem) : Prop := M'.1 = M.1 ∧ gR M' = gR M ∧ ∀ a j, ¬ S a j → gI M' a j = gI M a j ∧ gL M' a j = gL M a j ∧ gD M' a j = gD M a j
theorem FrC.rf {S : Nat → Nat → Prop} {M : Mem} : FrC S M M := ⟨rfl, rfl, fun _ _ _ => ⟨rfl, rfl, rfl⟩⟩
theorem FrC.tr {S : Nat → Nat → Prop} {M M' M'' : Mem} (h : FrC S M M') (h' : FrC S M' M'') : FrC S M M'' := ⟨h'.1.trans h.1, h'.2.1.trans h.2.1, fun a j q => by
  obtain ⟨a1, a2, a3⟩ := h.2.2 a j q
  obtain ⟨b1, b2, b3⟩ := h'.2.2 a j q
  exact ⟨b1.trans a1, b2.trans a2, b3.trans a3⟩⟩
theorem FrC.mono {S T : Nat → Nat → Prop} {M M' : Mem} (h : FrC S M M') (hs : ∀ a j, S a j → T a j) : FrC T M M' := ⟨h.1, h.2.1, fun a j q => h.2.2 a j (fun z => q (hs a j z))⟩
theorem FrC.wf {S : Nat → Nat → Prop} {M M' : Mem} (h : FrC S M M') (hW : Wf M) : Wf M' := hW.mo h.1 h.2.1
theorem FrC.i {S : Nat → Nat → Prop} {M M' : Mem} (h : FrC S M M') {a j : Nat} (q : ¬ S a j) : gI M' a j = gI M a j := (h.2.2 a j q).1
theorem FrC.l {S : Nat → Nat → Prop} {M M' : Mem} (h : FrC S M M') {a j : Nat} (q : ¬ S a j) : gL M' a j = gL M a j := (h.2.2 a j q).2.1
theorem FrC.d {S : Nat → Nat → Prop} {M M' : Mem} (h : FrC S M M') {a j : Nat} (q : ¬ S a j) : gD M' a j = gD M a j := (h.2.2 a j q).2.2
theorem FrC_uI {S : Nat → Nat → Prop} {M : Mem} {a j : Nat} {x : Int32} (q : S a j) : FrC S M (uI M a j x) := ⟨rfl, rfl, fun b i h => ⟨by rw [gI_uI, if_neg (fun z => h (by rw [z.1, z.2]; exact q))], rfl, rfl⟩⟩
theorem FrC_uL {S : Nat → Nat → Prop} {M : Mem} {a j : Nat} {x : Int64} (q : S a j) : FrC S M (uL M a j x) := ⟨rfl, rfl, fun b i h => ⟨rfl, by rw [gL_uL, if_neg (fun z => h (by rw [z.1, z.2]; exact q))], rfl⟩⟩
theorem FrC_uD {S : Nat → Nat → Prop} {M : Mem} {a j : Nat} {x : UInt64} (q : S a j) : FrC S M (uD M a j x) := ⟨rfl, rfl, fun b i h => ⟨rfl, rfl, by rw [gD_uD, if_neg (fun z => h (by rw [z.1, z.2]; exact q))]⟩⟩
theorem FrC.to {S : Nat → Prop} {M M' : Mem} {T : Nat → Nat → Prop} (h : FrC T M M') (hs : ∀ a j, T a j → S a) : Mo S M M' := ⟨h.1, fun a ha => ⟨funext (fun j => h.i (fun z => ha (hs a j z))), funext (fun j => h.l (fun z => ha (hs a j z))), funext (fun j => h.d (fun z => ha (hs a j z))), by rw [h.2.1]⟩⟩
/-- a whole and a real cell hold bits b of kind k -/
def VR (k : Int32) (w : Int64) (x : UInt64) (b : Int64) : Prop := (isRk k → x = xO k b) ∧ (¬ isRk k → w = b)
theorem VR.r {k : Int32} {w : Int64} {x : UInt64} {b : Int64} (h : VR k w x b) (hk : isRk k) : x = xO k b := h.1 hk
theorem VR.w {k : Int32} {w : Int64} {x : UInt64} {b : Int64} (h : VR k w x b) (hk : ¬ isRk k) : w = b := h.2 hk
/-- the reference's result cells hold b -/
def RW (M : Mem) (k : Int32) (b : Int64) : Prop := VR k (gL M 605 63) (gD M 605 64) b
def rwS (a j : Nat) : Prop := a = 605 ∧ (j = 63 ∨ j = 64)
theorem rw_u {M : Mem} {w : Int64} {x : UInt64} : FrC rwS M (uD (uL M 605 63 w) 605 64 x) := (FrC_uL ⟨rfl, Or.inl rfl⟩).tr (FrC_uD ⟨rfl, Or.inr rfl⟩)
theorem rw_v {M : Mem} {k : Int32} {w : Int64} {x : UInt64} {b : Int64} (h : VR k w x b) : RW (uD (uL M 605 63 w) 605 64 x) k b := by
  unfold RW
  rw [gD_uD, if_pos ⟨rfl, rfl⟩, gL_uD, gL_uL, if_pos ⟨rfl, rfl⟩]
  exact h
theorem isReal_P {k : Int32} (h : isK k) : P_X13_isReal k ↔ isRk k := by
  unfold P_X13_isReal isRk
  rcases h with rfl | rfl | rfl | rfl | rfl | rfl | rfl <;> decide
theorem low_13 {k : Int32} (h : isK k) (hr : ¬ isRk k) (v : Int64) : f_X13_low k v = f_X3_lowBits k v := by
  have hu := fun z => hr (Or.inl z)
  have hv := fun z => hr (Or.inr z)
  rcases h with rfl | rfl | rfl | rfl | rfl | rfl | rfl
  · rfl
  · rfl
  · rw [low2 v]
    unfold f_X13_low
    rw [if_neg (by decide), if_neg (by decide), if_pos rfl]
  · rfl
  · rfl
  · exact absurd rfl hu
  · exact absurd rfl hv
/-- a value of a real kind by sign and magnitude -/
theorem fin_bk {k : Int32} {b : Int64} (h : finJ k b) : ∃ s n, n < iN k ∧ b = bk k s n := ⟨sOf b, nOf k b, h.1, h.2⟩
theorem inf_X {s : Bool} {n : Nat} (h : n ≤ iN 6) : P_X13_isInfinite (X6 s n) ↔ n = iN 6 := by
  have i1 : (9218868437227405312 : UInt64) = X6 false (iN 6) := by rw [iN6]; decide +kernel
  have i2 : (18442240474082181120 : UInt64) = X6 true (iN 6) := by rw [iN6]; decide +kernel
  have key : ∀ t : Bool, cmpValue (FP.dcmp (X6 s n) (X6 t (iN 6))) .l = 0 ↔ n = iN 6 ∧ s = t := by
    intro t
    show cmpValue (FP.Core.order (FP.Core.decode FP.Core.b64 (X6 s n).toNat) (FP.Core.decode FP.Core.b64 (X6 t (iN 6)).toNat)) .l = 0 ↔ _
    rw [dci6]
    rcases Nat.lt_or_ge n (iN 6) with z | z
    · rw [dcf6 z]
      show cmpValue (some (compare 0 (FP.Core.signed t 1))) .l = 0 ↔ _
      cases t
      · exact ⟨fun q => absurd q (by decide), fun q => by omega⟩
      · exact ⟨fun q => absurd q (by decide), fun q => by omega⟩
    · have e : n = iN 6 := by omega
      subst e
      rw [dci6]
      show cmpValue (some (compare (FP.Core.signed s 1) (FP.Core.signed t 1))) .l = 0 ↔ _
      cases s <;> cases t
      · exact ⟨fun _ => ⟨rfl, rfl⟩, fun _ => by decide⟩
      · exact ⟨fun q => absurd q (by decide), fun q => absurd q.2 (by decide)⟩
      · exact ⟨fun q => absurd q (by decide), fun q => absurd q.2 (by decide)⟩
      · exact ⟨fun _ => ⟨rfl, rfl⟩, fun _ => by decide⟩
  unfold P_X13_isInfinite
  rw [i1, i2, key, key]
  cases s
  · exact ⟨fun q => by rcases q with q | q <;> exact q.1, fun q => Or.inl ⟨q, rfl⟩⟩
  · exact ⟨fun q => by rcases q with q | q <;> exact q.1, fun q => Or.inr ⟨q, rfl⟩⟩
theorem gives_is {k : Int32} (hk : isRk k) {s : Bool} {n : Nat} (h : n ≤ iN k) : f_X13_givesReal k (xO k (bk k s n)) = infJ k (bk k s n) := by
  unfold f_X13_givesReal infJ
  have e : P_X13_isInfinite (xO k (bk k s n)) ↔ P_X3_isInfinite k (bk k s n) := by
    rw [xO_bk hk h, inf_X (w6_le hk h), w6_i hk h, inf_bk hk h]
    omega
  by_cases z : P_X3_isInfinite k (bk k s n)
  · rw [iT_t z, iT_t (e.mpr z)]
  · rw [iT_f z, iT_f (fun y => z (e.mp y))]
theorem d6 {a b : UInt64} {s : Bool} {n : Nat} {x y : Nat} {f : Nat → Nat → Nat} (ha : a.toNat = x) (hb : b.toNat = y) (h : f x y = eb 6 s n) : UInt64.ofNat (f a.toNat b.toNat) = X6 s n := by rw [ha, hb, h]; rfl
theorem d5 {a b : UInt32} {s : Bool} {n : Nat} {x y : Nat} {f : Nat → Nat → Nat} (ha : a.toNat = x) (hb : b.toNat = y) (h : f x y = eb 5 s n) : UInt32.ofNat (f a.toNat b.toNat) = X5 s n := by rw [ha, hb, h]; rfl
theorem sub_eb {k : Int32} (hk : isRk k) {s t : Bool} {n m : Nat} (hn : n < iN k) (hm : m < iN k) : FP.Core.sub (fm k) (eb k s n) (eb k t m) = eb k (suS k s n (!t) m) (suM k s n (!t) m) := by
  have h := add_eb hk (s := s) (t := !t) hn hm
  unfold FP.Core.add at h
  rw [dec_eb hk hn, dec_eb hk hm] at h
  unfold FP.Core.sub
  rw [dec_eb hk hn, dec_eb hk hm]
  exact h
theorem w65 {n : Nat} : w6 5 n = wid n := if_pos rfl
theorem w66 {n : Nat} : w6 6 n = n := if_neg (by decide)
theorem d2f_w {s : Bool} {n : Nat} (hn : n ≤ iN 5) : FP.d2f (X6 s (w6 5 n)) = X5 s n := by
  rw [d2f_X (w6_le rk5 hn), w65, nar_wid hn]
theorem suM_le {k : Int32} {s t : Bool} {n m : Nat} : suM k s n t m ≤ iN k := pm_le
theorem muM_le {k : Int32} {n m : Nat} : muM k n m ≤ iN k := pm_le

theorem rm1 {k : Int32} (hk : isRk k) {s t : Bool} {n m : Nat} (hn : n < iN k) (hm : m < iN k) : f_X13_realMade 1 k (xO k (bk k s n)) (xO k (bk k t m)) = xO k (bk k (suS k s n t m) (suM k s n t m)) ∧ q_X13_realMade 1 k (xO k (bk k s n)) (xO k (bk k t m)) := by
  have hn' := Nat.le_of_lt hn
  have hm' := Nat.le_of_lt hm
  rw [xO_bk hk hn', xO_bk hk hm']
  unfold f_X13_realMade q_X13_realMade
  rcases hk with rfl | rfl
  · have L : suM 5 s n t m ≤ iN 5 := suM_le
    have e : FP.fadd (X5 s n) (X5 t m) = X5 (suS 5 s n t m) (suM 5 s n t m) := d5 (f := FP.Core.add FP.Core.b32) (tn5 hn') (tn5 hm') (by rw [← fmt5]; exact add_eb rk5 hn hm)
    rw [d2f_w hn', d2f_w hm', e, f2d_X L, if_pos rfl, if_pos rfl, xO_bk rk5 L, w65]
    refine ⟨rfl, fun z => absurd rfl z, fun _ => ⟨vf5 hn', vf5 hm', ⟨fun a => absurd rfl a, fun _ => ⟨vf5 L, vf6 (wid_le L).1⟩⟩⟩⟩
  · have L : suM 6 s n t m ≤ iN 6 := suM_le
    have e : FP.dadd (X6 s n) (X6 t m) = X6 (suS 6 s n t m) (suM 6 s n t m) := d6 (f := FP.Core.add FP.Core.b64) (tn6 hn') (tn6 hm') (by rw [← fmt6]; exact add_eb rk6 hn hm)
    rw [w66, w66, e, if_neg (by decide), if_pos rfl, xO_bk rk6 L, w66]
    exact ⟨rfl, fun _ => ⟨fun a => absurd rfl a, fun _ => vf6 L⟩, fun z => absurd z (by decide)⟩
theorem rm2 {k : Int32} (hk : isRk k) {s t : Bool} {n m : Nat} (hn : n < iN k) (hm : m < iN k) : f_X13_realMade 2 k (xO k (bk k s n)) (xO k (bk k t m)) = xO k (bk k (suS k s n (!t) m) (suM k s n (!t) m)) ∧ q_X13_realMade 2 k (xO k (bk k s n)) (xO k (bk k t m)) := by
  have hn' := Nat.le_of_lt hn
  have hm' := Nat.le_of_lt hm
  rw [xO_bk hk hn', xO_bk hk hm']
  unfold f_X13_realMade q_X13_realMade
  rcases hk with rfl | rfl
  · have L : suM 5 s n (!t) m ≤ iN 5 := suM_le
    have e : FP.fsub (X5 s n) (X5 t m) = X5 (suS 5 s n (!t) m) (suM 5 s n (!t) m) := d5 (f := FP.Core.sub FP.Core.b32) (tn5 hn') (tn5 hm') (by rw [← fmt5]; exact sub_eb rk5 hn hm)
    rw [d2f_w hn', d2f_w hm', e, f2d_X L, if_pos rfl, if_neg (by decide), if_pos rfl, xO_bk rk5 L, w65]
    refine ⟨rfl, fun z => absurd rfl z, fun _ => ⟨vf5 hn', vf5 hm', ⟨fun _ => ⟨fun a => absurd rfl a, fun _ => ⟨vf5 L, vf6 (wid_le L).1⟩⟩, fun a => absurd a (by decide)⟩⟩⟩
  · have L : suM 6 s n (!t) m ≤ iN 6 := suM_le
    have e : FP.dsub (X6 s n) (X6 t m) = X6 (suS 6 s n (!t) m) (suM 6 s n (!t) m) := d6 (f := FP.Core.sub FP.Core.b64) (tn6 hn') (tn6 hm') (by rw [← fmt6]; exact sub_eb rk6 hn hm)
    rw [w66, w66, e, if_neg (by decide), if_neg (by decide), if_pos rfl, xO_bk rk6 L, w66]
    exact ⟨rfl, fun _ => ⟨fun _ => ⟨fun a => absurd rfl a, fun _ => vf6 L⟩, fun a => absurd a (by decide)⟩, fun z => absurd z (by decide)⟩
theorem rm3 {k : Int32} (hk : isRk k) {s t : Bool} {n m : Nat} (hn : n < iN k) (hm : m < iN k) : f_X13_realMade 3 k (xO k (bk k s n)) (xO k (bk k t m)) = xO k (bk k ((s != t)) (muM k n m)) ∧ q_X13_realMade 3 k (xO k (bk k s n)) (xO k (bk k t m)) := by
  have hn' := Nat.le_of_lt hn
  have hm' := Nat.le_of_lt hm
  rw [xO_bk hk hn', xO_bk hk hm']
  unfold f_X13_realMade q_X13_realMade
  rcases hk with rfl | rfl
  · have L : muM 5 n m ≤ iN 5 := muM_le
    have e : FP.fmul (X5 s n) (X5 t m) = X5 ((s != t)) (muM 5 n m) := d5 (f := FP.Core.mul FP.Core.b32) (tn5 hn') (tn5 hm') (by rw [← fmt5]; exact mul_eb rk5 hn hm)
    rw [d2f_w hn', d2f_w hm', e, f2d_X L, if_pos rfl, if_neg (by decide), if_neg (by decide), if_pos rfl, xO_bk rk5 L, w65]
    refine ⟨rfl, fun z => absurd rfl z, fun _ => ⟨vf5 hn', vf5 hm', ⟨fun _ => ⟨fun _ => ⟨fun a => absurd rfl a, fun _ => ⟨vf5 L, vf6 (wid_le L).1⟩⟩, fun a => absurd a (by decide)⟩, fun a => absurd a (by decide)⟩⟩⟩
  · have L : muM 6 n m ≤ iN 6 := muM_le
    have e : FP.dmul (X6 s n) (X6 t m) = X6 ((s != t)) (muM 6 n m) := d6 (f := FP.Core.mul FP.Core.b64) (tn6 hn') (tn6 hm') (by rw [← fmt6]; exact mul_eb rk6 hn hm)
    rw [w66, w66, e, if_neg (by decide), if_neg (by decide), if_neg (by decide), if_pos rfl, xO_bk rk6 L, w66]
    exact ⟨rfl, fun _ => ⟨fun _ => ⟨fun _ => ⟨fun a => absurd rfl a, fun _ => vf6 L⟩, fun a => absurd a (by decide)⟩, fun a => absurd a (by decide)⟩, fun z => absurd z (by decide)⟩
theorem rm4 {k : Int32} (hk : isRk k) {s t : Bool} {n m : Nat} (hn : n < iN k) (hm : m < iN k) (hz : 0 < sgN (fm k) m) : f_X13_realMade 4 k (xO k (bk k s n)) (xO k (bk k t m)) = xO k (bk k ((s != t)) (diM k n m)) ∧ q_X13_realMade 4 k (xO k (bk k s n)) (xO k (bk k t m)) := by
  have hn' := Nat.le_of_lt hn
  have hm' := Nat.le_of_lt hm
  rw [xO_bk hk hn', xO_bk hk hm']
  unfold f_X13_realMade q_X13_realMade
  rcases hk with rfl | rfl
  · have L : diM 5 n m ≤ iN 5 := (diM_le rk5 n m)
    have e : FP.fdiv (X5 s n) (X5 t m) = X5 ((s != t)) (diM 5 n m) := d5 (f := FP.Core.div FP.Core.b32) (tn5 hn') (tn5 hm') (by rw [← fmt5]; exact div_eb rk5 hn hm hz)
    rw [d2f_w hn', d2f_w hm', e, f2d_X L, if_pos rfl, if_neg (by decide), if_neg (by decide), if_neg (by decide), if_pos rfl, xO_bk rk5 L, w65]
    refine ⟨rfl, fun z => absurd rfl z, fun _ => ⟨vf5 hn', vf5 hm', ⟨fun _ => ⟨fun _ => ⟨fun _ => ⟨fun a => absurd rfl a, fun _ => ⟨vf5 L, vf6 (wid_le L).1⟩⟩, fun a => absurd a (by decide)⟩, fun a => absurd a (by decide)⟩, fun a => absurd a (by decide)⟩⟩⟩
  · have L : diM 6 n m ≤ iN 6 := (diM_le rk6 n m)
    have e : FP.ddiv (X6 s n) (X6 t m) = X6 ((s != t)) (diM 6 n m) := d6 (f := FP.Core.div FP.Core.b64) (tn6 hn') (tn6 hm') (by rw [← fmt6]; exact div_eb rk6 hn hm hz)
    rw [w66, w66, e, if_neg (by decide), if_neg (by decide), if_neg (by decide), if_neg (by decide), if_pos rfl, xO_bk rk6 L, w66]
    exact ⟨rfl, fun _ => ⟨fun _ => ⟨fun _ => ⟨fun _ => ⟨fun a => absurd rfl a, fun _ => vf6 L⟩, fun a => absurd a (by decide)⟩, fun a => absurd a (by decide)⟩, fun a => absurd a (by decide)⟩, fun z => absurd z (by decide)⟩
theorem rm5 {k : Int32} (hk : isRk k) {s t : Bool} {n m : Nat} (hn : n < iN k) (hm : m < iN k) (hz : 0 < sgN (fm k) m) : f_X13_realMade 5 k (xO k (bk k s n)) (xO k (bk k t m)) = xO k (bk k (s) (reM k n m)) ∧ q_X13_realMade 5 k (xO k (bk k s n)) (xO k (bk k t m)) := by
  have hn' := Nat.le_of_lt hn
  have hm' := Nat.le_of_lt hm
  rw [xO_bk hk hn', xO_bk hk hm']
  unfold f_X13_realMade q_X13_realMade
  rcases hk with rfl | rfl
  · have L : reM 5 n m ≤ iN 5 := (Nat.le_of_lt (reM_lt rk5 hn hm hz))
    have e : FP.frem (X5 s n) (X5 t m) = X5 (s) (reM 5 n m) := d5 (f := FP.Core.rem FP.Core.b32) (tn5 hn') (tn5 hm') (by rw [← fmt5]; exact rem_eb rk5 hn hm hz)
    rw [d2f_w hn', d2f_w hm', e, f2d_X L, if_pos rfl, if_neg (by decide), if_neg (by decide), if_neg (by decide), if_neg (by decide), xO_bk rk5 L, w65]
    refine ⟨rfl, fun z => absurd rfl z, fun _ => ⟨vf5 hn', vf5 hm', ⟨fun _ => ⟨fun _ => ⟨fun _ => ⟨fun _ => ⟨vf5 L, vf6 (wid_le L).1⟩, fun a => absurd a (by decide)⟩, fun a => absurd a (by decide)⟩, fun a => absurd a (by decide)⟩, fun a => absurd a (by decide)⟩⟩⟩
  · have L : reM 6 n m ≤ iN 6 := (Nat.le_of_lt (reM_lt rk6 hn hm hz))
    have e : FP.drem (X6 s n) (X6 t m) = X6 (s) (reM 6 n m) := d6 (f := FP.Core.rem FP.Core.b64) (tn6 hn') (tn6 hm') (by rw [← fmt6]; exact rem_eb rk6 hn hm hz)
    rw [w66, w66, e, if_neg (by decide), if_neg (by decide), if_neg (by decide), if_neg (by decide), if_neg (by decide), xO_bk rk6 L, w66]
    exact ⟨rfl, fun _ => ⟨fun _ => ⟨fun _ => ⟨fun _ => ⟨fun _ => vf6 L, fun a => absurd a (by decide)⟩, fun a => absurd a (by decide)⟩, fun a => absurd a (by decide)⟩, fun a => absurd a (by decide)⟩, fun z => absurd z (by decide)⟩
end NUMR1
