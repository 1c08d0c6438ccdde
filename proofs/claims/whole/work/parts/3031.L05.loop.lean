section LOOP
set_option maxRecDepth 100000 in
theorem eX2_made_39 {G : Nat → KT} {K : RT} (hc : cloX2_made G K wT) {x2 : Int32} {r0 : Nat} {r1 : Nat} {M : Mem} (hW : Wf M) (kr0 : (Sh r0).1 = 5) (hr0 : gR M 443 0 = some r0) (kr1 : (Sh r1).1 = 5) (hr1 : gR M 443 1 = some r1) (h : ((gI M 404 13) = 0 → ((vp_in x2 32) ∧ K (some (.long (gL M 444 (x2).toNatClampNeg))) (uI (uL M 404 12 (gL M 444 (x2).toNatClampNeg)) 404 13 (1 : Int32)))) ∧ (¬ (gI M 404 13) = 0 → ((vp_in x2 32) ∧ ((q_X2_added (gI M r0 0) (gL M 404 12) (gL M 444 (x2).toNatClampNeg)) ∧ K (some (.long (f_X2_added (gI M r0 0) (gL M 404 12) (gL M 444 (x2).toNatClampNeg)))) (uI (uL (m_X2_added (gI M r0 0) (gL M 404 12) (gL M 444 (x2).toNatClampNeg) M) 404 12 (f_X2_added (gI M r0 0) (gL M 404 12) (gL M 444 (x2).toNatClampNeg))) 404 13 (1 : Int32)))))) : G 0 [some (.ref 404), some (.ref 100039), some (.int x2), none] [] M :=
  (hc.1 _ _ _ (i_aload rfl (i_getR (okS hW Sk_404) (nv_404_4 hW) (i_ic (i_aald hW Ss_443 (vpd rfl) hr0 (i_getI (okS hW kr0) (i_istore (Nat.le_of_ble_eq_true rfl) (i_gets (i_aload rfl (i_ord (isOp_lit (by decide)) (i_eqI (by decide +kernel : Int32.ofNat (100039 - 100000) = 39) (i_swldC (vpd rfl) (by decide +kernel : Int32.ofNat (swT.getD ((39 : Int32).toNatClampNeg) 0) = 36) (And.intro (fun q => absurd q (by decide)) (fun _ => (And.intro (fun q => absurd q (by decide)) (fun _ => (And.intro (fun q => absurd q (by decide)) (fun _ => (And.intro (fun q => absurd q (by decide)) (fun _ => (And.intro (fun q => absurd q (by decide)) (fun _ => (And.intro (fun q => absurd q (by decide)) (fun _ => (And.intro (fun q => absurd q (by decide)) (fun _ => (And.intro (fun q => absurd q (by decide)) (fun _ => (And.intro (fun q => absurd q (by decide)) (fun _ => (And.intro (fun q => absurd q (by decide)) (fun _ => (And.intro (fun q => absurd q (by decide)) (fun _ => (And.intro (fun q => absurd q (by decide)) (fun _ => (And.intro (fun q => absurd q (by decide)) (fun _ => (And.intro (fun q => absurd q (by decide)) (fun _ => (And.intro (fun q => absurd q (by decide)) (fun _ => (And.intro (fun q => absurd q (by decide)) (fun _ => (And.intro (fun q => absurd q (by decide)) (fun _ => (And.intro (fun q => absurd q (by decide)) (fun _ => (And.intro (fun q => absurd q (by decide)) (fun _ => (And.intro (fun q => absurd q (by decide)) (fun _ => (And.intro (fun q => absurd q (by decide)) (fun _ => (And.intro (fun q => absurd q (by decide)) (fun _ => (And.intro (fun _ => (hc.2.2.2.2.2.2.2.2.2.2.2.2.2.2.1 _ _ _ (i_aload rfl (i_aload rfl (i_getI4 (okS hW Sk_404) (i_if_eq (fun q2564 => (hc.2.2.2.2.2.2.2.2.2.2.2.2.2.2.2.2.1 _ _ _ (i_aload rfl (i_getR (okS hW Sk_404) (nv_404_10 hW) (i_iload rfl (i_lald hW Ss_444 (h.1 q2564).1 (hc.2.2.2.2.2.2.2.2.2.2.2.2.2.2.2.2.2.1 _ _ _ (i_putL (okS hW Sk_404) (i_aload rfl (i_ic (i_putZ (okS hW Sk_404) (by decide) (i_aload rfl (i_getLE (okS hW Sk_404) (Eq.trans rfl rL_eq) (i_lret hW.1 (h.1 q2564).2)))))))))))))) (fun q2564 => (hc.2.2.2.2.2.2.2.2.2.2.2.2.2.2.2.1 _ _ _ (i_aload rfl (i_iload rfl (i_aload rfl (i_getL (okS hW Sk_404) (i_aload rfl (i_getR (okS hW Sk_404) (nv_404_10 hW) (i_iload rfl (i_lald hW Ss_444 (h.2 q2564).1 (i_callV4 (Nat.le_of_ble_eq_true rfl) (okS hW Sk_404) (c_X2_added hW  (h.2 q2564).2.1 (i_rJ (hc.2.2.2.2.2.2.2.2.2.2.2.2.2.2.2.2.2.1 _ _ _ (i_putL (okS (Wf_m_X2_added (M := M) (gI M r0 0) (gL M 404 12) (gL M 444 (x2).toNatClampNeg) hW) Sk_404) (i_aload rfl (i_ic (i_putZ (okS (Wf_m_X2_added (M := M) (gI M r0 0) (gL M 404 12) (gL M 444 (x2).toNatClampNeg) hW) Sk_404) (by decide) (i_aload rfl (i_getLE (okS (Wf_m_X2_added (M := M) (gI M r0 0) (gL M 404 12) (gL M 444 (x2).toNatClampNeg) hW) Sk_404) (Eq.trans rfl rL_eq) (i_lret (Wf_m_X2_added (M := M) (gI M r0 0) (gL M 404 12) (gL M 444 (x2).toNatClampNeg) hW).1 (h.2 q2564).2.2))))))))))))))))))))))))))) (fun q => absurd rfl q))))))))))))))))))))))))))))))))))))))))))))))))))))))))))
theorem wX2_made_39 {x2 : Int32} {r0 : Nat} {r1 : Nat} {M : Mem} {K : RT} (hW : Wf M) (kr0 : (Sh r0).1 = 5) (hr0 : gR M 443 0 = some r0) (kr1 : (Sh r1).1 = 5) (hr1 : gR M 443 1 = some r1) (h : ((gI M 404 13) = 0 → ((vp_in x2 32) ∧ K (some (.long (gL M 444 (x2).toNatClampNeg))) (uI (uL M 404 12 (gL M 444 (x2).toNatClampNeg)) 404 13 (1 : Int32)))) ∧ (¬ (gI M 404 13) = 0 → ((vp_in x2 32) ∧ ((q_X2_added (gI M r0 0) (gL M 404 12) (gL M 444 (x2).toNatClampNeg)) ∧ K (some (.long (f_X2_added (gI M r0 0) (gL M 404 12) (gL M 444 (x2).toNatClampNeg)))) (uI (uL (m_X2_added (gI M r0 0) (gL M 404 12) (gL M 444 (x2).toNatClampNeg) M) 404 12 (f_X2_added (gI M r0 0) (gL M 404 12) (gL M 444 (x2).toNatClampNeg))) 404 13 (1 : Int32)))))) : sp_X2_made [.ref 404, .ref 100039, .int x2] M K := by
  refine ⟨Nat.le_of_ble_eq_true rfl, fun G hc => ?_⟩
  rw [hW.1] at hc
  exact eX2_made_39 hc hW kr0 hr0 kr1 hr1 h
/-- scan: what a lane becomes, from the total so far -/
noncomputable def scanS (k : Int32) (t : Option Int64) (x : Int64) : Int32 × Int64 :=
  match t with
  | none => (0, x)
  | some w => iT (isRk k) (reaS 1 k w x) (whoS 1 k w x)
noncomputable def mkS (o : Nat) (k k1 : Int32) (n : Nat) (X Y : Nat → Int64) (S : Int64) (m : Nat) (E : Nat → Int64) (t : Option Int64) (i : Nat) : Int32 × Int64 :=
  if o = 39 then scanS k t (X i) else madeS o k k1 n X Y S m E i
def mkOk (o : Nat) (k k1 : Int32) (t : Option Int64) (x y : Int64) : Prop :=
  if o = 39 then isK k ∧ (isRk k → finJ k x ∧ ∀ w, t = some w → finJ k w) else madeOk o k k1 x y
/-- only the fields fault, total, begun of the lanes' object are other -/
def Ch (M M' : Mem) : Prop := M'.1 = M.1 ∧ gR M' = gR M ∧ gD M' = gD M ∧ (∀ a k, (a = 404 → ¬ k = 9 ∧ ¬ k = 13) → gI M' a k = gI M a k) ∧ ∀ a k, (a = 404 → ¬ k = 12) → gL M' a k = gL M a k
theorem Ch.rf {M : Mem} : Ch M M := ⟨rfl, rfl, rfl, fun _ _ _ => rfl, fun _ _ _ => rfl⟩
theorem Ch.tr {M M' M'' : Mem} (h : Ch M M') (h' : Ch M' M'') : Ch M M'' := ⟨h'.1.trans h.1, h'.2.1.trans h.2.1, h'.2.2.1.trans h.2.2.1, fun a k q => (h'.2.2.2.1 a k q).trans (h.2.2.2.1 a k q), fun a k q => (h'.2.2.2.2 a k q).trans (h.2.2.2.2 a k q)⟩
theorem uI_else {M : Mem} {a k b j : Nat} {x : Int32} (h : ¬ (b = a ∧ j = k)) : gI (uI M a k x) b j = gI M b j := by
  by_cases q : b = a
  · subst q; exact rI_k (fun z => h ⟨rfl, z⟩)
  · exact rI_a q
theorem uL_else {M : Mem} {a k b j : Nat} {x : Int64} (h : ¬ (b = a ∧ j = k)) : gL (uL M a k x) b j = gL M b j := by
  by_cases q : b = a
  · subst q; exact rL_k (fun z => h ⟨rfl, z⟩)
  · exact rL_a q
theorem Ch.f {M : Mem} {x : Int32} : Ch M (uI M 404 9 x) := ⟨rfl, rfl, rfl, fun a k q => uI_else (fun z => (q z.1).1 z.2), fun _ _ _ => rfl⟩
theorem Ch.b {M : Mem} {x : Int32} : Ch M (uI M 404 13 x) := ⟨rfl, rfl, rfl, fun a k q => uI_else (fun z => (q z.1).2 z.2), fun _ _ _ => rfl⟩
theorem Ch.t {M : Mem} {x : Int64} : Ch M (uL M 404 12 x) := ⟨rfl, rfl, rfl, fun _ _ _ => rfl, fun a k q => uL_else (fun z => q z.1 z.2)⟩
theorem Ch.Mo {M M' : Mem} (h : Ch M M') : Mo (fun b => b = 404) M M' := ⟨h.1, fun a ha => ⟨funext fun k => h.2.2.2.1 a k (fun q => absurd q ha), funext fun k => h.2.2.2.2 a k (fun q => absurd q ha), congrFun h.2.2.1 a, congrFun h.2.1 a⟩⟩
/-- the lanes' object may change, but what it names; and the objects of S -/
def M4 (S : Nat → Prop) (M M' : Mem) : Prop := Mo (fun b => b = 404 ∨ S b) M M' ∧ gI M' 404 6 = gI M 404 6 ∧ gI M' 404 7 = gI M 404 7
theorem M4.rf {S : Nat → Prop} {M : Mem} : M4 S M M := ⟨Mo.rf, rfl, rfl⟩
theorem M4.tr {S : Nat → Prop} {M M' M'' : Mem} (h : M4 S M M') (h' : M4 S M' M'') : M4 S M M'' := ⟨h.1.tr h'.1, h'.2.1.trans h.2.1, h'.2.2.trans h.2.2⟩
theorem M4.mono {S S' : Nat → Prop} {M M' : Mem} (h : M4 S M M') (hs : ∀ a, S a → S' a) : M4 S' M M' := ⟨h.1.mono (fun a q => q.elim Or.inl (fun z => Or.inr (hs a z))), h.2⟩
theorem M4_uI {S : Nat → Prop} {M : Mem} {k : Nat} {x : Int32} (h : ¬ 6 = k ∧ ¬ 7 = k) : M4 S M (uI M 404 k x) := ⟨Mo_uI (Or.inl rfl), rI_k h.1, rI_k h.2⟩
theorem M4_uL {S : Nat → Prop} {M : Mem} {a k : Nat} {x : Int64} (h : S a) : M4 S M (uL M a k x) := ⟨Mo_uL (Or.inr h), rfl, rfl⟩
theorem Ch.M4 {S : Nat → Prop} {M M' : Mem} (h : Ch M M') : M4 S M M' := ⟨h.Mo.mono (fun _ => Or.inl), h.2.2.2.1 404 6 (fun _ => by decide), h.2.2.2.1 404 7 (fun _ => by decide)⟩
theorem LB.ch {M M' : Mem} {r0 r1 n a m : Nat} {k k1 : Int32} {X Y E : Nat → Int64} {S : Int64} (hc : Ch M M') (h0 : ¬ r0 = 404) (h1 : ¬ r1 = 404) (h2 : ¬ a = 404) (h3 : ¬ a + 1 = 404) (h : LB M r0 r1 k k1 n X Y S a m E) : LB M' r0 r1 k k1 n X Y S a m E := by
  obtain ⟨⟨hr0, kr0, hr1, kr1⟩, ⟨hk, hn⟩, hk1, hX, hY, ⟨q, q1, q2, q3⟩, ha, ka, hm, hm64, hE⟩ := h
  obtain ⟨c1, c2, c3, c4, c5⟩ := hc
  refine ⟨⟨by rw [c2]; exact hr0, kr0, by rw [c2]; exact hr1, kr1⟩, ⟨?_, ?_, hn.2⟩, ?_, fun j hj => ?_, fun j hj => ?_, ⟨q, q1, ?_, ?_⟩, by rw [c2]; exact ha, ka, ?_, hm64, fun j hj => ?_⟩
  · rw [c4 _ _ (fun z => absurd z h0)]; exact hk
  · rw [c4 _ _ (fun z => absurd z h0)]; exact hn.1
  · rw [c4 _ _ (fun z => absurd z h1)]; exact hk1
  · rw [c5 _ _ (fun z => absurd z (by decide))]; exact hX j hj
  · rw [c5 _ _ (fun z => absurd z (by decide))]; exact hY j hj
  · rw [c4 _ _ (fun _ => by decide)]; exact q2
  · rw [c5 _ _ (fun z => absurd z (by decide))]; exact q3
  · rw [c4 _ _ (fun z => absurd z h2)]; exact hm
  · rw [c5 _ _ (fun z => absurd z h3)]; exact hE j hj
/-- a lane of the first register is written -/
theorem LB.wr {M : Mem} {r0 r1 n a m i : Nat} {v : Int64} {k k1 : Int32} {X Y E : Nat → Int64} {S : Int64} (h0 : ¬ 444 = r0 + 1) (h1 : ¬ 445 = r0 + 1) (h2 : ¬ 409 = r0 + 1) (h3 : ¬ a = r0) (h : LB M r0 r1 k k1 n X Y S a m E) : LB (uL M (r0 + 1) i v) r0 r1 k k1 n X Y S a m E := by
  obtain ⟨hr, hk, hk1, hX, hY, ⟨q, q1, q2, q3⟩, ha, ka, hm, hm64, hE⟩ := h
  refine ⟨hr, hk, hk1, fun j hj => ?_, fun j hj => ?_, ⟨q, q1, q2, ?_⟩, ha, ka, hm, hm64, fun j hj => ?_⟩
  · rw [rL_a h0]; exact hX j hj
  · rw [rL_a h1]; exact hY j hj
  · rw [rL_a h2]; exact q3
  · rw [rL_a (by omega)]; exact hE j hj
def Sc (o : Nat) (M : Mem) (t : Option Int64) : Prop := o = 39 → (t = none → gI M 404 13 = 0) ∧ ∀ w, t = some w → gI M 404 13 = 1 ∧ gL M 404 12 = w
def MKL : List Nat := [1, 2, 3, 4, 5, 6, 7, 8, 9, 10, 11, 12, 13, 14, 15, 16, 24, 25, 26, 28, 30, 31, 34, 35, 36, 37]
theorem c_mk {o r0 r1 n a m i : Nat} {k k1 : Int32} {X Y E : Nat → Int64} {S : Int64} {t : Option Int64} {M : Mem} {K : RT} (hW : Wf M) (ho : o ∈ MKL ∨ o = 39) (hb : LB M r0 r1 k k1 n X Y S a m E) (hsc : Sc o M t) (hi : i < n) (hok : mkOk o k k1 t (X i) (Y i))
    (h0 : (mkS o k k1 n X Y S m E t i).1 = 0 → ∀ M', Wf M' → Ch M M' → gI M' 404 9 = gI M 404 9 → Sc o M' (some (mkS o k k1 n X Y S m E t i).2) → K (some (.long (mkS o k k1 n X Y S m E t i).2)) M')
    (h1 : ¬ (mkS o k k1 n X Y S m E t i).1 = 0 → ∀ w M', Wf M' → Ch M M' → gI M' 404 9 = (mkS o k k1 n X Y S m E t i).1 → K (some (.long w)) M') : sp_X2_made [.ref 404, .ref (100000 + o), .int (nI i)] M K := by
  rcases ho with ho | ho
  · have h39 : ¬ o = 39 := by rintro rfl; revert ho; decide
    have e : mkS o k k1 n X Y S m E t i = madeS o k k1 n X Y S m E i := if_neg h39
    rw [e] at h0 h1
    have hok : madeOk o k k1 (X i) (Y i) := by
      have := hok
      unfold mkOk at this
      rw [if_neg h39] at this
      exact this
    exact c_made hW ho hb hi hok ⟨fun q => h0 q M hW Ch.rf rfl (fun z => absurd z h39), fun q w => h1 q w _ (Wf_uI hW) Ch.f rI_eq⟩
  · subst ho
    have e : mkS 39 k k1 n X Y S m E t i = scanS k t (X i) := if_pos rfl
    rw [e] at h0 h1
    have hok : isK k ∧ (isRk k → finJ k (X i) ∧ ∀ w, t = some w → finJ k w) := hok
    obtain ⟨⟨hr0, kr0, hr1, kr1⟩, ⟨hk, hn⟩, hk1, hX, hY, hs, ha, ka, hm, hm64, hE⟩ := hb
    have hvi : vp_in (nI i) 32 := vpN (by have := hn.2.2; omega) (by decide)
    have hXi : gL M 444 (nI i).toNatClampNeg = X i := by rw [nI_clamp (by have := hn.2.2; omega)]; exact hX _ (by have := hn.2.2; omega)
    obtain ⟨s1, s2⟩ := hsc rfl
    refine wX2_made_39 hW kr0 hr0 kr1 hr1 ?_
    rw [hXi, hk]
    cases t with
    | none =>
      refine ⟨fun _ => ⟨hvi, ?_⟩, fun q => absurd (s1 rfl) q⟩
      refine h0 rfl _ (Wf_uI (Wf_uL hW)) (Ch.t.tr Ch.b) (by rw [rI_k (by decide)]; rfl) (fun _ => ⟨fun z => (by cases z), fun w z => ⟨rI_eq, ?_⟩⟩)
      cases z
      exact rL_eq
    | some w =>
      obtain ⟨z1, z2⟩ := s2 w rfl
      refine ⟨fun q => absurd (z1.symm.trans q) (by decide), fun _ => ⟨hvi, ?_⟩⟩
      rw [z2]
      unfold q_X2_added f_X2_added m_X2_added
      by_cases hr : isRk k
      · have hp := (isK_real hok.1).mpr hr
        have es : scanS k (some w) (X i) = (infJ k (sumJ k w (X i)), sumJ k w (X i)) := iT_t hr
        rw [es] at h0 h1
        refine ⟨fun _ => ⟨hr, (hok.2 hr).2 w rfl, (hok.2 hr).1⟩, ?_⟩
        rw [iT_t hp, iT_t hp, rg_fM]
        by_cases q : infJ k (sumJ k w (X i)) = 0
        · refine h0 q _ (Wf_uI (Wf_uL (Wf_fM hW))) ?_ ?_ (fun _ => ⟨fun z => (by cases z), fun v z => ⟨rI_eq, ?_⟩⟩)
          · rw [q, fM_0]; exact Ch.t.tr Ch.b
          · rw [q, fM_0, rI_k (by decide)]; rfl
          · cases z
            exact rL_eq
        · refine h1 q _ _ (Wf_uI (Wf_uL (Wf_fM hW))) ?_ ?_
          · unfold fM; rw [if_neg q]; exact Ch.f.tr (Ch.t.tr Ch.b)
          · unfold fM; rw [if_neg q, rI_k (by decide)]; show gI (uI M 404 9 _) 404 9 = _; exact rI_eq
      · have hp : ¬ P_X3_isReal k := fun z => hr ((isK_real hok.1).mp z)
        have es : scanS k (some w) (X i) = (0, f_X3_lowBits k (w + X i)) := iT_f hr
        rw [es] at h0 h1
        refine ⟨fun z => absurd z hp, ?_⟩
        rw [iT_f hp, iT_f hp]
        refine h0 rfl _ (Wf_uI (Wf_uL hW)) (Ch.t.tr Ch.b) (by rw [rI_k (by decide)]; rfl) (fun _ => ⟨fun z => (by cases z), fun v z => ⟨rI_eq, ?_⟩⟩)
        cases z
        exact rL_eq
end LOOP
