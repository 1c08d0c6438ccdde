section INIT
/-- an object's cells -/
def OB (M : Mem) (b : Nat) (g : Nat → Int32) (r : Nat → Option Nat) : Prop := gI M b = g ∧ (gL M b = fun _ => 0) ∧ (gD M b = fun _ => 0) ∧ gR M b = r
def z0 : Nat → Int32 := fun _ => 0
def rn : Nat → Option Nat := fun _ => none
/-- the objects below n are as they were -/
def Fb (n : Nat) (M M' : Mem) : Prop := ∀ b, b < n → gI M' b = gI M b ∧ gL M' b = gL M b ∧ gD M' b = gD M b ∧ gR M' b = gR M b
/-- what the constructors leave -/
def eI (b : Nat) : Nat → Int32 := fun j => if (Sh b).1 = 5 ∧ j = 0 then -1 else if (Sh b).1 = 6 ∧ j = 0 then 32 else if b = 7 ∧ j = 6 then 1 else 0
def eR (b : Nat) : Nat → Option Nat := fun k => if b = 443 then (if k < 3 then some 410 else none) else if b = 404 ∧ k = 5 then some 412 else if b = 10 ∧ k = 5 then some 15 else if b = 18 then (if k < 64 then some (20 + 6 * k) else none) else if b = 19 then (if k < 64 then some (23 + 6 * k) else none) else fx b k
def XI (M : Mem) (b : Nat) : Prop := OB M b (eI b) (eR b)
section
variable {M M' M'' M0 : Mem} {a b k n : Nat} {g : Nat → Int32} {r : Nat → Option Nat} {E : Nat → Prop}
theorem Fb.rf : Fb n M M := fun _ _ => ⟨rfl, rfl, rfl, rfl⟩
theorem Fb.tr (h : Fb n M M') (h' : Fb n M' M'') : Fb n M M'' := fun b hb => by
  obtain ⟨a1, a2, a3, a4⟩ := h b hb
  obtain ⟨b1, b2, b3, b4⟩ := h' b hb
  exact ⟨b1.trans a1, b2.trans a2, b3.trans a3, b4.trans a4⟩
theorem Fb.mono {m : Nat} (h : Fb n M M') (hm : m ≤ n) : Fb m M M' := fun b hb => h b (by omega)
theorem OB.fb (hf : Fb n M M') (hb : b < n) (h : OB M b g r) : OB M' b g r := by
  obtain ⟨a1, a2, a3, a4⟩ := hf b hb
  exact ⟨a1.trans h.1, a2.trans h.2.1, a3.trans h.2.2.1, a4.trans h.2.2.2⟩
theorem nw_N (hN : M.1 = (k, true)) : (nwM M).1 = (k + 1, true) := by show (M.1.1 + 1, M.1.2) = _; rw [hN]
theorem nw_b (hN : M.1 = (k, true)) (hb : b ≠ k) : gI (nwM M) b = gI M b ∧ gL (nwM M) b = gL M b ∧ gD (nwM M) b = gD M b ∧ gR (nwM M) b = gR M b := by
  have e : b ≠ M.1.1 := by rw [hN]; exact hb
  exact ⟨rw2_ne e, rw2_ne e, rw2_ne e, rw2_ne e⟩
theorem nw_0 (hN : M.1 = (k, true)) : OB (nwM M) k z0 rn := by
  have e : k = M.1.1 := by rw [hN]
  subst e
  exact ⟨rw2_eq, rw2_eq, rw2_eq, rw2_eq⟩
theorem Fb.nw (hN : M.1 = (k, true)) (hn : n ≤ k) : Fb n M (nwM M) := fun b hb => nw_b hN (by omega)
theorem Fb.pR {j : Nat} {x : Option Nat} (hn : n ≤ a) : Fb n M (uR M a j x) := fun b hb => ⟨rfl, rfl, rfl, funext fun i => by rw [gR_uR, if_neg (by omega)]⟩
theorem Fb.pI {j : Nat} {x : Int32} (hn : n ≤ a) : Fb n M (uI M a j x) := fun b hb => ⟨funext fun i => by rw [gI_uI, if_neg (by omega)], rfl, rfl, rfl⟩
theorem OB.pR {j : Nat} {x : Option Nat} (h : OB M b g r) (hb : b ≠ a) : OB (uR M a j x) b g r := ⟨h.1, h.2.1, h.2.2.1, by rw [← h.2.2.2]; exact funext fun i => by rw [gR_uR, if_neg (fun z => hb z.1)]⟩
theorem OB.pRs {j : Nat} {x : Option Nat} (h : OB M b g r) : OB (uR M b j x) b g (up1 r j x) := ⟨h.1, h.2.1, h.2.2.1, by
  rw [← h.2.2.2]
  exact funext fun i => by
    rw [gR_uR]
    unfold up1
    by_cases e : i = j
    · rw [if_pos ⟨rfl, e⟩, if_pos e]
    · rw [if_neg (fun z => e z.2), if_neg e]⟩
theorem OB.pI {j : Nat} {x : Int32} (h : OB M b g r) (hb : b ≠ a) : OB (uI M a j x) b g r := ⟨by rw [← h.1]; exact funext fun i => by rw [gI_uI, if_neg (fun z => hb z.1)], h.2.1, h.2.2.1, h.2.2.2⟩
theorem OB.pIs {j : Nat} {x : Int32} (h : OB M b g r) : OB (uI M b j x) b (up1 g j x) r := ⟨by
  rw [← h.1]
  exact funext fun i => by
    rw [gI_uI]
    unfold up1
    by_cases e : i = j
    · rw [if_pos ⟨rfl, e⟩, if_pos e]
    · rw [if_neg (fun z => e z.2), if_neg e], h.2.1, h.2.2.1, h.2.2.2⟩
theorem OB.to {g' : Nat → Int32} {r' : Nat → Option Nat} (h : OB M b g r) (e1 : g = g') (e2 : r = r') : OB M b g' r' := by rw [← e1, ← e2]; exact h
theorem okI {ci : Nat} (hN : M.1 = (k, true)) (h : (Sh a).1 = ci) (ha : a < k) : okA M a ci := ⟨h, fun _ => by show a < M.1.1; rw [hN]; exact ha⟩
-- what is expected of the kinds
theorem ne_kind {c : Nat} (h : (Sh a).1 = c) (b : Nat) (hb : ¬ (Sh b).1 = c) : a ≠ b := fun z => hb (by rw [← z]; exact h)
theorem eI_z (h5 : ¬ (Sh b).1 = 5) (h6 : ¬ (Sh b).1 = 6) (h7 : b ≠ 7) : eI b = z0 := by
  funext j
  unfold eI z0
  rw [if_neg (fun z => h5 z.1), if_neg (fun z => h6 z.1), if_neg (fun z => h7 z.1)]
theorem eR_fx (h1 : b ≠ 443) (h2 : b ≠ 404) (h3 : b ≠ 10) (h4 : b ≠ 18) (h5 : b ≠ 19) : eR b = fx b := by
  funext j
  unfold eR
  rw [if_neg h1, if_neg (fun z => h2 z.1), if_neg (fun z => h3 z.1), if_neg h4, if_neg h5]
theorem S443 : (Sh 443).1 = 16 ∧ (Sh 404).1 = 1 ∧ (Sh 10).1 = 8 ∧ (Sh 18).1 = 17 ∧ (Sh 19).1 = 17 ∧ (Sh 7).1 = 2 ∧ (Sh 0).1 = 9 ∧ (Sh 1).1 = 4 ∧ (Sh 449).1 = 0 ∧ (Sh 453).1 = 18 ∧ (Sh 605).1 = 10 := by decide +kernel
theorem eR_k {c : Nat} (h : (Sh b).1 = c) (hc : c = 3 ∨ c = 5 ∨ c = 6 ∨ c = 7 ∨ (11 ≤ c ∧ c ≤ 15)) : eR b = fx b := by
  obtain ⟨s1, s2, s3, s4, s5, -⟩ := S443
  exact eR_fx (ne_kind h _ (by omega)) (ne_kind h _ (by omega)) (ne_kind h _ (by omega)) (ne_kind h _ (by omega)) (ne_kind h _ (by omega))
theorem eR_3 (h : (Sh b).1 = 3) : eR b = up1 rn 2 (some (b + 1)) := by
  rw [eR_k h (Or.inl rfl)]
  funext k
  unfold fx up1 rn
  simp [h]
theorem eR_5 (h : (Sh b).1 = 5) : eR b = up1 rn 2 (some (b + 1)) := by
  rw [eR_k h (by omega)]
  funext k
  unfold fx up1 rn
  simp [h]
theorem eR_6 (h : (Sh b).1 = 6) : eR b = up1 rn 3 (some (b + 1)) := by
  rw [eR_k h (by omega)]
  funext k
  unfold fx up1 rn
  simp [h]
theorem eR_7 (h : (Sh b).1 = 7) : eR b = fun k => if k < 4 then some (b + 1 + k) else none := by
  rw [eR_k h (by omega)]
  funext k
  unfold fx
  simp [h]
theorem eR_arr (h : 11 ≤ (Sh b).1 ∧ (Sh b).1 ≤ 15) : eR b = rn := by
  obtain ⟨s1, s2, s3, s4, s5, s6, s7, s8, s9, s10, s11⟩ := S443
  rw [eR_k (b := b) rfl (by omega)]
  have n0 := ne_kind (a := b) rfl 0 (by omega)
  have n1 := ne_kind (a := b) rfl 1 (by omega)
  have n7 := ne_kind (a := b) rfl 7 (by omega)
  have n10 := ne_kind (a := b) rfl 10 (by omega)
  have n404 := ne_kind (a := b) rfl 404 (by omega)
  have n449 := ne_kind (a := b) rfl 449 (by omega)
  have n453 := ne_kind (a := b) rfl 453 (by omega)
  have n605 := ne_kind (a := b) rfl 605 (by omega)
  funext k
  unfold fx rn
  generalize (Sh b).1 = c at h
  dsimp only
  rw [if_neg (by omega), if_neg (by omega), if_neg (by omega), if_neg (by omega), if_neg (by omega), if_neg n0, if_neg n1, if_neg n7, if_neg n10, if_neg n404, if_neg n449, if_neg n453, if_neg n605]
theorem eZ_arr (h : 11 ≤ (Sh b).1 ∧ (Sh b).1 ≤ 15) : eI b = z0 ∧ eR b = rn := ⟨eI_z (by omega) (by omega) (ne_kind rfl 7 (by have := S443; omega)), eR_arr h⟩
theorem eZ_c {c l : Nat} (h : Sh b = (c, l)) (hc : 11 ≤ c ∧ c ≤ 15) : eI b = z0 ∧ eR b = rn := eZ_arr (by rw [h]; exact hc)
theorem it_0 {c : Prop} [Decidable c] {x y : Option Nat} (hx : c → x = none) (hy : y = none) : (if c then x else y) = none := by
  by_cases h : c
  · rw [if_pos h]; exact hx h
  · rw [if_neg h]; exact hy
theorem eR_hi (hk : 80 ≤ k) : eR b k = none := by
  have l : ∀ l : List (Option Nat), l.length ≤ 80 → l.getD k none = none := fun l hl => by
    rw [List.getD_eq_getElem?_getD, List.getElem?_eq_none (by omega)]; rfl
  unfold eR fx
  dsimp only
  repeat' (refine it_0 (fun _ => ?_) ?_)
  all_goals first | rfl | (refine l _ ?_; decide) | omega
theorem eqR (h : ∀ k ∈ List.range 80, r k = eR b k) (hi : ∀ k, 80 ≤ k → r k = none) : r = eR b := by
  funext k
  rcases Nat.lt_or_ge k 80 with z | z
  · exact h k (List.mem_range.mpr z)
  · rw [hi k z, eR_hi z]
end
-- the instructions
section
variable {L : LocS} {st : List Value} {M M0 : Mem} {K : KT} {R : RT} {a k n n1 ci : Nat}
theorem i_obj (hl : st.length ≤ 4) (h : K L st M) : w_obj K L (.ref a :: st) M := ⟨hl, h⟩
theorem i_new (hN : M.1 = (k, true)) (e : (Sh k).1 = ci) (hn : k + 1 ≤ n1) (h : K L (.ref k :: st) (nwM M)) : w_new ci n1 K L st M := by
  have e1 : gN M = k := by show M.1.1 = k; rw [hN]
  have e2 : gE M = true := by show M.1.2 = true; rw [hN]
  show (Sh (gN M)).1 = ci ∧ gE M = true ∧ gN M + 1 ≤ n1 ∧ K L (.ref (gN M) :: st) (nwM M)
  rw [e1]
  exact ⟨e, e2, hn, h⟩
theorem i_newa {x : Int32} (hN : M.1 = (k, true)) (e : Sh k = (ci, n)) (hx : x.toNatClampNeg = n) (hx0 : ¬ x < 0) (hn : k + 1 ≤ n1) (h : K L (.ref k :: st) (nwM M)) : w_newa ci n1 K L (.int x :: st) M := by
  have e1 : gN M = k := by show M.1.1 = k; rw [hN]
  have e2 : gE M = true := by show M.1.2 = true; rw [hN]
  show Sh (gN M) = (ci, x.toNatClampNeg) ∧ ¬ x < 0 ∧ gE M = true ∧ gN M + 1 ≤ n1 ∧ K L (.ref (gN M) :: st) (nwM M)
  rw [e1, hx]
  exact ⟨e, hx0, e2, hn, h⟩
theorem i_callI {sp : SP} {d : Nat} (hN : M.1 = (k, true)) (hl : st.length ≤ 4) (hd : k + d ≤ n1) (h : sp [.ref a] M (fun v M' => K L (v.toList ++ st) M')) : w_callI 1 d n1 sp K L (.ref a :: st) M := by
  have e1 : gN M = k := by show M.1.1 = k; rw [hN]
  have e2 : gE M = true := by show M.1.2 = true; rw [hN]
  exact ⟨hl, by rw [e1]; exact hd, e2, h⟩
theorem i_aastO {kd x : Nat} {i : Int32} (oa : okA M a kd) (e : Sh a = (kd, n)) (o : okA M x (kd - 11)) (v : vp_in i n) (h : K L st (uR M a i.toNatClampNeg (some x))) : w_aast kd K L (.ref x :: .int i :: .ref a :: st) M := ⟨oa, o, by rw [e]; exact v, h⟩
theorem i_aaldO {kd q : Nat} {i : Int32} (oa : okA M a kd) (e : Sh a = (kd, n)) (v : vp_in i n) (e2 : gR M a i.toNatClampNeg = some q) (h : K L (.ref q :: st) M) : w_aald kd K L (.int i :: .ref a :: st) M := ⟨oa, by rw [e]; exact v, by rw [e2]; exact h⟩
theorem i_iastO {i x : Int32} (oa : okA M a 13) (e : Sh a = (13, n)) (v : vp_in i n) (h : K L st (uI M a i.toNatClampNeg x)) : w_iast K L (.int x :: .int i :: .ref a :: st) M := ⟨oa, by rw [e]; exact v, h⟩
theorem i_lastO {i : Int32} {x : Int64} (oa : okA M a 14) (e : Sh a = (14, n)) (v : vp_in i n) (h : K L st (uL M a i.toNatClampNeg x)) : w_last K L (.long x :: .int i :: .ref a :: st) M := ⟨oa, by rw [e]; exact v, h⟩
theorem i_alenO {kd : Nat} (oa : okA M a kd) (e : Sh a = (kd, n)) (b : 11 ≤ kd ∧ kd ≤ 18) (h : K L (.int (Int32.ofNat n) :: st) M) : w_alen K L (.ref a :: st) M := ⟨⟨by rw [e]; exact b, oa.2⟩, by rw [e]; exact h⟩
end
section
variable {M M0 : Mem} {K : RT} {a : Nat}
/-- behind a constructor that makes n objects -/
def Ini (n a : Nat) (M : Mem) (K : RT) : Prop := ∀ M', M'.1 = (a + 1 + n, true) → Fb a M M' → (∀ b, a ≤ b → b ≤ a + n → XI M' b) → K none M'
theorem t1_is {n : Nat} (hN : M.1 = (a + 1, true)) : (gN M + n, gE M) = (a + 1 + n, true) := by show (M.1.1 + n, M.1.2) = _; rw [hN]
theorem c_ini6 (h3 : (Sh a).1 = 3) (hN : M.1 = (a + 1, true)) (h0 : OB M a z0 rn) (h : Ini 1 a M K) : sp_X6_init [.ref a] M K := by
  refine ⟨Nat.le_of_ble_eq_true rfl, fun G hc => ?_⟩
  rw [t1_is hN] at hc
  have hN1 := nw_N hN
  refine hc _ _ _ (i_aload rfl (i_obj (Nat.le_of_ble_eq_true rfl) (i_aload rfl (i_ic (i_newa hN (Sprg h3) (by decide) (by decide) (Nat.le_refl _) (i_putR (okI hN1 h3 (by omega)) (i_vret hN1 (h _ hN1 ((Fb.nw hN (by omega)).tr (Fb.pR (Nat.le_refl a))) (fun b h1 h2 => ?_)))))))))
  by_cases e : b = a
  · subst e
    exact ((h0.fb (Fb.nw (n := b + 1) hN (by omega)) (by omega)).pRs).to (eI_z (by omega) (by omega) (ne_kind h3 7 (by have := S443; omega))).symm (eR_3 h3).symm
  · have : b = a + 1 := by omega
    subst this
    have z := eZ_c (Sprg h3) (by omega)
    exact ((nw_0 hN).pR e).to z.1.symm z.2.symm
theorem c_ini8 (h5 : (Sh a).1 = 5) (hN : M.1 = (a + 1, true)) (h0 : OB M a z0 rn) (h : Ini 1 a M K) : sp_X8_init [.ref a] M K := by
  refine ⟨Nat.le_of_ble_eq_true rfl, fun G hc => ?_⟩
  rw [t1_is hN] at hc
  have hN0 : (uI M a 0 (-1)).1 = (a + 1, true) := hN
  have hN1 := nw_N hN0
  refine hc _ _ _ (i_aload rfl (i_obj (Nat.le_of_ble_eq_true rfl) (i_aload rfl (i_ic (i_putI (okI hN h5 (by omega)) (i_aload rfl (i_ic (i_newa hN0 (Srow h5) (by decide) (by decide) (Nat.le_refl _) (i_putR (okI hN1 h5 (by omega)) (i_vret hN1 (h _ hN1 (((Fb.pI (Nat.le_refl a)).tr (Fb.nw hN0 (by omega))).tr (Fb.pR (Nat.le_refl a))) (fun b h1 h2 => ?_))))))))))))
  by_cases e : b = a
  · subst e
    refine (((h0.pIs (j := 0) (x := -1)).fb (Fb.nw (n := b + 1) hN0 (by omega)) (by omega)).pRs).to ?_ (eR_5 h5).symm
    funext j
    unfold up1 eI z0
    by_cases w : j = 0
    · rw [if_pos w, if_pos ⟨h5, w⟩]
    · rw [if_neg w, if_neg (fun z => w z.2), if_neg (fun z => by omega), if_neg (fun z => ne_kind h5 7 (by have := S443; omega) z.1)]
  · have : b = a + 1 := by omega
    subst this
    have z := eZ_c (Srow h5) (by omega)
    exact ((nw_0 hN0).pR e).to z.1.symm z.2.symm
theorem c_ini9 (h6 : (Sh a).1 = 6) (hN : M.1 = (a + 1, true)) (h0 : OB M a z0 rn) (h : Ini 2 a M K) : sp_X9_init [.ref a] M K := by
  refine ⟨Nat.le_of_ble_eq_true rfl, fun G hc => ?_⟩
  rw [t1_is hN] at hc
  have hN0 : (uI M a 0 32).1 = (a + 1, true) := hN
  have hN1 := nw_N hN0
  have s5 := Ssav h6
  refine hc _ _ _ (i_aload rfl (i_obj (Nat.le_of_ble_eq_true rfl) (i_aload rfl (i_ic (i_putC (okI hN h6 (by omega)) (by decide) (i_aload rfl (i_new hN0 s5 (by show a + 1 + 1 ≤ a + 1 + 2; omega) (i_dup rfl (i_callI hN1 (Nat.le_of_ble_eq_true rfl) (by show a + 1 + 1 + 1 ≤ a + 1 + 2; omega) (c_ini8 s5 hN1 (nw_0 hN0) (fun M' hN' hf hx => ?_)))))))))))
  have hN2 : M'.1 = (a + 1 + 2, true) := hN'
  refine i_rN (i_putR (okI hN2 h6 (by omega)) (i_vret hN2 (h _ hN2 ((((Fb.pI (Nat.le_refl a)).tr (Fb.nw hN0 (by omega))).tr (hf.mono (by omega))).tr (Fb.pR (Nat.le_refl a))) (fun b h1 h2 => ?_))))
  by_cases e : b = a
  · subst e
    refine ((((h0.pIs (j := 0) (x := 32)).fb (Fb.nw (n := b + 1) hN0 (by omega)) (by omega)).fb hf (by omega)).pRs).to ?_ (eR_6 h6).symm
    funext j
    unfold up1 eI z0
    by_cases w : j = 0
    · rw [if_pos w, if_neg (fun z => by omega), if_pos ⟨h6, w⟩]
    · rw [if_neg w, if_neg (fun z => by omega), if_neg (fun z => w z.2), if_neg (fun z => ne_kind h6 7 (by have := S443; omega) z.1)]
  · exact (hx b (by omega) (by omega)).pR e
/-- object a is being made: its cells are known, all behind it but E stand -/
def OP (M0 M : Mem) (a k : Nat) (g : Nat → Int32) (r : Nat → Option Nat) (E : Nat → Prop) : Prop := M.1 = (k, true) ∧ Fb a M0 M ∧ OB M a g r ∧ (∀ b, a < b → b < k → ¬ E b → XI M b) ∧ a < k
/-- the objects below k but a are as they were -/
def Fz (a k : Nat) (M M' : Mem) : Prop := ∀ b g r, b < k → b ≠ a → OB M b g r → OB M' b g r
theorem Fz.tr {k k' : Nat} {M' M'' : Mem} (h : Fz a k M M') (h' : Fz a k' M' M'') (hk : k ≤ k') : Fz a k M M'' := fun b g r hb hn ho => h' b g r (by omega) hn (h b g r hb hn ho)
section
variable {L : LocS} {st : List Value} {KK : KT} {k j n n1 ci cf : Nat} {g : Nat → Int32} {r : Nat → Option Nat} {E : Nat → Prop}
theorem OP.start (hN : M.1 = (a + 1, true)) (h0 : OB M a z0 rn) : OP M M a (a + 1) z0 rn (fun _ => False) := ⟨hN, Fb.rf, h0, fun b h1 h2 => by omega, by omega⟩
theorem st_arrE {x : Int32} (h : OP M0 M a k g r E) (e : Sh k = (ci, n)) (hx : x.toNatClampNeg = n) (hx0 : ¬ x < 0) (hn : k + 1 ≤ n1) (ha : (Sh a).1 = cf) (hk : ∀ M', OP M0 M' a (k + 1) g (up1 r j (some k)) (fun b => E b ∨ b = k) → OB M' k z0 rn → Fz a k M M' → KK L st M') : w_newa ci n1 (w_putR cf j KK) L (.int x :: .ref a :: st) M := by
  obtain ⟨hN, hf, ho, hb, hak⟩ := h
  have hN1 := nw_N hN
  refine i_newa hN e hx hx0 hn (i_putR (okI hN1 ha (by omega)) (hk _ ⟨hN1, (hf.tr (Fb.nw hN (by omega))).tr (Fb.pR (Nat.le_refl a)), (ho.fb (Fb.nw (n := k) hN (Nat.le_refl _)) hak).pRs, fun b h1 h2 h3 => ?_, by omega⟩ ((nw_0 hN).pR (by omega)) (fun b g r h1 h2 h3 => (h3.fb (Fb.nw (n := k) hN (Nat.le_refl _)) h1).pR h2)))
  exact ((hb b h1 (by omega) (fun z => h3 (Or.inl z))).fb (Fb.nw (n := k) hN (Nat.le_refl _)) (by omega)).pR (by omega)
theorem st_arr {x : Int32} (h : OP M0 M a k g r E) (e : Sh k = (ci, n)) (hc : 11 ≤ ci ∧ ci ≤ 15) (hx : x.toNatClampNeg = n) (hx0 : ¬ x < 0) (hn : k + 1 ≤ n1) (ha : (Sh a).1 = cf) (hk : ∀ M', OP M0 M' a (k + 1) g (up1 r j (some k)) E → Fz a k M M' → KK L st M') : w_newa ci n1 (w_putR cf j KK) L (.int x :: .ref a :: st) M := by
  refine st_arrE h e hx hx0 hn ha (fun M' h1 h2 h3 => hk M' ⟨h1.1, h1.2.1, h1.2.2.1, fun b h4 h5 h6 => ?_, h1.2.2.2.2⟩ h3)
  by_cases w : b = k
  · subst w
    have z := eZ_c e hc
    exact h2.to z.1.symm z.2.symm
  · exact h1.2.2.2.1 b h4 h5 (fun z => z.elim h6 w)
/-- a constructor's contract at k -/
def InC (sp : SP) (d k : Nat) : Prop := ∀ (M1 : Mem) (K1 : RT), M1.1 = (k + 1, true) → OB M1 k z0 rn → Ini d k M1 K1 → sp [.ref k] M1 K1
theorem st_sub {sp : SP} {d : Nat} (h : OP M0 M a k g r E) (hsp : InC sp d k) (e : (Sh k).1 = ci) (hl : st.length ≤ 2) (hn : k + 1 + d ≤ n1) (ha : (Sh a).1 = cf) (hk : ∀ M', OP M0 M' a (k + 1 + d) g (up1 r j (some k)) E → Fz a k M M' → KK L st M') : w_new ci n1 (w_dup (w_callI 1 d n1 sp (w_putR cf j KK))) L (.ref a :: st) M := by
  obtain ⟨hN, hf, ho, hb, hak⟩ := h
  have hN1 := nw_N hN
  refine i_new hN e (by omega) (i_dup rfl (i_callI hN1 (by simp; omega) hn (hsp _ _ hN1 (nw_0 hN) (fun M' hN' hf' hx => i_rN (i_putR (okI hN' ha (by omega)) (hk _ ⟨hN', ((hf.tr (Fb.nw hN (by omega))).tr (hf'.mono (by omega))).tr (Fb.pR (Nat.le_refl a)), ((ho.fb (Fb.nw (n := k) hN (Nat.le_refl _)) hak).fb hf' hak).pRs, fun b h1 h2 h3 => ?_, by omega⟩ (fun b g r h1 h2 h3 => ((h3.fb (Fb.nw (n := k) hN (Nat.le_refl _)) h1).fb hf' h1).pR h2)))))))
  by_cases w : b < k
  · exact (((hb b h1 w h3).fb (Fb.nw (n := k) hN (Nat.le_refl _)) w).fb hf' w).pR (by omega)
  · exact (hx b (by omega) (by omega)).pR (by omega)
theorem st_subA {sp : SP} {d q i kd nn : Nat} {f : Nat → Nat} (h : OP M0 M a k g r E) (hsp : InC sp d k) (e : (Sh k).1 = ci) (hl : st.length ≤ 1) (hn : k + 1 + d ≤ n1) (hE : E q) (hqk : q < k) (haq : a < q) (eq : Sh q = (kd, nn)) (hi : i < nn) (hnn : nn < 2 ^ 31) (hkd : kd - 11 = ci) (ho' : OB M q z0 (fun t => if t < i then some (f t) else none)) (hfk : f i = k) (hk : ∀ M', OP M0 M' a (k + 1 + d) g r E → OB M' q z0 (fun t => if t < i + 1 then some (f t) else none) → Fz q k M M' → KK L st M') : w_new ci n1 (w_dup (w_callI 1 d n1 sp (w_aast kd KK))) L (.int (nI i) :: .ref q :: st) M := by
  obtain ⟨hN, hf, ho, hb, hak⟩ := h
  have hN1 := nw_N hN
  refine i_new hN e (by omega) (i_dup rfl (i_callI hN1 (by simp; omega) hn (hsp _ _ hN1 (nw_0 hN) (fun M' hN' hf' hx => i_rN (i_aastO (okI hN' (by rw [eq]) (by omega)) eq (okI hN' (by rw [hkd]; exact e) (by omega)) (vpN hi hnn) ?_)))))
  rw [nI_clamp (by omega)]
  refine hk _ ⟨hN', ((hf.tr (Fb.nw hN (by omega))).tr (hf'.mono (by omega))).tr (Fb.pR (by omega)), ((ho.fb (Fb.nw (n := k) hN (Nat.le_refl _)) hak).fb hf' hak).pR (by omega), fun b h1 h2 h3 => ?_, by omega⟩ ?_ (fun b g r h1 h2 h3 => ((h3.fb (Fb.nw (n := k) hN (Nat.le_refl _)) h1).fb hf' h1).pR h2)
  · have nq : b ≠ q := fun z => h3 (by rw [z]; exact hE)
    by_cases w : b < k
    · exact (((hb b h1 w h3).fb (Fb.nw (n := k) hN (Nat.le_refl _)) w).fb hf' w).pR nq
    · exact (hx b (by omega) (by omega)).pR nq
  · refine (((ho'.fb (Fb.nw (n := k) hN (Nat.le_refl _)) hqk).fb hf' hqk).pRs).to rfl ?_
    funext t
    unfold up1
    show (if t = i then some k else (if t < i then some (f t) else none)) = _
    by_cases w : t = i
    · rw [if_pos w, if_pos (by omega), w, hfk]
    · rw [if_neg w]
      by_cases y : t < i
      · rw [if_pos y, if_pos (by omega)]
      · rw [if_neg y, if_neg (by omega)]
theorem st_put {x : Nat} (h : OP M0 M a k g r E) (ha : (Sh a).1 = cf) (hk : ∀ M', OP M0 M' a k g (up1 r j (some x)) E → Fz a k M M' → KK L st M') : w_putR cf j KK L (.ref x :: .ref a :: st) M := by
  obtain ⟨hN, hf, ho, hb, hak⟩ := h
  exact i_putR (okI hN ha hak) (hk _ ⟨hN, hf.tr (Fb.pR (Nat.le_refl a)), ho.pRs, fun b h1 h2 h3 => (hb b h1 h2 h3).pR (by omega), hak⟩ (fun b g r h1 h2 h3 => h3.pR h2))
theorem OP.gr (h : OP M0 M a k g r E) (j : Nat) : gR M a j = r j := congrFun h.2.2.1.2.2.2 j
theorem OP.xr (h : OP M0 M a k g r E) {b : Nat} (h1 : a < b) (h2 : b < k) (h3 : ¬ E b) (j : Nat) : gR M b j = eR b j := congrFun (h.2.2.2.1 b h1 h2 h3).2.2.2 j
theorem OP.done {t1 : Nat × Bool} (h : OP M0 M a k g r E) (hg : g = eI a) (hr : r = eR a) (hE : ∀ b, E b → a < b → b < k → XI M b) (hk : k = a + 1 + n) (ht : t1 = (a + 1 + n, true)) (hI : Ini n a M0 K) : w_vret t1 K L [] M := by
  obtain ⟨hN, hf, ho, hb, hak⟩ := h
  subst hk
  refine i_vret (hN.trans ht.symm) (hI M hN hf (fun b h1 h2 => ?_))
  by_cases w : b = a
  · subst w; exact ho.to hg hr
  · by_cases z : E b
    · exact hE b z (by omega) (by omega)
    · exact hb b (by omega) (by omega) z
end
end
end INIT
