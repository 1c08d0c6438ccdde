section DOMK
theorem elS_A {o : Nat} {X : Nat → Int64} {S : Int64} {i : Nat} (h : o = 26 ∨ o = 27) : elS o X S i = X i := if_pos h
theorem elS_B {o : Nat} {X : Nat → Int64} {S : Int64} {i : Nat} (h : o = 28 ∨ o = 29) : elS o X S i = if (64 : Int64) < S then 64 else S + lN i := if_neg (by omega)
/-- what is looked at alone counts -/
theorem mkS_cg {o n m m' : Nat} {k k1 k1' : Int32} {X X' Y Y' E E' : Nat → Int64} {S S' : Int64} (ho : o ∈ MKL ∨ o = 39) (h1 : 1 ≤ n) (hX : ¬ (28 ≤ o ∧ o ≤ 31) → ∀ j, j < n → X j = X' j) (hY : (1 ≤ o ∧ o ≤ 10) ∨ o = 34 ∨ o = 37 → ∀ j, j < n → Y j = Y' j) (hk : ¬ (28 ≤ o ∧ o ≤ 31) → k1 = k1') (hS : usS o = true → S = S') (hm : usA o = true → m = m' ∧ m ≤ 64 ∧ ∀ j, j < m → E j = E' j)
    {t : Option Int64} {i : Nat} (hi : i < n) : mkS o k k1 n X Y S m E t i = mkS o k k1' n X' Y' S' m' E' t i := by
  unfold mkS
  by_cases h39 : o = 39
  · rw [if_pos h39, if_pos h39, hX (by omega) i hi]
  · rw [if_neg h39, if_neg h39]
    have ho := ho.resolve_right h39
    unfold MKL at ho
    simp only [List.mem_cons, List.not_mem_nil, or_false] at ho
    by_cases h10 : o ≤ 10
    · rw [madeS_bin h10, madeS_bin h10, hX (by omega) i hi, hY (by omega) i hi]
    · have hc : (o = 11 ∨ o = 12 ∨ o = 13) ∨ o = 14 ∨ o = 15 ∨ o = 16 ∨ o = 24 ∨ o = 25 ∨ (o = 26 ∨ o = 28) ∨ o = 30 ∨ o = 31 ∨ (o = 34 ∨ o = 35 ∨ o = 36 ∨ o = 37) := by omega
      rcases hc with h | h | h | h | h | h | h | h | h | h
      · rw [madeS_sh h, madeS_sh h, hX (by omega) i hi, hS (by unfold usS; simp; omega)]
      · subst h; rw [madeS_14, madeS_14, hX (by omega) i hi]
      · subst h; rw [madeS_15, madeS_15, hX (by omega) i hi]
      · subst h; rw [madeS_16, madeS_16, hX (by omega) i hi]
      · subst h; rw [madeS_24, madeS_24, hX (by omega) i hi, hk (by omega)]
      · subst h; rw [madeS_25, madeS_25, hX (by omega) i hi, hk (by omega)]
      · have hA := hm (by unfold usA; simp; omega)
        have e : elS o X S i = elS o X' S' i := by
          rcases h with rfl | rfl
          · rw [elS_A (Or.inl rfl), elS_A (Or.inl rfl)]
            exact hX (by omega) i hi
          · rw [elS_B (Or.inl rfl), elS_B (Or.inl rfl), hS rfl]
        rw [madeS_el h, madeS_el h, e, ← hA.1]
        by_cases q : inS (elS o X' S' i) m
        · rw [iT_t q, iT_t q]
          obtain ⟨p, p1, p2⟩ := inS_lN hA.2.1 q
          rw [p2, l6_int (by omega)]
          exact congrArg (fun z => ((0 : Int32), z)) (hA.2.2 p p1)
        · rw [iT_f q, iT_f q]
      · subst h; rw [madeS_30, madeS_30, hS rfl]
      · subst h; rw [madeS_31, madeS_31, hS rfl]
      · rw [madeS_fet h, madeS_fet h]
        have x1 := hX (by omega)
        rcases h with rfl | rfl | rfl | rfl
        · have e : ∀ (X Y : Nat → Int64) S, fetS 34 n X Y S i = iT (inS (Y i) n) (0, X (Y i).toInt.toNat) (4, 0) := fun _ _ _ => rfl
          rw [e, e, hY (by omega) i hi]
          by_cases q : inS (Y' i) n
          · rw [iT_t q, iT_t q]
            obtain ⟨p1, p2⟩ := q
            rw [Int64.le_iff_toInt_le] at p1
            rw [Int64.lt_iff_toInt_lt] at p2
            by_cases w : n < 2 ^ 63
            · rw [l6_int w] at p2
              have e0 : (0 : Int64).toInt = 0 := by decide
              rw [e0] at p1
              exact congrArg (fun z => ((0 : Int32), z)) (x1 _ (by omega))
            · have := fb_rngL (Y' i)
              exact congrArg (fun z => ((0 : Int32), z)) (x1 _ (by omega))
          · rw [iT_f q, iT_f q]
        · have e : ∀ (X Y : Nat → Int64) S, fetS 35 n X Y S i = (0, X ((i + (S.toInt % n).toNat) % n)) := fun _ _ _ => rfl
          rw [e, e, hS rfl, x1 _ (Nat.mod_lt _ (by omega))]
        · have e : ∀ (X Y : Nat → Int64) S, fetS 36 n X Y S i = (0, X (n - 1 - i)) := fun _ _ _ => rfl
          rw [e, e, x1 _ (by omega)]
        · have e : ∀ (X Y : Nat → Int64) S, fetS 37 n X Y S i = (0, if i % 2 = 0 then X (i / 2) else Y (i / 2)) := fun _ _ _ => rfl
          rw [e, e, x1 _ (by omega), hY (by omega) _ (by omega)]
theorem mkOk_cg {o : Nat} {k k1 k1' : Int32} {t : Option Int64} {x x' y y' : Int64} (ho : o ∈ MKL ∨ o = 39) (hX : ¬ (28 ≤ o ∧ o ≤ 31) → x = x' ∧ k1 = k1') (hY : (1 ≤ o ∧ o ≤ 10) ∨ o = 34 ∨ o = 37 → y = y') (h : mkOk o k k1' t x' y') : mkOk o k k1 t x y := by
  unfold mkOk at h ⊢
  by_cases h39 : o = 39
  · rw [if_pos h39] at h ⊢
    rw [(hX (by omega)).1]
    exact h
  · rw [if_neg h39] at h ⊢
    have ho := ho.resolve_right h39
    unfold MKL at ho
    simp only [List.mem_cons, List.not_mem_nil, or_false] at ho
    unfold madeOk at h ⊢
    by_cases h10 : o ≤ 10
    · rw [if_pos h10] at h ⊢
      rw [(hX (by omega)).1, hY (by omega)]
      exact h
    · rw [if_neg h10] at h ⊢
      by_cases h16 : o = 16
      · rw [if_pos h16] at h ⊢
        rw [(hX (by omega)).1]
        exact h
      · rw [if_neg h16] at h ⊢
        by_cases h24 : o = 24
        · rw [if_pos h24] at h ⊢
          rw [(hX (by omega)).1, (hX (by omega)).2]
          exact h
        · rw [if_neg h24] at h ⊢
          exact h
theorem lrun_cg {mk mk' : Option Int64 → Nat → Int32 × Int64} {on : Nat → Prop} {n : Nat} (h : ∀ i t, i < n → mk t i = mk' t i) : ∀ j i t f, i + j = n → lrun mk on j i t f = lrun mk' on j i t f := by
  intro j
  induction j with
  | zero => intro i t f _; rfl
  | succ j ih =>
    intro i t f hi
    have e : ∀ mk : Option Int64 → Nat → Int32 × Int64, lrun mk on (j + 1) i t f = iT (on i) (if (mk t i).1 = 0 then lrun mk on j (i + 1) (some (mk t i).2) (up1 f i (mk t i).2) else ((mk t i).1, i, f)) (lrun mk on j (i + 1) t f) := fun _ => rfl
    rw [e, e, h i t (by omega), ih _ _ _ (by omega), ih _ _ _ (by omega)]
/-- one row's items were written; what else was lies outside -/
theorem RD.it {S : Nat → Prop} {M M' : Mem} {s j : Nat} {d : DS} (hj : j < 16) (h : Mo S M M') (hS : ∀ b, S b → b = s + 5 + 2 * j + 1 ∨ ¬ (s + 3 ≤ b ∧ b < s + 37)) (hr : RD M s d) {f : Nat → Int64} (hf : ∀ i, i < dn d j → gL M' (s + 5 + 2 * j + 1) i = f i) : RD M' s (setIt d j f) := by
  refine ⟨fun i hi => ?_, fun m hm => ?_, fun k hk => ?_⟩
  · by_cases q : i = j
    · subst q
      obtain ⟨a1, a2, a3, a4⟩ := hr.1 i hi
      have z : ¬ S (s + 5 + 2 * i) := fun w => by have := hS _ w; omega
      refine ⟨(h.I z).trans a1, (h.I z).trans a2, a3, fun p hp => ?_⟩
      show _ = up1 d.2.2.1 i f i p
      rw [up1_eq]
      exact hf p hp
    · show RowIs M' (s + 5 + 2 * i) (dk d i) (dn d i) (up1 d.2.2.1 j f i)
      rw [up1_ne q]
      exact (hr.1 i hi).mo h (fun w => by have := hS _ w; omega) (fun w => by have := hS _ w; omega)
  · rw [h.I (fun w => by have := hS _ w; omega)]; exact hr.2.1 m hm
  · rw [h.L (fun w => by have := hS _ w; omega)]; exact hr.2.2 k hk
theorem LnOK.mo {S : Nat → Prop} {M M' : Mem} (h : M4 S M M') (hR : gR M' = gR M) (hl : LnOK M) : LnOK M' := by
  unfold LnOK
  rw [hR, h.2.1, h.2.2]
  exact hl
/-- the end of an instruction that fitted -/
def LnE (o : Nat) (c : Nat → Int64) (d : DS) (M M' : Mem) : Prop :=
  Wf M' ∧ Mo (fun b => b = 404 ∨ b = 444 ∨ stS 405 b) M M' ∧ RD M' 405 (insG o c d).2.2.2 ∧ LnOK M' ∧ gI M' 404 2 = (insG o c d).2.1 ∧ ((insG o c d).1 = 0 → gI M' 404 3 = nI (insG o c d).2.2.1) ∧ gI M' 404 9 = (insG o c d).1
theorem c_mkD {o : Nat} {c : Nat → Int64} {d : DS} {M : Mem} {K : RT} (ho : o ∈ MKL ∨ o = 39) (hd : WD d) (hv : VC o c) (h0 : mfD o c d = 0) (hb : LnB o c d M) (h2 : gI M 404 2 = -1)
    (h : ∀ M', Wf M' → Mo (fun b => b = 404 ∨ b = 444 ∨ stS 405 b) M M' → RD M' 405 (insG o c d).2.2.2 → LnOK M' → gI M' 404 2 = (insG o c d).2.1 → ((insG o c d).1 = 0 → gI M' 404 3 = nI (insG o c d).2.2.1) → K (some (.int (insG o c d).1)) M') : sp_X2_makeLanes [.ref 404, .ref (100000 + o)] M K := by
  obtain ⟨a0, a1, a2, a3, a4, a5, a6, a7, a8, a9, a10, ho4⟩ := mk_not ho
  have hF := fit_of ho4 a0 hv hd h0
  obtain ⟨c1, c2⟩ := mk_cnt ho
  obtain ⟨hW, hr, hl, hN, h9, h8, hL, hR⟩ := hb
  have p1 := (pos_all o (List.mem_range.mpr ho4)).2.1
  have g0 := hN.rg ho4 hv (j := 0) (by omega)
  have l0 := (rg_is ho4 hv (j := 0) (by omega)).1
  obtain ⟨q1, q1l, q1r⟩ := hl.1 1 (by decide)
  obtain ⟨qa, qal, qar⟩ := hl.2.1
  obtain ⟨qs, qsl, qsr⟩ := hl.2.2.2
  have row0 := hr.reg l0
  have rowa := hr.arr qal
  have e1 : 1 < cntR o 4 → q1 = rgN o c 1 := fun z => by
    have := hN.rg ho4 hv z
    rw [q1r] at this
    have := Option.some.inj this
    omega
  have ea : usA o = true → qa = arN c := fun z => by
    have := hN.ar ho4 hv z
    rw [qar] at this
    have := Option.some.inj this
    omega
  have es : usS o = true → qs = scN o c := fun z => by
    have := hN.sc ho4 hv z
    rw [qsr] at this
    exact (nI_eq (by omega) (by have := (sc_is ho4 hv z).1; omega)).mp this
  have k0 : (Sh (410 + 4 * rgN o c 0)).1 = 5 := SstRN (a := 405) rfl Sk_405 l0
  have k1 : (Sh (410 + 4 * q1)).1 = 5 := SstRN (a := 405) rfl Sk_405 q1l
  have ka : (Sh (412 + 4 * qa)).1 = 5 := SstAN (a := 405) rfl Sk_405 qal
  have hn := hF.2.1
  have eX : ¬ (28 ≤ o ∧ o ≤ 31) → ∀ j, j < dn d (2 * rgN o c 0) → gL M 444 j = di d (2 * rgN o c 1) j := fun z j hj => hL (c1 z) j hj
  have eY : (1 ≤ o ∧ o ≤ 10) ∨ o = 34 ∨ o = 37 → ∀ j, j < dn d (2 * rgN o c 0) → gL M 445 j = di d (2 * rgN o c 2) j := fun z j hj => hR (c2 z) j hj
  have ek1 : ¬ (28 ≤ o ∧ o ≤ 31) → gI M (410 + 4 * q1) 0 = dk d (2 * rgN o c 1) := fun z => by
    rw [e1 (c1 z)]
    exact (hr.reg (rg_is ho4 hv (c1 z)).1).1
  have eS : usS o = true → gL M 409 qs = dsc d (scN o c) := fun z => by
    rw [es z]
    exact hr.2.2 _ (sc_is ho4 hv z).1
  have eA : usA o = true → dn d (2 * qa + 1) = dn d (2 * arN c + 1) ∧ dn d (2 * qa + 1) ≤ 64 ∧ ∀ j, j < dn d (2 * qa + 1) → gL M (412 + 4 * qa + 1) j = di d (2 * arN c + 1) j := fun z => by
    refine ⟨by rw [ea z], rowa.2.2.1, fun j hj => ?_⟩
    rw [rowa.2.2.2 j hj, ea z]
  have hcg : ∀ i t, i < dn d (2 * rgN o c 0) → mkS o (dk d (2 * rgN o c 0)) (gI M (410 + 4 * q1) 0) (dn d (2 * rgN o c 0)) (gL M 444) (gL M 445) (gL M 409 qs) (dn d (2 * qa + 1)) (gL M (412 + 4 * qa + 1)) t i
      = mkS o (dk d (2 * rgN o c 0)) (dk d (2 * rgN o c 1)) (dn d (2 * rgN o c 0)) (di d (2 * rgN o c 1)) (di d (2 * rgN o c 2)) (dsc d (scN o c)) (dn d (2 * arN c + 1)) (di d (2 * arN c + 1)) t i := fun i t hi => mkS_cg ho hn.1 eX eY ek1 eS eA hi
  have ecg := lrun_cg (on := onW (onS (nI (dn d (2 * rgN o c 0))) c (dm d))) hcg (dn d (2 * rgN o c 0)) 0 none (di d (2 * rgN o c 0)) (by omega)
  refine c_makeLanes (r0 := 410 + 4 * rgN o c 0) (r1 := 410 + 4 * q1) (n := dn d (2 * rgN o c 0)) (a := 412 + 4 * qa) (m := dn d (2 * qa + 1)) (k := dk d (2 * rgN o c 0)) (k1 := gI M (410 + 4 * q1) 0) (X := gL M 444) (Y := gL M 445) (E := gL M (412 + 4 * qa + 1)) (S := gL M 409 qs) (w := onS (nI (dn d (2 * rgN o c 0))) c (dm d)) (f := di d (2 * rgN o c 0)) hW ho
    ⟨⟨g0, k0, q1r, k1⟩, ⟨row0.1, row0.2.1, hn.1, hn.2⟩, rfl, fun _ _ => rfl, fun _ _ => rfl, ⟨qs, qsl, qsr, rfl⟩, qar, ka, rowa.2.1, rowa.2.2.1, fun _ _ => rfl⟩
    (by omega) (by omega) (by omega) (by omega) (by omega) (by omega) (by omega) (by omega) (by omega) h8 h9 row0.2.2.2 (fun i t hi _ ht => ?_) (fun i t hi _ ht z => ?_) (fun M' hW' hm hR' hit h2' h3' => ?_)
  · exact mkOk_cg ho (fun z => ⟨eX z i hi, ek1 z⟩) (fun z => eY z i hi) (mk_hok ho hF i t hi ht)
  · rw [hcg i t hi] at z ⊢
    exact mk_hres ho hF i t hi ht z
  · rw [ecg] at h2' h3' hit ⊢
    rw [insG_mk ho] at h
    have hMo := hm.1
    refine h M' hW' (hMo.mono (fun b hb => ?_)) ?_ (hl.mo hm hR') ?_ ?_
    · rcases hb with z | z
      · exact Or.inl z
      · have z : b = 410 + 4 * rgN o c 0 + 1 := z
        exact Or.inr (Or.inr ⟨by omega, by omega⟩)
    · refine RD.it (by omega) hMo (fun b hb => ?_) hr (fun i hi => ?_)
      · rcases hb with z | z
        · exact Or.inr (by omega)
        · have z : b = 410 + 4 * rgN o c 0 + 1 := z
          exact Or.inl (by omega)
      · rw [show 405 + 5 + 2 * (2 * rgN o c 0) + 1 = 410 + 4 * rgN o c 0 + 1 by omega]
        exact hit i hi
    · rw [h2', h2]
    · intro z
      rw [h3', if_pos z]
      exact bitCount_w _
end DOMK
