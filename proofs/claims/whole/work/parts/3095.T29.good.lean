section FLOW4
section
variable {M M' : Mem} {K : RT} {n : Nat} {c : Nat → Nat → Int64} {i : Nat} {s : SG}
theorem kinds_bt {L k : Nat} (hL : L < 128) (hk : k < 7) : bt (f_X4_kinds (nI L)) k = true ↔ kdL L k := by
  have : ∀ L ∈ List.range 128, ∀ k ∈ List.range 7, bt (if nI L = 104 then (31 : Int32) else if nI L = 105 then 8 else if nI L = 114 then 96 else if nI L = 119 then 31 else 127) k = true ↔ (if L = 104 ∨ L = 119 then k < 5 else if L = 114 then k = 5 ∨ k = 6 else if L = 105 then k = 3 else k < 7) := by decide +kernel
  exact this L (List.mem_range.mpr hL) k (List.mem_range.mpr hk)
theorem bt_m1 {i : Nat} (hi : i < 32) : bt (-1) i = true := by
  have : ∀ i ∈ List.range 32, bt (-1) i = true := by decide +kernel
  exact this i (List.mem_range.mpr hi)
theorem shl_m1 {N b : Nat} (hN : N < 32) (hb : b < 32) : bt ((-1 : Int32) <<< (nI N &&& 31)) b = decide (N ≤ b) := by
  have : ∀ N ∈ List.range 32, ∀ b ∈ List.range 32, bt ((-1 : Int32) <<< (nI N &&& 31)) b = decide (N ≤ b) := by decide +kernel
  exact this N (List.mem_range.mpr hN) b (List.mem_range.mpr hb)
theorem sh_btN {L sh : Nat} (hL : L < 128) {k : Nat} (hk : k < 7) (v : ¬ (L = 107 ∨ L = 119 ∨ L = 114)) : bt (f_X4_kinds (nI L) &&& (-1)) k = true ↔ kdL L k ∧ (isSh L → k = sh) := by
  rw [bt_and, Bool.and_eq_true, kinds_bt hL hk]
  unfold isSh
  exact ⟨fun a => ⟨a.1, fun b => absurd b v⟩, fun a => ⟨a.1, bt_m1 (by omega)⟩⟩
theorem sh_btY {L sh : Nat} (hL : L < 128) {k : Nat} (hk : k < 7) (hs : sh < 7) (v : L = 107 ∨ L = 119 ∨ L = 114) : bt (f_X4_kinds (nI L) &&& ((1 : Int32) <<< (nI sh &&& 31))) k = true ↔ kdL L k ∧ (isSh L → k = sh) := by
  rw [bt_and, Bool.and_eq_true, kinds_bt hL hk, shl1_bt (by omega) (by omega), decide_eq_true_iff]
  unfold isSh
  exact ⟨fun a => ⟨a.1, fun _ => a.2⟩, fun a => ⟨a.1, a.2 v⟩⟩
/-- a register's operand -/
theorem VI.rl {r : Nat → Int64} {q : Nat} (h : VI n r) (hq : q < (opL (cn r 0)).length) (hl : isRL (letN (cn r 0) q)) : cn r (q + 1) < 8 ∧ r (q + 1) = lN (cn r (q + 1)) := by
  obtain ⟨-, b, -⟩ := h.at rfl
  obtain ⟨v, v1, v2⟩ := (b q hq).1 (Or.inl hl)
  have e : cn r (q + 1) = v := cn_lN v2 (by omega)
  rw [e]
  exact ⟨v1, v2⟩
theorem VI.pl {r : Nat → Int64} {q : Nat} (h : VI n r) (hq : q < (opL (cn r 0)).length) (hl : letN (cn r 0) q = 80) : cn r (q + 1) < 32 ∧ r (q + 1) = lN (cn r (q + 1)) := by
  obtain ⟨-, b, -⟩ := h.at rfl
  obtain ⟨v, v1, v2⟩ := (b q hq).2.2.2.2.1 hl
  have e : cn r (q + 1) = v := cn_lN v2 (by omega)
  rw [e]
  exact ⟨v1, v2⟩
theorem c_kindsOp {q sh : Nat} (hW : Wf M) (hP : PRG M 8 n c) (hV : ∀ k, k < n → VI n (c k)) (hi : i < n) (hq : q < (opL (cn (c i) 0)).length) (hl : isRL (letN (cn (c i) 0) q)) (hs : sh < 7) (h : ∀ w, (∀ k, k < 7 → (bt w k = true ↔ okK (c i) sh (cn (c i) (q + 1)) k)) → K (some (.int w)) M) : sp_X1_kindsOfOperand [.ref 8, .int (nI i), .int (nI q), .int (nI sh)] M K := by
  obtain ⟨o1, o2⟩ := (hV i hi).o
  obtain ⟨r1, r2⟩ := (hV i hi).rl hq hl
  have hlen := opLen4 o1
  refine wX1_kindsOfOperand hW (fun {G} hc => c_opP2 hW (by decide) hP hV hi (rX1_kindsOfOperand_0_2 hc hW (isOp_n o1) ?_))
  have loop : ∀ j p : Nat, p + j = (opL (cn (c i) 0)).length → ∀ w o7, (∀ k, k < 7 → (bt w k = true ↔ ∀ p', p' < p → isRL (letN (cn (c i) 0) p') → cn (c i) (p' + 1) = cn (c i) (q + 1) → kdL (letN (cn (c i) 0) p') k ∧ (isSh (letN (cn (c i) 0) p') → k = sh))) → G 13 [some (.ref 8), some (.int (nI i)), some (.int (nI q)), some (.int (nI sh)), some (.ref (100000 + cn (c i) 0)), some (.int w), some (.int (nI p)), o7] [] M := by
    intro j
    induction j with
    | zero =>
      intro p hp w o7 hw
      refine eX1_kindsOfOperand_13 hc hW (isOp_n o1) ?_
      rw [opLen_f o1]
      refine ⟨fun _ => h w (fun k hk => ?_), fun z => absurd (nI_le (by omega) (by omega)) z⟩
      rw [hw k hk]
      unfold okK
      exact ⟨fun z p' hp' => z p' (by omega), fun z p' hp' => z p' (by omega)⟩
    | succ j ih =>
      intro p hp w o7 hw
      have hlt := letN_lt (k := p) o1
      refine eX1_kindsOfOperand_13 hc hW (isOp_n o1) ?_
      rw [opLen_f o1]
      refine ⟨fun z => absurd ((nI_leI (by omega) (by omega)).mp z) (by omega), fun _ => c_letter hW o1 (by omega) (rX1_kindsOfOperand_26_2 hc hW (isOp_n o1) ?_)⟩
      rw [isReg_n hlt, nI_1, nI_1]
      -- nothing new
      have skip : ¬ (isRL (letN (cn (c i) 0) p) ∧ cn (c i) (p + 1) = cn (c i) (q + 1)) → ∀ o7, G 13 [some (.ref 8), some (.int (nI i)), some (.int (nI q)), some (.int (nI sh)), some (.ref (100000 + cn (c i) 0)), some (.int w), some (.int (nI (p + 1))), o7] [] M := fun z o7 => by
        refine ih (p + 1) (by omega) w o7 (fun k hk => ?_)
        rw [hw k hk]
        constructor
        · intro u p' hp' a b
          by_cases e : p' = p
          · subst e; exact absurd ⟨a, b⟩ z
          · exact u p' (by omega) a b
        · intro u p' hp' a b; exact u p' (by omega) a b
      have take : isRL (letN (cn (c i) 0) p) → cn (c i) (p + 1) = cn (c i) (q + 1) → ∀ x : Int32, (∀ k, k < 7 → (bt x k = true ↔ kdL (letN (cn (c i) 0) p) k ∧ (isSh (letN (cn (c i) 0) p) → k = sh))) → ∀ o7, G 13 [some (.ref 8), some (.int (nI i)), some (.int (nI q)), some (.int (nI sh)), some (.ref (100000 + cn (c i) 0)), some (.int (w &&& x)), some (.int (nI (p + 1))), o7] [] M := fun z1 z2 x hx o7 => by
        refine ih (p + 1) (by omega) (w &&& x) o7 (fun k hk => ?_)
        rw [bt_and, Bool.and_eq_true, hw k hk, hx k hk]
        constructor
        · rintro ⟨u, v⟩ p' hp' a b
          by_cases e : p' = p
          · subst e; exact v
          · exact u p' (by omega) a b
        · intro u
          exact ⟨fun p' hp' a b => u p' (by omega) a b, u p (by omega) z1 z2⟩
      have c1 := cell_is hP hi (w := p + 1) (by omega)
      have c2 := cell_is hP hi (w := q + 1) (by omega)
      refine ⟨fun z => skip (fun y => z y.1) _, fun z => ?_⟩
      obtain ⟨u1, u2⟩ := (hV i hi).rl (q := p) (by omega) z
      rw [c1.2, c2.2, u2, r2]
      have ec : lN (cn (c i) (p + 1)) = lN (cn (c i) (q + 1)) ↔ cn (c i) (p + 1) = cn (c i) (q + 1) := ⟨fun v => lN8_inj u1 r1 v, fun v => by rw [v]⟩
      rw [ec, shared_n hlt]
      refine ⟨c1.1, c2.1, fun y => skip (fun v => y v.2) _, fun y => ⟨fun v y1 hy1 => ?_, fun v y2 hy2 => ?_⟩⟩
      · rw [hy1]
        exact take z y _ (fun k hk => sh_btN hlt hk v) _
      · rw [hy2]
        exact take z y _ (fun k hk => sh_btY hlt hk hs v) _
  exact loop _ 0 (Nat.zero_add _) _ _ (fun k hk => ⟨fun _ p' hp' => absurd hp' (Nat.not_lt_zero p'), fun _ => bt_m1 (by omega)⟩)
theorem c_lengthsOf {x : Nat} {kw : Int32} (hW : Wf M) (hx : x + 8 ≤ 6400) (h : ∀ w, (∀ b, b < 32 → (bt w b = true ↔ ∃ k, k < 7 ∧ bt kw k = true ∧ bt (gI M 450 (x + k)) b = true)) → K (some (.int w)) M) : sp_X1_lengthsOf [.ref 449, .int (nI x), .int kw] M K := by
  refine wX1_lengthsOf hW (fun {G} hc => ?_)
  have loop : ∀ j p : Nat, p + j = 7 → ∀ w, (∀ b, b < 32 → (bt w b = true ↔ ∃ k, k < p ∧ bt kw k = true ∧ bt (gI M 450 (x + k)) b = true)) → G 5 [some (.ref 449), some (.int (nI x)), some (.int kw), some (.int w), some (.int (nI p))] [] M := by
    intro j
    induction j with
    | zero =>
      intro p hp w hw
      have : p = 7 := by omega
      subst this
      exact eX1_lengthsOf_5 hc hW ⟨fun _ => h w hw, fun z => absurd (by decide) z⟩
    | succ j ih =>
      intro p hp w hw
      have hon : onW kw p ↔ bt kw p = true := onW_bt (by omega)
      unfold onW at hon
      refine eX1_lengthsOf_5 hc hW ⟨fun z => absurd ((nI_leI (a := 7) (by decide) (by omega)).mp z) (by omega), fun _ => ⟨fun z => ?_, fun z => ?_⟩⟩
      · have z : ¬ bt kw p = true := fun y => hon.mpr y z
        rw [nI_1]
        refine ih (p + 1) (by omega) w (fun b hb => ?_)
        rw [hw b hb]
        constructor
        · rintro ⟨k, k1, k2⟩; exact ⟨k, by omega, k2⟩
        · rintro ⟨k, k1, k2, k3⟩
          by_cases e : k = p
          · subst e; exact absurd k2 z
          · exact ⟨k, by omega, k2, k3⟩
      · have z : bt kw p = true := hon.mp z
        rw [nI_add, nI_clamp (by omega)]
        refine ⟨vpN (by omega) (by decide), fun y hy => ?_⟩
        rw [hy, nI_1]
        refine ih (p + 1) (by omega) _ (fun b hb => ?_)
        rw [bt_or, Bool.or_eq_true, hw b hb]
        constructor
        · rintro (⟨k, k1, k2⟩ | u)
          · exact ⟨k, by omega, k2⟩
          · exact ⟨p, by omega, z, u⟩
        · rintro ⟨k, k1, k2, k3⟩
          by_cases e : k = p
          · subst e; exact Or.inr k3
          · exact Or.inl ⟨k, by omega, k2, k3⟩
  exact loop 7 0 rfl _ (fun b hb => by rw [bt_0]; exact ⟨fun z => absurd z (by decide), fun ⟨k, k1, _⟩ => absurd k1 (Nat.not_lt_zero k)⟩)
/-- a length that fits operand q -/
def gdQ (n : Nat) (c : Nat → Nat → Int64) (i sh b q : Nat) : Prop := (isRL (letN (cn (c i) 0) q) ∧ cn (c i) 0 ≠ 0 → ∃ k, k < 7 ∧ okK (c i) sh (cn (c i) (q + 1)) k ∧ Fa n c i (cn (c i) (q + 1) * 256 + k * 32 + b)) ∧ (letN (cn (c i) 0) q = 80 → cn (c i) (q + 1) ≤ b)
theorem c_goodLen {sh : Nat} (hW : Wf M) (hP : PRG M 8 n c) (hV : ∀ k, k < n → VI n (c k)) (hF : FlM M n c) (hi : i < n) (hs : sh < 7) (h : ∀ w, (∀ b, b < 32 → (bt w b = true ↔ ∀ q, q < (opL (cn (c i) 0)).length → gdQ n c i sh b q)) → K (some (.int w)) M) : sp_X1_goodLengths [.ref 449, .ref 8, .int (nI i), .int (nI sh)] M K := by
  obtain ⟨o1, o2⟩ := (hV i hi).o
  have hlen := opLen4 o1
  have hn := hP.1
  refine wX1_goodLengths hW (fun {G} hc => c_opP2 hW (by decide) hP hV hi (rX1_goodLengths_0_2 hc hW (isOp_n o1) ?_))
  have loop : ∀ j p : Nat, p + j = (opL (cn (c i) 0)).length → ∀ w o7, (∀ b, b < 32 → (bt w b = true ↔ ∀ q, q < p → gdQ n c i sh b q)) → G 13 [some (.ref 449), some (.ref 8), some (.int (nI i)), some (.int (nI sh)), some (.ref (100000 + cn (c i) 0)), some (.int w), some (.int (nI p)), o7] [] M := by
    intro j
    induction j with
    | zero =>
      intro p hp w o7 hw
      refine eX1_goodLengths_13 hc hW (isOp_n o1) ?_
      rw [opLen_f o1]
      refine ⟨fun _ => h w (fun b hb => ?_), fun z => absurd (nI_le (by omega) (by omega)) z⟩
      rw [hw b hb]
      exact ⟨fun z q hq => z q (by omega), fun z q hq => z q (by omega)⟩
    | succ j ih =>
      intro p hp w o7 hw
      have hlt := letN_lt (k := p) o1
      -- one more operand
      have next : ∀ x : Int32, (∀ b, b < 32 → (bt x b = true ↔ (bt w b = true ∧ gdQ n c i sh b p))) → ∀ o7, G 13 [some (.ref 449), some (.ref 8), some (.int (nI i)), some (.int (nI sh)), some (.ref (100000 + cn (c i) 0)), some (.int x), some (.int (nI p + (1 : Int32))), o7] [] M := fun x hx o7 => by
        rw [nI_1]
        refine ih (p + 1) (by omega) x o7 (fun b hb => ?_)
        rw [hx b hb, hw b hb]
        constructor
        · rintro ⟨a, d⟩ q hq
          by_cases e : q = p
          · subst e; exact d
          · exact a q (by omega)
        · intro a
          exact ⟨fun q hq => a q (by omega), a p (by omega)⟩
      have plain : ¬ (isRL (letN (cn (c i) 0) p) ∧ cn (c i) 0 ≠ 0) → ∀ o7, G 92 [some (.ref 449), some (.ref 8), some (.int (nI i)), some (.int (nI sh)), some (.ref (100000 + cn (c i) 0)), some (.int w), some (.int (nI p)), o7] [] M := fun z o7 => by
        refine eX1_goodLengths_92 hc hW (isOp_n o1) (c_letter hW o1 (by omega) (rX1_goodLengths_92_2 hc hW (isOp_n o1) ?_))
        have e80 : nI (letN (cn (c i) 0) p) = 80 ↔ letN (cn (c i) 0) p = 80 := nI_eq (b := 80) (by omega) (by decide)
        rw [e80]
        refine ⟨fun y => next w (fun b hb => ⟨fun a => ⟨a, fun u => absurd u z, fun u => absurd u y⟩, fun a => a.1⟩) _, fun y => ?_⟩
        have cc := cell_is hP hi (w := p + 1) (by omega)
        obtain ⟨u1, u2⟩ := (hV i hi).pl (q := p) (by omega) y
        rw [nI_1, cc.2, u2, lN_toI]
        refine ⟨cc.1, fun y2 hy2 => ?_⟩
        rw [hy2, ← nI_1]
        refine next _ (fun b hb => ?_) _
        rw [bt_and, Bool.and_eq_true, shl_m1 u1 hb, decide_eq_true_iff]
        exact ⟨fun a => ⟨a.1, fun u => absurd u z, fun _ => a.2⟩, fun a => ⟨a.1, a.2.2 y⟩⟩
      refine eX1_goodLengths_13 hc hW (isOp_n o1) ?_
      rw [opLen_f o1]
      refine ⟨fun z => absurd ((nI_leI (by omega) (by omega)).mp z) (by omega), fun _ => c_letter hW o1 (by omega) (rX1_goodLengths_26_2 hc hW (isOp_n o1) ?_)⟩
      rw [isReg_n hlt]
      refine ⟨fun z => plain (fun y => z y.1) _, fun z => ⟨fun y => plain (fun u => u.2 (by omega)) _, fun y => ?_⟩⟩
      have z0 : cn (c i) 0 ≠ 0 := by omega
      obtain ⟨u1, u2⟩ := (hV i hi).rl (q := p) (by omega) z
      have cc := cell_is hP hi (w := p + 1) (by omega)
      rw [nI_1, cc.2, u2, lN_toI, and7 u1]
      refine ⟨cc.1, fun y1 hy1 => c_kindsOp hW hP hV hi (by omega) z hs (fun kw hkw => rX1_goodLengths_47_23 hc hW (isOp_n o1) ?_)⟩
      have ey : y1 = nI (i * 64 + cn (c i) (p + 1) * 8) := by rw [hy1, show (64 : Int32) = nI 64 from rfl, show (8 : Int32) = nI 8 from rfl, pk_mul, pk_mul, nI_add]
      rw [ey]
      refine c_lengthsOf hW (by omega) (fun lw hlw => rX1_goodLengths_47_24 hc hW (isOp_n o1) (next _ (fun b hb => ?_) _))
      rw [bt_and, Bool.and_eq_true, hlw b hb]
      have hl80 : ¬ letN (cn (c i) 0) p = 80 := fun v => by have := z.1; omega
      have hex : (∃ k, k < 7 ∧ bt kw k = true ∧ bt (gI M 450 (i * 64 + cn (c i) (p + 1) * 8 + k)) b = true) ↔ ∃ k, k < 7 ∧ okK (c i) sh (cn (c i) (p + 1)) k ∧ Fa n c i (cn (c i) (p + 1) * 256 + k * 32 + b) := by
        constructor
        · rintro ⟨k, k1, k2, k3⟩
          refine ⟨k, k1, (hkw k k1).mp k2, ?_⟩
          rw [show cn (c i) (p + 1) * 256 + k * 32 + b = (cn (c i) (p + 1) * 8 + k) * 32 + b by omega]
          exact (hF.2 i (by omega) _ (by omega)).mp ((FM.cl hb (by omega)).mpr (by rw [← Nat.add_assoc]; exact k3))
        · rintro ⟨k, k1, k2, k3⟩
          refine ⟨k, k1, (hkw k k1).mpr k2, ?_⟩
          rw [show cn (c i) (p + 1) * 256 + k * 32 + b = (cn (c i) (p + 1) * 8 + k) * 32 + b by omega] at k3
          have := (FM.cl hb (by omega)).mp ((hF.2 i (by omega) _ (by omega)).mpr k3)
          rw [← Nat.add_assoc] at this
          exact this
      rw [hex]
      exact ⟨fun a => ⟨a.1, fun _ => a.2, fun v => absurd v hl80⟩, fun a => ⟨a.1, a.2.1 ⟨z, z0⟩⟩⟩
  exact loop _ 0 (Nat.zero_add _) _ _ (fun b hb => ⟨fun _ q hq => absurd hq (Nat.not_lt_zero q), fun _ => bt_m1 hb⟩)
theorem c_isGood (hW : Wf M) (hP : PRG M 8 n c) (hV : ∀ k, k < n → VI n (c k)) (hF : FlM M n c) (hi : i < n) (h : K (some (.int (pI (goodS n c i)))) M) : sp_X1_isGood [.ref 449, .ref 8, .int (nI i)] M K := by
  refine wX1_isGood hW (fun {G} hc => ?_)
  have loop : ∀ j sh : Nat, sh + j = 7 → (∀ s', s' < sh → ¬ ∃ b, b < 32 ∧ ∀ q, q < (opL (cn (c i) 0)).length → gdQ n c i s' b q) → G 2 [some (.ref 449), some (.ref 8), some (.int (nI i)), some (.int (nI sh))] [] M := by
    intro j
    induction j with
    | zero =>
      intro sh hsh hno
      have : sh = 7 := by omega
      subst this
      refine eX1_isGood_2 hc hW ⟨fun _ => ?_, fun z => absurd (by decide) z⟩
      rw [pI_f (fun ⟨s', b, s1, b1, hh⟩ => hno s' s1 ⟨b, b1, hh⟩)] at h
      exact h
    | succ j ih =>
      intro sh hsh hno
      refine eX1_isGood_2 hc hW ⟨fun z => absurd ((nI_leI (a := 7) (by decide) (by omega)).mp z) (by omega), fun _ => c_goodLen hW hP hV hF hi (by omega) (fun w hw => rX1_isGood_8_4 hc hW ⟨fun z => ?_, fun z => ?_⟩)⟩
      · rw [nI_1]
        refine ih (sh + 1) (by omega) (fun s' hs' hb => ?_)
        by_cases e : s' = sh
        · subst e
          obtain ⟨b, b1, b2⟩ := hb
          have := (hw b b1).mpr b2
          rw [z, bt_0] at this
          exact absurd this (by decide)
        · exact hno s' (by omega) hb
      · have : ∃ b, b < 32 ∧ bt w b = true := by
          refine Classical.byContradiction (fun y => z (bt_z.mpr (fun b hb => ?_)))
          cases e : bt w b with
          | false => rfl
          | true => exact absurd ⟨b, hb, e⟩ y
        obtain ⟨b, b1, b2⟩ := this
        rw [pI_t ⟨sh, b, by omega, b1, (hw b b1).mp b2⟩] at h
        exact h
  exact loop 7 0 rfl (fun s' hs' => absurd hs' (Nat.not_lt_zero s'))
theorem FlM_ok : FlOK FlM := by
  intro S M M' n c hm hS hF
  have e : ∀ a j, 449 ≤ a → a ≤ 452 → gI M' a j = gI M a j := fun a j h1 h2 => hm.I (fun z => hS a z ⟨h1, h2⟩)
  refine ⟨fun k hk => by rw [e 451 _ (by decide) (by decide), e 452 _ (by decide) (by decide)]; exact hF.1 k hk, fun k hk f hf => ?_⟩
  rw [← hF.2 k hk f hf]
  unfold FM
  rw [e 451 _ (by decide) (by decide), e 450 _ (by decide) (by decide)]
/-- FLOW is known -/
theorem CI.flow {M' : Mem} (hW : Wf M) (hC : CI FlM M s) (hm : Mo (fun b => b = 449 ∨ flS b) M M') (h3 : gI M' 449 3 = 1) (hF : FlM M' (gPr s).1 (gPr s).2) : CI FlM M' s := by
  obtain ⟨⟨c1, c2, c3, c4, c5, c6⟩, cx⟩ := hC
  have nn : ∀ b, (b = 449 ∨ flS b) → 449 ≤ b ∧ b ≤ 452 := fun b hb => by unfold flS at hb; omega
  exact ⟨⟨c1.mo hm (fun z => by have := nn _ z; omega) (fun z => by have := nn _ z; omega), CPr.mo (s := s) hm (fun z => by have := nn _ z; omega) (fun z => by have := nn _ z; omega) (fun z => by have := nn _ z; omega) (fun z => by have := nn _ z; omega) (fun z => by have := nn _ z; omega) c2, c3.mo hm (fun z => by have := nn _ z; omega), c4.mo hm (fun z => by have := nn _ z; omega), c5.mo hm (fun z => by have := nn _ z; omega) (fun b hb => by have := nn _ hb; omega), ⟨Or.inr h3, fun _ => hF⟩⟩, cx.mo hW hm (fun b hb => by have := nn _ hb; omega)⟩
theorem rch_v (hP : n ≤ 100) (hF : FlM M n c) (hi : i < n) : q_X1_isReached (nI i) M ∧ (f_X1_isReached (nI i) M = 0 ↔ ¬ Fa n c i 2048) := by
  have hb := (hF.1 i (by omega)).1
  have h2 := hF.2 i (by omega) 2048 (by decide)
  rw [FM.r] at h2
  unfold q_X1_isReached f_X1_isReached
  rw [nI_clamp (by omega), ← h2]
  refine ⟨⟨vpN (by omega) (by decide), hb⟩, ?_⟩
  rcases hb with z | z
  · rw [z]; exact ⟨fun _ => by decide, fun _ => rfl⟩
  · rw [z]; exact ⟨fun y => absurd y (by decide), fun y => absurd rfl y⟩
theorem k_check (hW : Wf M) (hC : CI FlM M s) (h : ∀ M', Wf M' → Mo clsS M M' → CI FlM M' s → K (some (.int (sCheck s))) M') : sp_X12_check [.ref 0] M K := by
  have hP := hC.1.2.1.1
  have hV := hC.1.2.1.2.2.2.2.2.2.1
  have hn := hP.1
  refine wX12_check hW (fun {G} hc => c_follow hW hP hV hC.1.2.2.2.2.2 (fun M1 hW1 hm1 h3 hF => rX12_check_0_4 hc hW1 ?_))
  have hm1' : Mo clsS M M1 := hm1.mono (fun b hb => by unfold clsS; unfold flS at hb; omega)
  have h := h M1 hW1 hm1' (hC.flow hW hm1 h3 hF)
  have hP1 : PRG M1 8 (gPr s).1 (gPr s).2 := hP.mo hm1 (by unfold flS; decide) (by unfold flS; decide)
  unfold sCheck at h
  have loop : ∀ j k : Nat, k + j = (gPr s).1 → chkF (gPr s).1 (gPr s).2 j k = chkF (gPr s).1 (gPr s).2 (gPr s).1 0 → G 13 [some (.ref 0), some (.int (nI k))] [] M1 := by
    intro j
    induction j with
    | zero =>
      intro k hk e
      have e : 0 = chkF (gPr s).1 (gPr s).2 (gPr s).1 0 := e
      rw [← e] at h
      refine eX12_check_13 hc hW1 ?_
      rw [hP1.2.1]
      exact ⟨fun _ => h, fun z => absurd (nI_le (by omega) (by omega)) z⟩
    | succ j ih =>
      intro k hk e
      have e1 : chkF (gPr s).1 (gPr s).2 (j + 1) k = iT (Fa (gPr s).1 (gPr s).2 k 2048 ∧ ¬ goodS (gPr s).1 (gPr s).2 k) (k + 1) (chkF (gPr s).1 (gPr s).2 j (k + 1)) := rfl
      rw [e1] at e
      obtain ⟨q, r⟩ := rch_v (i := k) hn hF (by omega)
      have next : ¬ (Fa (gPr s).1 (gPr s).2 k 2048 ∧ ¬ goodS (gPr s).1 (gPr s).2 k) → G 13 [some (.ref 0), some (.int (nI k + (1 : Int32)))] [] M1 := fun z => by
        rw [iT_f z] at e
        rw [nI_1]
        exact ih (k + 1) (by omega) e
      refine eX12_check_13 hc hW1 ?_
      rw [hP1.2.1, r]
      refine ⟨fun z => absurd ((nI_leI (by omega) (by omega)).mp z) (by omega), fun _ => ⟨q, fun z => next (fun y => z y.1), fun z => c_isGood hW1 hP1 hV hF (by omega) (rX12_check_35_5 hc hW1 ⟨fun y => next (fun v => y (pI_f v.2)), fun y => ?_⟩)⟩⟩
      rw [iT_t ⟨Classical.not_not.mp z, pI_0.mp y⟩] at e
      rw [← e] at h
      rw [nI_1]
      exact h
  exact loop _ 0 (Nat.zero_add _) rfl
theorem wayN_s {v k : Nat} : fb_ct (fun q => pB' (fun q => Fa n c i (v * 256 + q)) q) (32 * (k + 1)) = fb_ct (fun q => pB' (fun q => Fa n c i (v * 256 + q)) q) (32 * k) + fb_ct (fun b => pB' (fun q => Fa n c i (v * 256 + q)) (32 * k + b)) 32 := by
  rw [show 32 * (k + 1) = 32 * k + 32 by omega, fb_ct_split]
theorem c_ways {v : Nat} (hW : Wf M) (hn : n ≤ 100) (hF : FlM M n c) (hi : i < n) (hv : v < 8) (h : K (some (.int (nI (wayN n c i v)))) M) : sp_X1_ways [.ref 449, .int (nI i), .int (nI v)] M K := by
  refine wX1_ways hW (fun {G} hc y hy => ?_)
  have ey : y = nI (i * 64 + v * 8) := by rw [hy, show (64 : Int32) = nI 64 from rfl, show (8 : Int32) = nI 8 from rfl, pk_mul, pk_mul, nI_add]
  rw [ey]
  have loop : ∀ j k : Nat, k + j = 8 → G 16 [some (.ref 449), some (.int (nI i)), some (.int (nI v)), some (.int (nI (i * 64 + v * 8))), some (.int (nI (fb_ct (fun q => pB' (fun q => Fa n c i (v * 256 + q)) q) (32 * k)))), some (.int (nI k))] [] M := by
    intro j
    induction j with
    | zero =>
      intro k hk
      have : k = 8 := by omega
      subst this
      exact eX1_ways_16 hc hW ⟨fun _ => h, fun z => absurd (by decide) z⟩
    | succ j ih =>
      intro k hk
      refine eX1_ways_16 hc hW ⟨fun z => absurd ((nI_leI (a := 8) (by decide) (by omega)).mp z) (by omega), fun _ => ?_⟩
      rw [nI_add, nI_clamp (by omega)]
      refine ⟨vpN (by omega) (by decide), fun y2 hy2 => ?_⟩
      have ec : cntW (gI M 450 (i * 64 + v * 8 + k)) = fb_ct (fun b => pB' (fun q => Fa n c i (v * 256 + q)) (32 * k + b)) 32 := by
        unfold cntW
        refine fb_ct_cong (fun b hb => ?_)
        have h1 := hF.2 i (by omega) ((v * 8 + k) * 32 + b) (by omega)
        rw [FM.cl hb (by omega), ← Nat.add_assoc] at h1
        have h2 : pB' (fun q => Fa n c i (v * 256 + q)) (32 * k + b) = true ↔ Fa n c i ((v * 8 + k) * 32 + b) := by
          rw [pB_i, show v * 256 + (32 * k + b) = (v * 8 + k) * 32 + b by omega]
        rw [← h2] at h1
        cases e : bt (gI M 450 (i * 64 + v * 8 + k)) b with
        | true => exact (h1.mp e).symm
        | false =>
          cases e2 : pB' (fun q => Fa n c i (v * 256 + q)) (32 * k + b) with
          | false => rfl
          | true => rw [h1.mpr e2] at e; exact absurd e (by decide)
      rw [bitCount_w, nI_add, ec, ← wayN_s] at hy2
      rw [hy2, nI_1]
      exact ih (k + 1) (by omega)
  exact loop 8 0 rfl
theorem k_flow {x w : Int32} (hW : Wf M) (hC : CI FlM M s) (h : ∀ M', Wf M' → Mo clsS M M' → CI FlM M' s → K (some (.int (sFlow x w s))) M') : sp_X12_flow [.ref 0, .int x, .int w] M K := by
  have hP := hC.1.2.1.1
  have hV := hC.1.2.1.2.2.2.2.2.2.1
  have hn := hP.1
  unfold sFlow at h
  have no : ¬ (inI x (gPr s).1 ∧ inI w 10) → K (some (.int (-1 : Int32))) M := fun z => by
    have hh := h M hW Mo.rf hC
    rw [iT_f z] at hh
    exact hh
  refine wX12_flow hW (fun {G} hc => ?_)
  rw [has_P hP.2.1 (by omega)]
  refine ⟨fun z => no (fun y => z y.1), fun hx => ⟨fun z => no (fun y => ((inI_le (N := 9) (by decide)).mp y.2).1 z), fun a => ⟨fun b => ?_, fun z => no (fun y => z ((inI_le (N := 9) (by decide)).mp y.2).2)⟩⟩⟩
  have hw : inI w 10 := (inI_le (N := 9) (by decide)).mpr ⟨a, b⟩
  have hxl := inI_lt hx
  have hwl := inI_lt hw
  refine c_follow hW hP hV hC.1.2.2.2.2.2 (fun M1 hW1 hm1 h3 hF => rX12_flow_23_4 hc hW1 ?_)
  have hm1' : Mo clsS M M1 := hm1.mono (fun b hb => by unfold clsS; unfold flS at hb; omega)
  have h := h M1 hW1 hm1' (hC.flow hW hm1 h3 hF)
  have hP1 : PRG M1 8 (gPr s).1 (gPr s).2 := hP.mo hm1 (by unfold flS; decide) (by unfold flS; decide)
  rw [iT_t ⟨hx, hw⟩] at h
  obtain ⟨q, r⟩ := rch_v (i := iv x) hn hF hxl
  rw [← inI_nI hx] at q r
  rw [r]
  refine ⟨q, fun z => ?_, fun z => by rw [iT_f z] at h; exact h⟩
  rw [iT_t (Classical.not_not.mp z)] at h
  refine ⟨fun n0 => ⟨fun n1 => ?_, fun e1 => ?_⟩, fun e0 => by rw [if_pos e0] at h; exact h⟩
  · rw [if_neg n0, if_neg n1] at h
    have w2 : 2 ≤ iv w := by
      rcases Nat.lt_or_ge (iv w) 2 with y | y
      · have : iv w = 0 ∨ iv w = 1 := by omega
        rcases this with u | u
        · exact absurd (by rw [inI_nI hw, u]; rfl) n0
        · exact absurd (by rw [inI_nI hw, u]; rfl) n1
      · exact y
    have ew : w - (2 : Int32) = nI (iv w - 2) := by
      conv => lhs; rw [inI_nI hw]
      rw [show (2 : Int32) = nI 2 from rfl, pk_sub w2]
    rw [ew]
    conv => rw [inI_nI hx]
    refine c_ways hW1 hn hF hxl (by omega) ?_
    conv => rw [← inI_nI hx]
    exact rX12_flow_81_6 hc hW1 h
  · rw [if_neg n0, if_pos e1] at h
    conv => rw [inI_nI hx]
    refine c_isGood hW1 hP1 hV hF hxl ?_
    conv => rw [← inI_nI hx]
    refine rX12_flow_58_5 hc hW1 ⟨fun y => ?_, fun y => ?_⟩
    · rw [y] at h; exact h
    · rw [pI_t (Classical.byContradiction (fun u => y (pI_f u)))] at h; exact h
end
end FLOW4
