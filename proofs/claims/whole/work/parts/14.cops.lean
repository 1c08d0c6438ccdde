section COPS
def w_gets (a : Nat) (K : KT) : KT := fun L st M => K L (.ref a :: st) M
/-- a constant of the enum -/
def isOp (a : Nat) : Prop := 100000 ≤ a ∧ a < 100068
def w_opword (K : KT) : KT := fun L st M => match st with
  | .ref a :: st => isOp a ∧ K L (.ref (100200 + wIx.getD (a - 100000) 0) :: st) M
  | _ => False
def w_opoperands (K : KT) : KT := fun L st M => match st with
  | .ref a :: st => isOp a ∧ K L (.ref (100200 + oIx.getD (a - 100000) 0) :: st) M
  | _ => False
def w_opmasked (K : KT) : KT := fun L st M => match st with
  | .ref a :: st => isOp a ∧ K L (.int (Int32.ofNat (mkT.getD (a - 100000) 0)) :: st) M
  | _ => False
def w_ordinal (K : KT) : KT := fun L st M => match st with
  | .ref a :: st => isOp a ∧ K L (.int (Int32.ofNat (a - 100000)) :: st) M
  | _ => False
def isTx (a : Nat) : Prop := 100200 ≤ a ∧ a < 100298
def isBy (a : Nat) : Prop := 100400 ≤ a ∧ a < 100498
def w_strvalue (K : KT) : KT := fun L st M => match st with
  | .ref a :: st => isTx a ∧ K L (.ref (a + 200) :: st) M
  | _ => False
def w_strcoder (K : KT) : KT := fun L st M => match st with
  | .ref a :: st => isTx a ∧ K L (.int 0 :: st) M
  | _ => False
def w_strld (K : KT) : KT := fun L st M => match st with
  | .int i :: .ref a :: st => isBy a ∧ vp_in i (tBy.getD (a - 100400) []).length ∧ K L (.int (Int32.ofNat ((tBy.getD (a - 100400) []).getD i.toNatClampNeg 0)) :: st) M
  | _ => False
def w_strlen (K : KT) : KT := fun L st M => match st with
  | .ref a :: st => isBy a ∧ K L (.int (Int32.ofNat (tBy.getD (a - 100400) []).length) :: st) M
  | _ => False
def w_swld (K : KT) : KT := fun L st M => match st with
  | .int i :: .ref 100101 :: st => vp_in i 68 ∧ K L (.int (Int32.ofNat (swT.getD i.toNatClampNeg 0)) :: st) M
  | _ => False
def w_opsld (K : KT) : KT := fun L st M => match st with
  | .int i :: .ref 100100 :: st => vp_in i 68 ∧ K L (.ref (100000 + i.toNatClampNeg) :: st) M
  | _ => False
def w_opslen (K : KT) : KT := fun L st M => match st with
  | .ref 100100 :: st => K L (.int 68 :: st) M
  | _ => False
/-- references are compared by their numbers: both stand for something -/
def isRf (M : Mem) : Option Nat → Prop
  | none => True
  | some a => a < 100000 ∨ isOp a
def rfV : Value → Option (Option Nat)
  | .null => some none
  | .ref a => some (some a)
  | _ => none
def w_acmp_eq (Kt Kf : KT) : KT := fun L st M => match st with
  | v :: u :: st => match rfV u, rfV v with
    | some x, some y => isRf M x ∧ isRf M y ∧ (x = y → Kt L st M) ∧ (¬ x = y → Kf L st M)
    | _, _ => False
  | _ => False
def w_acmp_ne (Kt Kf : KT) : KT := fun L st M => match st with
  | v :: u :: st => match rfV u, rfV v with
    | some x, some y => isRf M x ∧ isRf M y ∧ (¬ x = y → Kt L st M) ∧ (x = y → Kf L st M)
    | _, _ => False
  | _ => False
theorem nw_in {w : Wd} (hOk : Ok w) {x : Cond} {i : Nat} (h : nwL[i]? = some x) : x.before w.2.2.2.2 (wS w) = true := flat_of_before _ hOk.2.2.1 x (List.mem_of_getElem? h)
theorem tb_in {w : Wd} (hOk : Ok w) {x : Cond} {i : Nat} (h : lw_tbl[i]? = some x) : x.before w.2.2.2.2 (wS w) = true := hOk.2.1 x (List.mem_of_getElem? h)
theorem c_lt {k : Nat} (h : cOk k = true) : k < 1000 := by
  unfold cOk nTx at h
  simp at h
  omega
theorem c_ev {w : Wd} (hOk : Ok w) {k : Nat} (h : cOk k = true) : (cTm k).eval w.2.2.2.2 (wS w) none [] (wS w) = some (.ref (ad w (100000 + k))) := by
  have := hOk.2.2.2 k h
  unfold ad
  have h9 := c_lt h
  rw [if_neg (by omega), if_pos (by omega), show 100000 + k - 100000 = k by omega]
  exact this
theorem c_A (w : Wd) : ∀ a : Nat, a < (wS w).heap.size → ¬ Aw w a := fun _ h => Nat.not_le.mpr h
theorem cOF {w : Wd} {s : State} (hE : EnvW w s) {o n d : String} {v : Value} {q : Nat} (h : va_OF o n d v q (Aw w) (wS w) (wS w).heap) : va_OF o n d v q (Aw w) s s.heap := (va_OF.moved hE.1.alike h).kept (fun a h1 _ => hE.2.2 a h1)
theorem cT {w : Wd} {s : State} (hE : EnvW w s) {ty : FieldType} {t N : Nat} {f : Nat → Value} (h : va_T ty t N f (Aw w) (wS w) (wS w).heap) : va_T ty t N f (Aw w) s s.heap := (va_T.moved hE.1.alike h).kept (fun a h1 _ => hE.2.2 a h1)
theorem cZ {w : Wd} {s : State} (hE : EnvW w s) {C n d : String} {v : Value} (h : va_Z C n d v (Aw w) (wS w) (wS w).heap) : va_Z C n d v (Aw w) s s.heap := (va_Z.moved hE.1.alike h).kept (fun a h1 _ => hE.2.2 a h1)
theorem ev_eq {args : Array Value} {s : State} {t u : Term} {v : Value} (h : (Cond.eq t u).before args s = true) (hu : u.eval args s none [] s = some v) : t.eval args s none [] s = some v := by
  cases ht : t.eval args s none [] s with
  | none => simp [Cond.before, Cond.holds, Cond.value, ht, hu] at h
  | some x =>
    simp [Cond.before, Cond.holds, Cond.value, ht, hu] at h
    cases x <;> cases v <;> simp_all
theorem op_ev {w : Wd} (hOk : Ok w) {k : Nat} (hk : k < 68) : (opTm k).eval w.2.2.2.2 (wS w) none [] (wS w) = some (.ref (ad w (100000 + k))) := by
  have := c_ev hOk (k := k) (by unfold cOk; simp [hk])
  unfold cTm at this
  rw [if_pos (by omega)] at this
  exact this
theorem t_ev {w : Wd} (hOk : Ok w) {t : Nat} (ht : t < 98) : (tTm t).eval w.2.2.2.2 (wS w) none [] (wS w) = some (.ref (ad w (100200 + t))) := by
  have := c_ev hOk (k := 200 + t) (by unfold cOk nTx; simp; omega)
  unfold cTm at this
  rw [if_neg (by omega), if_neg (by omega), if_neg (by omega), if_pos (by omega), show 200 + t - 200 = t by omega, show 100000 + (200 + t) = 100200 + t by omega] at this
  exact this
theorem v_ev {w : Wd} (hOk : Ok w) {t : Nat} (ht : t < 98) : (vTm t).eval w.2.2.2.2 (wS w) none [] (wS w) = some (.ref (ad w (100400 + t))) := by
  have := c_ev hOk (k := 400 + t) (by unfold cOk nTx; simp; omega)
  unfold cTm at this
  rw [if_neg (by omega), if_neg (by omega), if_neg (by omega), if_neg (by omega), show 400 + t - 400 = t by omega, show 100000 + (400 + t) = 100400 + t by omega] at this
  exact this
theorem op_word {w : Wd} (hOk : Ok w) {k : Nat} (hk : k < 68) : va_OF "LaneMachine$Op" "word" "Ljava/lang/String;" (.ref (ad w (100200 + wIx.getD k 0))) (ad w (100000 + k)) (Aw w) (wS w) (wS w).heap :=
  vk_OFof (op_ev hOk hk) (ev_eq (nw_in hOk (nw_word k hk)) (t_ev hOk ((by decide +kernel : ∀ k, k < 68 → wIx.getD k 0 < 98) k hk))) (c_A w)
theorem op_oper {w : Wd} (hOk : Ok w) {k : Nat} (hk : k < 68) : va_OF "LaneMachine$Op" "operands" "Ljava/lang/String;" (.ref (ad w (100200 + oIx.getD k 0))) (ad w (100000 + k)) (Aw w) (wS w) (wS w).heap :=
  vk_OFof (op_ev hOk hk) (ev_eq (nw_in hOk (nw_oper k hk)) (t_ev hOk ((by decide +kernel : ∀ k, k < 68 → oIx.getD k 0 < 98) k hk))) (c_A w)
theorem op_mask {w : Wd} (hOk : Ok w) {k : Nat} (hk : k < 68) : va_OF "LaneMachine$Op" "masked" "Z" (.int (Int32.ofNat (mkT.getD k 0))) (ad w (100000 + k)) (Aw w) (wS w) (wS w).heap :=
  vk_OFof (op_ev hOk hk) (va_eqt (nw_in hOk (nw_mask k hk))) (c_A w)
theorem op_ord {w : Wd} (hOk : Ok w) {k : Nat} (hk : k < 68) : va_OF "java/lang/Enum" "ordinal" "I" (.int (Int32.ofNat k)) (ad w (100000 + k)) (Aw w) (wS w) (wS w).heap :=
  vk_OFof (op_ev hOk hk) (va_eqt (nw_in hOk (nw_ord k hk))) (c_A w)
theorem tx_val {w : Wd} (hOk : Ok w) {t : Nat} (ht : t < 98) : va_OF "java/lang/String" "value" "[B" (.ref (ad w (100400 + t))) (ad w (100200 + t)) (Aw w) (wS w) (wS w).heap :=
  vk_OFof (t_ev hOk ht) (v_ev hOk ht) (c_A w)
theorem tx_cod {w : Wd} (hOk : Ok w) {t : Nat} (ht : t < 98) : va_OF "java/lang/String" "coder" "B" (.int 0) (ad w (100200 + t)) (Aw w) (wS w) (wS w).heap :=
  vk_OFof (t_ev hOk ht) (va_eqt (nw_in hOk (nw_tco t ht))) (c_A w)
theorem tx_T {w : Wd} (hOk : Ok w) {t : Nat} (ht : t < 98) : va_T .byte (ad w (100400 + t)) (tBy.getD t []).length (fun j => .int (Int32.ofNat ((tBy.getD t []).getD j 0))) (Aw w) (wS w) (wS w).heap := by
  obtain ⟨q, h1, h2⟩ := va_Tof (tm := vTm t) (f := fun j => .int (Int32.ofNat ((tBy.getD t []).getD j 0))) (Nat.lt_of_lt_of_le ((by decide +kernel : ∀ t, t < 98 → (tBy.getD t []).length < 100) t ht) (by decide)) (nw_in hOk (nw_tar t ht)) (va_eqt (nw_in hOk (nw_tle t ht))) (fun j hj => va_eqt (nw_in hOk (nw_tel t ht j hj))) (c_A w)
  rw [v_ev hOk ht] at h1
  cases h1
  exact h2
theorem sw_T {w : Wd} (hOk : Ok w) : va_T .int (ad w 100101) 68 (fun j => .int (Int32.ofNat (swT.getD j 0))) (Aw w) (wS w) (wS w).heap := by
  obtain ⟨q, h1, h2⟩ := va_Tof (tm := cTm 101) (N := 68) (f := fun j => .int (Int32.ofNat (swT.getD j 0))) (by decide) (nw_in hOk (nw_misc 0 (by decide))) (va_eqt (nw_in hOk (nw_misc 1 (by decide)))) (fun j hj => va_eqt (nw_in hOk (nw_sw j hj))) (c_A w)
  rw [c_ev hOk (by decide)] at h1
  cases h1
  exact h2
theorem ops_T {w : Wd} (hOk : Ok w) : va_T (.object "LaneMachine$Op") (ad w 100100) 68 (fun j => .ref (ad w (100000 + j))) (Aw w) (wS w) (wS w).heap := by
  obtain ⟨q, h1, h2⟩ := va_Tof (tm := cTm 100) (N := 68) (f := fun j => .ref (ad w (100000 + j))) (by decide) (nw_in hOk (nw_misc 2 (by decide))) (va_eqt (nw_in hOk (nw_misc 3 (by decide)))) (fun j hj => ev_eq (nw_in hOk (nw_ops j hj)) (op_ev hOk hj)) (c_A w)
  rw [c_ev hOk (by decide)] at h1
  cases h1
  exact h2
theorem op_Z {w : Wd} (hOk : Ok w) {k : Nat} (hk : k < 68) : va_Z "LaneMachine$Op" (opNames.getD k "") "LLaneMachine$Op;" (.ref (ad w (100000 + k))) (Aw w) (wS w) (wS w).heap :=
  va_Zof (tb_in hOk (tb_lays k hk)) (tb_in hOk (tb_misc 3 (by decide))) (op_ev hOk hk) (c_A w)
theorem ops_Z {w : Wd} (hOk : Ok w) : va_Z "LaneMachine" "OPS" "[LLaneMachine$Op;" (.ref (ad w 100100)) (Aw w) (wS w) (wS w).heap :=
  va_Zof (tb_in hOk (tb_misc 0 (by decide))) (tb_in hOk (tb_misc 4 (by decide))) (c_ev hOk (k := 100) (by decide)) (c_A w)
theorem sw_Z {w : Wd} (hOk : Ok w) : va_Z "LaneMachine$1" "$SwitchMap$LaneMachine$Op" "[I" (.ref (ad w 100101)) (Aw w) (wS w) (wS w).heap :=
  va_Zof (tb_in hOk (tb_misc 1 (by decide))) (tb_in hOk (tb_misc 5 (by decide))) (c_ev hOk (k := 101) (by decide)) (c_A w)
theorem cs_Z {w : Wd} (hOk : Ok w) : va_Z "java/lang/String" "COMPACT_STRINGS" "Z" (.int 1) (Aw w) (wS w) (wS w).heap :=
  va_Zof (tb_in hOk (tb_misc 2 (by decide))) (tb_in hOk (tb_misc 6 (by decide))) (va_eqt (nw_in hOk (nw_misc 4 (by decide)))) (c_A w)
theorem op_inj {w : Wd} (hOk : Ok w) {i j : Nat} (hi : i < 68) (hj : j < 68) (e : ad w (100000 + i) = ad w (100000 + j)) : i = j := by
  have h1 := op_ord hOk hi
  have h2 := op_ord hOk hj
  rw [e] at h1
  obtain ⟨cf, k, fi, f, cell, a1, a2, a3, a4, a5, a6⟩ := h1
  obtain ⟨cf', k', fi', f', cell', b1, b2, b3, b4, b5, b6⟩ := h2
  rw [a1] at b1
  cases b1
  rw [a3] at b3
  cases b3
  rw [a5] at b5
  have := Value.int.inj (Option.some.inj b5)
  exact (nI_eq (by omega) (by omega)).mp this
theorem op_below {w : Wd} (hOk : Ok w) {i : Nat} (hi : i < 68) : ad w (100000 + i) < b0 w := by
  obtain ⟨cf, k, fi, f, cell, a1, a2, a3, a4, a5, a6⟩ := op_ord hOk hi
  exact Nat.not_le.mp a6
theorem ad_inj {w : Wd} (hOk : Ok w) {a b : Nat} (ha : a < 100000 ∨ isOp a) (hb : b < 100000 ∨ isOp b) (e : ad w a = ad w b) : a = b := by
  rcases ha with ha | ha <;> rcases hb with hb | hb
  · rw [ad_own ha, ad_own hb] at e
    omega
  · have := op_below hOk (i := b - 100000) (by have := hb.1; have := hb.2; omega)
    rw [show 100000 + (b - 100000) = b by have := hb.1; omega, ← e, ad_own ha] at this
    omega
  · have := op_below hOk (i := a - 100000) (by have := ha.1; have := ha.2; omega)
    rw [show 100000 + (a - 100000) = a by have := ha.1; omega, e, ad_own hb] at this
    omega
  · have := op_inj hOk (i := a - 100000) (j := b - 100000) (by have := ha.1; have := ha.2; omega) (by have := hb.1; have := hb.2; omega) (by rw [show 100000 + (a - 100000) = a by have := ha.1; omega, show 100000 + (b - 100000) = b by have := hb.1; omega]; exact e)
    have := ha.1
    have := hb.1
    omega
theorem op_O {w : Wd} (hOk : Ok w) {k : Nat} (hk : k < 68) : va_O "LaneMachine$Op" (ad w (100000 + k)) (Aw w) (wS w) (wS w).heap := by
  obtain ⟨a, c, cell, k9, q1, q2, q3, q4, q5, q6, -⟩ := Cond.exactly_spec (nw_in hOk (nw_exact k hk))
  rw [op_ev hOk hk] at q1
  cases q1
  exact ⟨cell, q3, q5, by rw [q6]; exact q2, c_A w _ (Array.getElem?_eq_some_iff.mp q3).1⟩
theorem tx_O {w : Wd} (hOk : Ok w) {k : Nat} (hk : k < 98) : va_O "java/lang/String" (ad w (100200 + k)) (Aw w) (wS w) (wS w).heap := by
  obtain ⟨a, c, cell, k9, q1, q2, q3, q4, q5, q6, -⟩ := Cond.exactly_spec (nw_in hOk (nw_tex k hk))
  rw [t_ev hOk hk] at q1
  cases q1
  exact ⟨cell, q3, q5, by rw [q6]; exact q2, c_A w _ (Array.getElem?_eq_some_iff.mp q3).1⟩
theorem cO {w : Wd} {s : State} (hE : EnvW w s) {E : String} {t : Nat} (h : va_O E t (Aw w) (wS w) (wS w).heap) : va_O E t (Aw w) s s.heap := (va_O.moved hE.1.alike h).kept (fun a h1 _ => hE.2.2 a h1)
variable {p : Program} {l : Launch} {e : Jvm.Env} {R : Room} {s : State} {m : MethodId} {args : Array Value} {below : List Frame} {meth : Method} {c : Code} {Q : State → Prop} {w : Wd} {cc : ByteArray} {own : String} {nL n0 n1 x9 : Nat}
theorem s_getsE (h : Cx p s m args c w cc own nL) {pc idx k : Nat} {K : KT} (hk9 : k < 68) (hl : Cond.fieldLink own idx "LaneMachine$Op" (opNames.getD k "") "LLaneMachine$Op;" ∈ lw_ok) (hd : decode cc pc = .ok (.getstatic idx, 3)) (hk : Sd (Gm p l e R s m args below meth c Q w nL n0 n1 x9) (pc + 3) K) : Sd (Gm p l e R s m args below meth c Q w nL n0 n1 x9) pc (w_gets (100000 + k) K) := by
  intro L st M hK ls H locs hL hR hS hn
  exact va_gets (ref := "LaneMachine$Op") h.1 h.2.1 (cZ h.2.2.2.2.2.2.1 (op_Z h.2.2.2.2.2.2.2 hk9)) hS h.2.2.2.1 (h.2.2.2.2.1 _ hl) (fun _ q => q) hd (hk _ _ _ hK ls H locs hL hR hS hn)
theorem s_getsOPS (h : Cx p s m args c w cc own nL) {pc idx : Nat} {K : KT} (hl : Cond.fieldLink own idx "LaneMachine" "OPS" "[LLaneMachine$Op;" ∈ lw_ok) (hd : decode cc pc = .ok (.getstatic idx, 3)) (hk : Sd (Gm p l e R s m args below meth c Q w nL n0 n1 x9) (pc + 3) K) : Sd (Gm p l e R s m args below meth c Q w nL n0 n1 x9) pc (w_gets 100100 K) := by
  intro L st M hK ls H locs hL hR hS hn
  exact va_gets (ref := "LaneMachine") h.1 h.2.1 (cZ h.2.2.2.2.2.2.1 (ops_Z h.2.2.2.2.2.2.2)) hS h.2.2.2.1 (h.2.2.2.2.1 _ hl) (fun _ q => q) hd (hk _ _ _ hK ls H locs hL hR hS hn)
theorem s_getsSW (h : Cx p s m args c w cc own nL) {pc idx : Nat} {K : KT} (hl : Cond.fieldLink own idx "LaneMachine$1" "$SwitchMap$LaneMachine$Op" "[I" ∈ lw_ok) (hd : decode cc pc = .ok (.getstatic idx, 3)) (hk : Sd (Gm p l e R s m args below meth c Q w nL n0 n1 x9) (pc + 3) K) : Sd (Gm p l e R s m args below meth c Q w nL n0 n1 x9) pc (w_gets 100101 K) := by
  intro L st M hK ls H locs hL hR hS hn
  exact va_gets (ref := "LaneMachine$1") h.1 h.2.1 (cZ h.2.2.2.2.2.2.1 (sw_Z h.2.2.2.2.2.2.2)) hS h.2.2.2.1 (h.2.2.2.2.1 _ hl) (fun _ q => q) hd (hk _ _ _ hK ls H locs hL hR hS hn)
theorem s_compact (h : Cx p s m args c w cc own nL) {pc idx : Nat} {K : KT} (hl : Cond.fieldLink own idx "java/lang/String" "COMPACT_STRINGS" "Z" ∈ lw_ok) (hd : decode cc pc = .ok (.getstatic idx, 3)) (hk : Sd (Gm p l e R s m args below meth c Q w nL n0 n1 x9) (pc + 3) K) : Sd (Gm p l e R s m args below meth c Q w nL n0 n1 x9) pc (w_ic 1 K) := by
  intro L st M hK ls H locs hL hR hS hn
  exact va_gets (ref := "java/lang/String") h.1 h.2.1 (cZ h.2.2.2.2.2.2.1 (cs_Z h.2.2.2.2.2.2.2)) hS h.2.2.2.1 (h.2.2.2.2.1 _ hl) (fun _ q => q) hd (hk _ _ _ hK ls H locs hL hR hS hn)
theorem s_getsOPSN (h : Cx p s m args c w cc own nL) {pc idx : Nat} {K : KT} {i9 : Nat} (hl : lw_tbl[i9]? = some (Cond.fieldLinkNest own idx "LaneMachine" "OPS" "[LLaneMachine$Op;" "LaneMachine")) (hd : decode cc pc = .ok (.getstatic idx, 3)) (hk : Sd (Gm p l e R s m args below meth c Q w nL n0 n1 x9) (pc + 3) K) : Sd (Gm p l e R s m args below meth c Q w nL n0 n1 x9) pc (w_gets 100100 K) := by
  intro L st M hK ls H locs hL hR hS hn
  exact va_getsN h.1 h.2.1 (cZ h.2.2.2.2.2.2.1 (ops_Z h.2.2.2.2.2.2.2)) hS h.2.2.2.1 (va_Nw.use rfl (va_Nw.warmF h.2.2.2.2.2.2.1.1 (va_Nw.of rfl (tb_in h.2.2.2.2.2.2.2 hl)))) (fun _ q => q) hd (hk _ _ _ hK ls H locs hL hR hS hn)
theorem s_opword (h : Cx p s m args c w cc own nL) {pc idx : Nat} {K : KT} (hl : Cond.fieldLink own idx "LaneMachine$Op" "word" "Ljava/lang/String;" ∈ lw_ok) (hd : decode cc pc = .ok (.getfield idx, 3)) (hk : Sd (Gm p l e R s m args below meth c Q w nL n0 n1 x9) (pc + 3) K) : Sd (Gm p l e R s m args below meth c Q w nL n0 n1 x9) pc (w_opword K) := by
  intro L st M hK
  unfold w_opword at hK
  split at hK
  · rename_i a st
    intro ls H locs hL hR hS hn
    obtain ⟨⟨h1, h2⟩, hK⟩ := hK
    obtain ⟨t, rfl⟩ := Nat.exists_eq_add_of_le h1
    try rw [show 100000 + t - 100000 = t by omega] at hK
    exact vk_getf (ref := "LaneMachine$Op") h.1 h.2.1 (cOF h.2.2.2.2.2.2.1 (op_word h.2.2.2.2.2.2.2 (by omega))) hS h.2.2.2.1 (h.2.2.2.2.1 _ hl) (fun _ q => q) hd (hk _ _ _ hK ls H locs hL hR hS hn)
  · exact hK.elim
theorem s_opoperands (h : Cx p s m args c w cc own nL) {pc idx : Nat} {K : KT} (hl : Cond.fieldLink own idx "LaneMachine$Op" "operands" "Ljava/lang/String;" ∈ lw_ok) (hd : decode cc pc = .ok (.getfield idx, 3)) (hk : Sd (Gm p l e R s m args below meth c Q w nL n0 n1 x9) (pc + 3) K) : Sd (Gm p l e R s m args below meth c Q w nL n0 n1 x9) pc (w_opoperands K) := by
  intro L st M hK
  unfold w_opoperands at hK
  split at hK
  · rename_i a st
    intro ls H locs hL hR hS hn
    obtain ⟨⟨h1, h2⟩, hK⟩ := hK
    obtain ⟨t, rfl⟩ := Nat.exists_eq_add_of_le h1
    try rw [show 100000 + t - 100000 = t by omega] at hK
    exact vk_getf (ref := "LaneMachine$Op") h.1 h.2.1 (cOF h.2.2.2.2.2.2.1 (op_oper h.2.2.2.2.2.2.2 (by omega))) hS h.2.2.2.1 (h.2.2.2.2.1 _ hl) (fun _ q => q) hd (hk _ _ _ hK ls H locs hL hR hS hn)
  · exact hK.elim
theorem s_opmasked (h : Cx p s m args c w cc own nL) {pc idx : Nat} {K : KT} (hl : Cond.fieldLink own idx "LaneMachine$Op" "masked" "Z" ∈ lw_ok) (hd : decode cc pc = .ok (.getfield idx, 3)) (hk : Sd (Gm p l e R s m args below meth c Q w nL n0 n1 x9) (pc + 3) K) : Sd (Gm p l e R s m args below meth c Q w nL n0 n1 x9) pc (w_opmasked K) := by
  intro L st M hK
  unfold w_opmasked at hK
  split at hK
  · rename_i a st
    intro ls H locs hL hR hS hn
    obtain ⟨⟨h1, h2⟩, hK⟩ := hK
    obtain ⟨t, rfl⟩ := Nat.exists_eq_add_of_le h1
    try rw [show 100000 + t - 100000 = t by omega] at hK
    exact vk_getf (ref := "LaneMachine$Op") h.1 h.2.1 (cOF h.2.2.2.2.2.2.1 (op_mask h.2.2.2.2.2.2.2 (by omega))) hS h.2.2.2.1 (h.2.2.2.2.1 _ hl) (fun _ q => q) hd (hk _ _ _ hK ls H locs hL hR hS hn)
  · exact hK.elim
theorem s_ordinal (h : Cx p s m args c w cc own nL) {pc idx : Nat} {K : KT} (hl : Cond.fieldLink own idx "java/lang/Enum" "ordinal" "I" ∈ lw_ok) (hd : decode cc pc = .ok (.getfield idx, 3)) (hk : Sd (Gm p l e R s m args below meth c Q w nL n0 n1 x9) (pc + 3) K) : Sd (Gm p l e R s m args below meth c Q w nL n0 n1 x9) pc (w_ordinal K) := by
  intro L st M hK
  unfold w_ordinal at hK
  split at hK
  · rename_i a st
    intro ls H locs hL hR hS hn
    obtain ⟨⟨h1, h2⟩, hK⟩ := hK
    obtain ⟨t, rfl⟩ := Nat.exists_eq_add_of_le h1
    try rw [show 100000 + t - 100000 = t by omega] at hK
    exact vk_getf (ref := "java/lang/Enum") h.1 h.2.1 (cOF h.2.2.2.2.2.2.1 (op_ord h.2.2.2.2.2.2.2 (by omega))) hS h.2.2.2.1 (h.2.2.2.2.1 _ hl) (fun _ q => q) hd (hk _ _ _ hK ls H locs hL hR hS hn)
  · exact hK.elim
theorem s_strcoder (h : Cx p s m args c w cc own nL) {pc idx : Nat} {K : KT} (hl : Cond.fieldLink own idx "java/lang/String" "coder" "B" ∈ lw_ok) (hd : decode cc pc = .ok (.getfield idx, 3)) (hk : Sd (Gm p l e R s m args below meth c Q w nL n0 n1 x9) (pc + 3) K) : Sd (Gm p l e R s m args below meth c Q w nL n0 n1 x9) pc (w_strcoder K) := by
  intro L st M hK
  unfold w_strcoder at hK
  split at hK
  · rename_i a st
    intro ls H locs hL hR hS hn
    obtain ⟨⟨h1, h2⟩, hK⟩ := hK
    obtain ⟨t, rfl⟩ := Nat.exists_eq_add_of_le h1
    try rw [show 100200 + t - 100200 = t by omega] at hK
    exact vk_getf (ref := "java/lang/String") h.1 h.2.1 (cOF h.2.2.2.2.2.2.1 (tx_cod h.2.2.2.2.2.2.2 (by omega))) hS h.2.2.2.1 (h.2.2.2.2.1 _ hl) (fun _ q => q) hd (hk _ _ _ hK ls H locs hL hR hS hn)
  · exact hK.elim
theorem s_strvalue (h : Cx p s m args c w cc own nL) {pc idx : Nat} {K : KT} (hl : Cond.fieldLink own idx "java/lang/String" "value" "[B" ∈ lw_ok) (hd : decode cc pc = .ok (.getfield idx, 3)) (hk : Sd (Gm p l e R s m args below meth c Q w nL n0 n1 x9) (pc + 3) K) : Sd (Gm p l e R s m args below meth c Q w nL n0 n1 x9) pc (w_strvalue K) := by
  intro L st M hK
  unfold w_strvalue at hK
  split at hK
  · rename_i a st
    intro ls H locs hL hR hS hn
    obtain ⟨⟨h1, h2⟩, hK⟩ := hK
    obtain ⟨t, rfl⟩ := Nat.exists_eq_add_of_le h1
    have hg := hk _ _ _ hK ls H locs hL hR hS hn
    rw [show 100200 + t + 200 = 100400 + t by omega] at hg
    exact vk_getf (ref := "java/lang/String") h.1 h.2.1 (cOF h.2.2.2.2.2.2.1 (tx_val h.2.2.2.2.2.2.2 (by omega))) hS h.2.2.2.1 (h.2.2.2.2.1 _ hl) (fun _ q => q) hd hg
  · exact hK.elim
theorem s_strld (h : Cx p s m args c w cc own nL) {pc : Nat} {K : KT} (hd : decode cc pc = .ok (.baload, 1)) (hk : Sd (Gm p l e R s m args below meth c Q w nL n0 n1 x9) (pc + 1) K) : Sd (Gm p l e R s m args below meth c Q w nL n0 n1 x9) pc (w_strld K) := by
  intro L st M hK
  unfold w_strld at hK
  split at hK
  · rename_i i a st
    intro ls H locs hL hR hS hn
    obtain ⟨⟨h1, h2⟩, hin, hK⟩ := hK
    obtain ⟨t, rfl⟩ := Nat.exists_eq_add_of_le h1
    rw [show 100400 + t - 100400 = t by omega] at hin hK
    exact va_tb h.1 h.2.1 (cT h.2.2.2.2.2.2.1 (tx_T h.2.2.2.2.2.2.2 (by omega))) hS hin rfl hd (hk _ _ _ hK ls H locs hL hR hS hn)
  · exact hK.elim
theorem s_strlen (h : Cx p s m args c w cc own nL) {pc : Nat} {K : KT} (hd : decode cc pc = .ok (.arraylength, 1)) (hk : Sd (Gm p l e R s m args below meth c Q w nL n0 n1 x9) (pc + 1) K) : Sd (Gm p l e R s m args below meth c Q w nL n0 n1 x9) pc (w_strlen K) := by
  intro L st M hK
  unfold w_strlen at hK
  split at hK
  · rename_i a st
    intro ls H locs hL hR hS hn
    obtain ⟨⟨h1, h2⟩, hK⟩ := hK
    obtain ⟨t, rfl⟩ := Nat.exists_eq_add_of_le h1
    rw [show 100400 + t - 100400 = t by omega] at hK
    exact va_tlen h.1 h.2.1 (cT h.2.2.2.2.2.2.1 (tx_T h.2.2.2.2.2.2.2 (by omega))) hS rfl hd (hk _ _ _ hK ls H locs hL hR hS hn)
  · exact hK.elim
theorem s_swld (h : Cx p s m args c w cc own nL) {pc : Nat} {K : KT} (hd : decode cc pc = .ok (.iaload, 1)) (hk : Sd (Gm p l e R s m args below meth c Q w nL n0 n1 x9) (pc + 1) K) : Sd (Gm p l e R s m args below meth c Q w nL n0 n1 x9) pc (w_swld K) := by
  intro L st M hK
  unfold w_swld at hK
  split at hK
  · intro ls H locs hL hR hS hn
    exact va_ti h.1 h.2.1 (cT h.2.2.2.2.2.2.1 (sw_T h.2.2.2.2.2.2.2)) hS hK.1 rfl hd (hk _ _ _ hK.2 ls H locs hL hR hS hn)
  · exact hK.elim
theorem s_opsld (h : Cx p s m args c w cc own nL) {pc : Nat} {K : KT} (hd : decode cc pc = .ok (.aaload, 1)) (hk : Sd (Gm p l e R s m args below meth c Q w nL n0 n1 x9) (pc + 1) K) : Sd (Gm p l e R s m args below meth c Q w nL n0 n1 x9) pc (w_opsld K) := by
  intro L st M hK
  unfold w_opsld at hK
  split at hK
  · intro ls H locs hL hR hS hn
    exact vb_tq h.1 h.2.1 (cT h.2.2.2.2.2.2.1 (ops_T h.2.2.2.2.2.2.2)) hS hK.1 rfl hd (hk _ _ _ hK.2 ls H locs hL hR hS hn)
  · exact hK.elim
theorem s_opslen (h : Cx p s m args c w cc own nL) {pc : Nat} {K : KT} (hd : decode cc pc = .ok (.arraylength, 1)) (hk : Sd (Gm p l e R s m args below meth c Q w nL n0 n1 x9) (pc + 1) K) : Sd (Gm p l e R s m args below meth c Q w nL n0 n1 x9) pc (w_opslen K) := by
  intro L st M hK
  unfold w_opslen at hK
  split at hK
  · intro ls H locs hL hR hS hn
    exact va_tlen h.1 h.2.1 (cT h.2.2.2.2.2.2.1 (ops_T h.2.2.2.2.2.2.2)) hS rfl hd (hk _ _ _ hK ls H locs hL hR hS hn)
  · exact hK.elim
theorem rfV_tr {w : Wd} {v : Value} {x : Option Nat} (h : rfV v = some x) : tr w v = va_rf (x.map (ad w)) := by
  cases v <;> simp [rfV] at h <;> (subst h; rfl)
theorem rf_inj {w : Wd} (hOk : Ok w) {M : Mem} {x y : Option Nat} (hx : isRf M x) (hy : isRf M y) : x.map (ad w) = y.map (ad w) ↔ x = y := by
  cases x <;> cases y <;> simp [isRf] at *
  exact ⟨fun e => ad_inj hOk hx hy e, fun e => by rw [e]⟩
theorem s_acmp_eq (h : Cx p s m args c w cc own nL) {pc tgt : Nat} {off : Int} {Kt Kf : KT} (hd : decode cc pc = .ok (.if_acmp .eq off, 3)) (ht : (pc : Int) + off = (tgt : Int)) (hkt : Sd (Gm p l e R s m args below meth c Q w nL n0 n1 x9) tgt Kt) (hkf : Sd (Gm p l e R s m args below meth c Q w nL n0 n1 x9) (pc + 3) Kf) : Sd (Gm p l e R s m args below meth c Q w nL n0 n1 x9) pc (w_acmp_eq Kt Kf) := by
  intro L st M hK
  unfold w_acmp_eq at hK
  split at hK
  · split at hK
    · rename_i v u st _ _ x y hx hy
      intro ls H locs hL hR hS hn
      obtain ⟨h1, h2, h3, h4⟩ := hK
      have hi := rf_inj (w := w) h.2.2.2.2.2.2.2 h1 h2
      rw [List.map_cons, List.map_cons, rfV_tr hx, rfV_tr hy]
      exact lv_acmp_eq h.1 h.2.1 hd ht (fun q => hkt _ _ _ (h3 (hi.mp q)) ls H locs hL hR hS hn) (fun q => hkf _ _ _ (h4 (fun z => q (hi.mpr z))) ls H locs hL hR hS hn)
    · exact hK.elim
  · exact hK.elim
theorem s_acmp_ne (h : Cx p s m args c w cc own nL) {pc tgt : Nat} {off : Int} {Kt Kf : KT} (hd : decode cc pc = .ok (.if_acmp .ne off, 3)) (ht : (pc : Int) + off = (tgt : Int)) (hkt : Sd (Gm p l e R s m args below meth c Q w nL n0 n1 x9) tgt Kt) (hkf : Sd (Gm p l e R s m args below meth c Q w nL n0 n1 x9) (pc + 3) Kf) : Sd (Gm p l e R s m args below meth c Q w nL n0 n1 x9) pc (w_acmp_ne Kt Kf) := by
  intro L st M hK
  unfold w_acmp_ne at hK
  split at hK
  · split at hK
    · rename_i v u st _ _ x y hx hy
      intro ls H locs hL hR hS hn
      obtain ⟨h1, h2, h3, h4⟩ := hK
      have hi := rf_inj (w := w) h.2.2.2.2.2.2.2 h1 h2
      rw [List.map_cons, List.map_cons, rfV_tr hx, rfV_tr hy]
      exact lv_acmp_ne h.1 h.2.1 hd ht (fun q => hkt _ _ _ (h3 (fun z => q (hi.mpr z))) ls H locs hL hR hS hn) (fun q => hkf _ _ _ (h4 (hi.mp q)) ls H locs hL hR hS hn)
    · exact hK.elim
  · exact hK.elim
end COPS
