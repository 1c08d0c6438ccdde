section CALLS
def spl : Nat → List Value → List Value → (List Value → List Value → Prop) → Prop
  | 0, acc, st, k => k acc st
  | _ + 1, _, [], _ => False
  | n + 1, acc, v :: st, k => spl n (v :: acc) st k
theorem spl_spec : ∀ (n : Nat) (acc st : List Value) (k : List Value → List Value → Prop), spl n acc st k → ∃ As st', As.length = n ∧ st = As.reverse ++ st' ∧ k (As ++ acc) st' := by
  intro n
  induction n with
  | zero => intro acc st k h; exact ⟨[], st, rfl, rfl, h⟩
  | succ n ih =>
    intro acc st k h
    cases st with
    | nil => exact h.elim
    | cons v st =>
      obtain ⟨As, st', h1, h2, h3⟩ := ih (v :: acc) st k h
      exact ⟨As ++ [v], st', by simp [h1], by simp [h2], by simpa using h3⟩
/-- the room that a stack takes -/
def zsT : List Value → Nat
  | [] => 0
  | .long _ :: r => zsT r + 2
  | .double _ :: r => zsT r + 2
  | _ :: r => zsT r + 1
theorem zsT_sum {w : Wd} : ∀ st : List Value, ((st.map (tr w)).map fun v => v.category).sum = zsT st := by
  intro st
  induction st with
  | nil => rfl
  | cons v st ih =>
    rw [List.map_cons, List.map_cons, List.sum_cons, ih]
    cases v <;> simp only [zsT, tr, Value.category] <;> omega
/-- a call: ci the receiver's kind, n the values that are handed over (the receiver too) -/
def w_callV (ci n : Nat) (sp : SP) (K : KT) : KT := fun L st M => spl n [] st (fun As st' => zsT st' ≤ 8 ∧ match As with
  | .ref a :: _ => okA M a ci ∧ sp As M (fun v M' => K L (v.toList ++ st') M')
  | _ => False)
def w_callS (n : Nat) (sp : SP) (K : KT) : KT := fun L st M => spl n [] st (fun As st' => zsT st' ≤ 8 ∧ sp As M (fun v M' => K L (v.toList ++ st') M'))
/-- a constructor that makes d objects; n1: how many there are at the caller's end -/
def w_callI (n d n1 : Nat) (sp : SP) (K : KT) : KT := fun L st M => spl n [] st (fun As st' => st'.length ≤ 4 ∧ gN M + d ≤ n1 ∧ gE M = true ∧ match As with
  | .ref _ :: _ => sp As M (fun v M' => K L (v.toList ++ st') M')
  | _ => False)
def w_iret (n1 : Nat × Bool) (K : RT) : KT := fun _ st M => match st with
  | [.int x] => M.1 = n1 ∧ K (some (.int x)) M
  | _ => False
def w_zret (n1 : Nat × Bool) (K : RT) : KT := fun _ st M => match st with
  | [.int x] => (x = 0 ∨ x = 1) ∧ M.1 = n1 ∧ K (some (.int x)) M
  | _ => False
def w_bret (n1 : Nat × Bool) (K : RT) : KT := fun _ st M => match st with
  | [.int x] => x.toInt8.toInt32 = x ∧ M.1 = n1 ∧ K (some (.int x)) M
  | _ => False
def w_cret (n1 : Nat × Bool) (K : RT) : KT := fun _ st M => match st with
  | [.int x] => (0 ≤ x ∧ x < 65536) ∧ M.1 = n1 ∧ K (some (.int x)) M
  | _ => False
def w_lret (n1 : Nat × Bool) (K : RT) : KT := fun _ st M => match st with
  | [.long x] => M.1 = n1 ∧ K (some (.long x)) M
  | _ => False
def w_dret (n1 : Nat × Bool) (K : RT) : KT := fun _ st M => match st with
  | [.double x] => M.1 = n1 ∧ K (some (.double x)) M
  | _ => False
def w_aret (n1 : Nat × Bool) (K : RT) : KT := fun _ st M => match st with
  | [.ref x] => M.1 = n1 ∧ K (some (.ref x)) M
  | _ => False
def w_vret (n1 : Nat × Bool) (K : RT) : KT := fun _ st M => match st with
  | [] => M.1 = n1 ∧ K none M
  | _ => False
def swG (G : Nat → KT) (x : Int32) : List (Int32 × Nat) → Nat → KT
  | [], d => G d
  | (v, t) :: r, d => fun L st M => (x = v → G t L st M) ∧ (¬ x = v → swG G x r d L st M)
def w_sw (G : Nat → KT) (ts : List (Int32 × Nat)) (d : Nat) : KT := fun L st M => match st with
  | .int x :: st => swG G x ts d L st M
  | _ => False
theorem EnvW_alike {w : Wd} {s U : State} {H : Heap} {locs : List Loc} (h : EnvW w s) (hS : va_S (Aw w) s.heap H locs) (hU : U.heap = H) (hv : s.WarmedH U.vm) : EnvW w U := by
  refine ⟨State.WarmedH.trans h.1 hv, by rw [hU]; exact Nat.le_trans h.2.1 hS.1, fun q hq => ?_⟩
  rw [hU, hS.2.1 q (Nat.lt_of_lt_of_le hq h.2.1) (Nat.not_le.mpr hq)]
  exact h.2.2 q hq
theorem lw_good {y : MethodName} {cc : ByteArray} {nL : Nat} {ret : Option FieldType} (h : Cond.code y cc nL ret ∈ lw_ok) : GoodIn lw_ok (.code y cc nL ret :: lw_ok) := by
  intro x hx
  have hx : x ∈ lw_ok := by
    rcases List.mem_cons.mp hx with rfl | hx
    · exact h
    · exact hx
  exact ⟨hx, good_of_word (List.mem_filter.mp hx).2⟩
theorem SS_mono {a b : Nat} (h : a ≤ b) : SS a ≤ SS b := by
  unfold SS
  obtain ⟨d, rfl⟩ := Nat.exists_eq_add_of_le h
  rw [List.take_add, List.map_append, List.sum_append]
  exact Nat.le_add_right _ _
/-- what stays of a method's own frame: its room -/
def Cr (R : Room) (d n0 n1 x9 : Nat) : Prop := n1 - n0 + 8 * x9 ≤ R.cells ∧ SS n1 - SS n0 + 64 * x9 ≤ R.slots ∧ d ≤ R.frames ∧ 64 * d ≤ R.locals ∧ n0 ≤ n1
theorem sum_cat : ∀ (st : List Value) (k : Nat), st.length ≤ k → (st.map fun v => v.category).sum ≤ 2 * k := by
  intro st
  induction st with
  | nil => intro k _; simp
  | cons v st ih =>
    intro k h
    cases k with
    | zero => simp at h
    | succ k =>
      have h1 := ih k (by simpa using h)
      have h2 : v.category ≤ 2 := by cases v <;> simp [Value.category]
      simp only [List.map_cons, List.sum_cons]
      omega
variable {p : Program} {l : Launch} {e : Jvm.Env} {R : Room} {s : State} {m : MethodId} {args : Array Value} {below : List Frame} {meth : Method} {c : Code} {Q : State → Prop} {w : Wd} {cc : ByteArray} {own : String} {nL n0 n1 x9 : Nat}
theorem run_go {H : Heap} {locs : List Loc} {cells slots mc ms : Nat} {n2 : Nat × Bool} {K : RT} {pc : Nat} {ls : Array Slot} {rest st0 : List Value} {a : Array Value} (hr : va_Run p l e R s m args below meth c H locs cells slots mc ms (F0 m pc ls st0) rest (Qcm w n2 K a) (Aw w)) (hS : va_S (Aw w) s.heap H locs)
    (kk : ∀ (v : Option Value) (M' : Mem) (H1 : Heap) (locs1 : List Loc), K v M' → M'.1 = n2 → Rl w M' H1 → va_S (Aw w) s.heap H1 locs1 → W p l e R s m args below meth c H1 locs1 (cells + mc) (slots + ms) Q (F0 m (pc + 3) ls ((v.map (tr w)).toList ++ rest))) : W p l e R s m args below meth c H locs cells slots Q (F0 m pc ls st0) := by
  intro T hT X
  obtain ⟨v, st₀, t, T', L, h0, X', hL, e1, e2, ⟨⟨v', M', hv, hK, hN, hR⟩, hz, hk⟩, st⟩ := hr T hT X
  cases hv
  rw [h0] at hz hk
  obtain ⟨t2, a1, b1⟩ := kk v' M' T'.heap (locs ++ L) hK hN (by rw [e1]; exact hR)
    ⟨Nat.le_trans hS.1 (by rw [e1]; exact hz), fun q h1 h2 => by rw [e1, hk q (Nat.lt_of_lt_of_le h1 hS.1) h2]; exact hS.2.1 q h1 h2, fun q hq => by
      rcases List.mem_append.mp hq with h | h
      · exact hS.2.2 q h
      · exact hL q h⟩ T' rfl X'
  exact ⟨t2, st t2 a1, b1⟩
theorem Pcm_blind {As : List Value} {M : Mem} : FrameBlind (Pcm w As M) := by
  rintro a U g mk ⟨h1, h2, h3, h4, h5⟩
  exact ⟨h1, h2, va_K.moved (u := U) (U := U.calling g mk a) (Vm.Alike.refl U.vm) h3, h4, h5⟩
theorem Pcm_at {As : List Value} {M : Mem} {H : Heap} {locs : List Loc} (h : Cx p s m args c w cc own nL) (hR : Rl w M H) (hS : va_S (Aw w) s.heap H locs) (hn : n0 ≤ gN M ∧ (gE M = true → s.heap.size = b0 w + n0) ∧ gN M ≤ n1 ∧ (gE M = true → x9 = 0)) (hsz : gE M = true → H.size ≤ s.heap.size + (gN M - n0)) (U : State) (hU : U.heap = H) (hW : s.WarmedH U.vm) : Pcm w As M (As.map (tr w)).toArray U := by
  refine ⟨rfl, by rw [hU]; exact hR, va_K.moved hW.alike h.2.2.2.2.2.1, EnvW_alike h.2.2.2.2.2.2.1 hS hU hW, fun hE => ?_⟩
  rw [hU]
  have h1 := hn.2.1 hE
  have hsz := hsz hE
  have h2 : b0 w + gN M ≤ H.size := by
    cases hz : gN M with
    | zero => rw [hz] at hn; have := hS.1; omega
    | succ k =>
      have hlt := (hR.1 k _ (cells_get (by omega))).lt
      dsimp only at hlt
      omega
  omega
theorem s_callV (h : Cx p s m args c w cc own nL) {d d' : Nat} (hr : Cr R d n0 n1 x9) {pc idx ci n : Nat} {K : KT} {sp : SP} {y : MethodName} {yc : ByteArray} {yL : Nat} {ret : Option FieldType} (hC : Ctr y yc yL ret d' 0 sp)
    (hc : (vwCl[ci + 3]?).map (fun q => q.1) = some y.cls) (hci : ci ≤ 10) (hl : Cond.methodLink own idx y ∈ lw_ok) (hi : Cond.instanceMethod y ∈ lw_ok) (hse : Cond.selects y.cls y y ∈ lw_ok) (hini : Cond.initialized y.cls ∈ lw_ok) (hco : Cond.code y yc yL ret ∈ lw_ok)
    (hd9 : y.cls ≠ "java/lang/invoke/MethodHandle" ∧ y.cls ≠ "java/lang/invoke/VarHandle" ∧ (parseMethodDescriptor y.desc).map (fun d => d.parameters.length) = some n) (hdd : d' < d) (hyL : yL ≤ 45)
    (hd : decode cc pc = .ok (.invokevirtual idx, 3)) (hk : Sd (Gm p l e R s m args below meth c Q w nL n0 n1 x9) (pc + 3) K) : Sd (Gm p l e R s m args below meth c Q w nL n0 n1 x9) pc (w_callV ci (n + 1) sp K) := by
  intro L st M hK
  obtain ⟨As, st', hlen, rfl, hle, hK⟩ := spl_spec _ _ _ _ hK
  rw [List.append_nil] at hK
  cases As with
  | nil => exact hK.elim
  | cons a0 As =>
    cases a0 with
    | ref a =>
      intro ls H locs hL hR hS hn
      obtain ⟨hA, hK⟩ := hK
      have ha := okA_lt hR hA (by omega)
      obtain ⟨hr1, hr2, hr3, hr4, h01⟩ := hr
      cases hv : vwCl[ci + 3]? with
      | none => rw [hv] at hc; cases hc
      | some q =>
        rw [hv] at hc
        have hq : q.1 = y.cls := Option.some.inj hc
        have he : (cells w M (gN M))[a]? = some (ad w a, .inr (ci + 3, flds w M a ci)) := by rw [cells_get ha, ent_obj hA.1 hci, ad_own (by have := hR.2.1; omega)]
        have hrecv := va_recv h.2.2.2.2.2.1 hR.1 hv he
        rw [hq] at hrecv
        have hM := hC l w _ M _ h.2.2.2.2.2.2.2 hK
        rw [Nat.add_zero, Nat.sub_self] at hM
        refine W_sz (fun hsz0 => ?_)
        have hsz : gE M = true → H.size ≤ s.heap.size + (gN M - n0) := fun hE => by have := hn.2.2.2 hE; subst this; simpa using hsz0
        have hcl := List.length_cons ▸ hlen
        rw [show List.map (tr w) ((Value.ref a :: As).reverse ++ st') = (As.map (tr w)).reverse ++ .ref (ad w a) :: st'.map (tr w) by simp [tr]]
        refine run_go (va_runV (As := As.map (tr w)) (rest := st'.map (tr w)) (n := n) ⟨h.1, h.2.1, h.2.2.1, h.2.2.2.1, h.2.2.2.2.1⟩ hM (cwV (C := y.cls) n h.2.2.2.2.1 ?_ rfl rfl rfl ⟨rfl, hd9⟩ ⟨?_, ?_⟩) ⟨Pcm_blind, hrecv, fun U hU hW => Pcm_at h hR hS hn hsz U hU hW⟩ rfl (by simp at hlen ⊢; exact hlen) hL.1 rfl (lv_room ?_) hd ⟨?_, ?_⟩) hS (fun v M' H1 locs1 hKv hN hR1 hS1 => ?_)
        · intro x hx
          rcases List.mem_append.mp hx with hx | hx
          · have hx : x ∈ lw_ok := by
              simp only [List.mem_cons, List.not_mem_nil, or_false] at hx
              rcases hx with rfl | rfl | rfl | rfl
              · exact hl
              · exact hi
              · exact hse
              · exact hini
            exact ⟨hx, good_of_word (List.mem_filter.mp hx).2⟩
          · exact lw_good hco x hx
        · show d' + 1 ≤ R.frames
          omega
        · show 8 + (yL + 11) + 64 * d' ≤ R.locals
          omega
        · exact Nat.le_trans (Nat.le_of_eq (zsT_sum st')) hle
        · show gN M - n0 + 8 * x9 + 0 ≤ R.cells
          omega
        · show SS (gN M) - SS n0 + 64 * x9 + 0 ≤ R.slots
          have := SS_mono hn.2.2.1
          omega
        · have hN1 : gN M' = gN M := congrArg Prod.fst hN
          have hE1 : gE M' = gE M := congrArg Prod.snd hN
          have hg := hk _ _ _ hKv ls H1 locs1 hL hR1 hS1 (by rw [hN1, hE1]; exact hn)
          rw [hN1] at hg
          rw [show (v.map (tr w)).toList ++ st'.map (tr w) = (v.toList ++ st').map (tr w) by cases v <;> rfl]
          exact hg
    | _ => exact hK.elim
theorem s_callS (h : Cx p s m args c w cc own nL) {d d' : Nat} (hr : Cr R d n0 n1 x9) {pc idx n : Nat} {K : KT} {sp : SP} {y : MethodName} {yc : ByteArray} {yL : Nat} {ret : Option FieldType} (hC : Ctr y yc yL ret d' 0 sp)
    (hl : Cond.methodLink own idx y ∈ lw_ok) (hi : Cond.static y ∈ lw_ok) (hini : Cond.initialized y.cls ∈ lw_ok) (hco : Cond.code y yc yL ret ∈ lw_ok)
    (hd9 : y.cls ≠ "java/lang/invoke/MethodHandle" ∧ y.cls ≠ "java/lang/invoke/VarHandle" ∧ (parseMethodDescriptor y.desc).map (fun d => d.parameters.length) = some n) (hdd : d' < d) (hyL : yL ≤ 45)
    (hd : decode cc pc = .ok (.invokestatic idx, 3)) (hk : Sd (Gm p l e R s m args below meth c Q w nL n0 n1 x9) (pc + 3) K) : Sd (Gm p l e R s m args below meth c Q w nL n0 n1 x9) pc (w_callS n sp K) := by
  intro L st M hK
  obtain ⟨As, st', hlen, rfl, hle, hK⟩ := spl_spec _ _ _ _ hK
  rw [List.append_nil] at hK
  intro ls H locs hL hR hS hn
  obtain ⟨hr1, hr2, hr3, hr4, h01⟩ := hr
  have hM := hC l w _ M _ h.2.2.2.2.2.2.2 hK
  rw [Nat.add_zero, Nat.sub_self] at hM
  refine W_sz (fun hsz0 => ?_)
  have hsz : gE M = true → H.size ≤ s.heap.size + (gN M - n0) := fun hE => by have := hn.2.2.2 hE; subst this; simpa using hsz0
  rw [show List.map (tr w) (As.reverse ++ st') = (As.map (tr w)).reverse ++ st'.map (tr w) by simp]
  refine run_go (va_runS (As := As.map (tr w)) (rest := st'.map (tr w)) (n := n) ⟨h.1, h.2.1, h.2.2.1, h.2.2.2.1, h.2.2.2.2.1⟩ hM ⟨callB_of n h.2.2.2.2.1 (lw_good hco) rfl rfl rfl (h.2.2.2.2.1 _ hini) (h.2.2.2.2.1 _ hl) hd9 ⟨?_, ?_⟩, h.2.2.2.2.1 _ hi⟩ ⟨Pcm_blind, fun U hU hW => Pcm_at h hR hS hn hsz U hU hW⟩ rfl (by simpa using hlen) hL.1 rfl (lv_room ?_) hd ⟨?_, ?_⟩) hS (fun v M' H1 locs1 hKv hN hR1 hS1 => ?_)
  · show d' + 1 ≤ R.frames
    omega
  · show 8 + (yL + 11) + 64 * d' ≤ R.locals
    omega
  · exact Nat.le_trans (Nat.le_of_eq (zsT_sum st')) hle
  · show gN M - n0 + 8 * x9 + 0 ≤ R.cells
    omega
  · show SS (gN M) - SS n0 + 64 * x9 + 0 ≤ R.slots
    have := SS_mono hn.2.2.1
    omega
  · have hN1 : gN M' = gN M := congrArg Prod.fst hN
    have hE1 : gE M' = gE M := congrArg Prod.snd hN
    have hg := hk _ _ _ hKv ls H1 locs1 hL hR1 hS1 (by rw [hN1, hE1]; exact hn)
    rw [hN1] at hg
    rw [show (v.map (tr w)).toList ++ st'.map (tr w) = (v.toList ++ st').map (tr w) by cases v <;> rfl]
    exact hg
/-- how a method ends: its type, no lock, and what its end says -/
def Re (p : Program) (l : Launch) (e : Jvm.Env) (R : Room) (s : State) (m : MethodId) (args : Array Value) (below : List Frame) (meth : Method) (c : Code) (Q : State → Prop) (w : Wd) (n0 : Nat) (t1 : Nat × Bool) (K : RT) (ret : Option FieldType) : Prop :=
  meth.sig.returnType = ret ∧ meth.locks = false ∧ ∀ (H : Heap) (locs : List Loc) (g : JFrame), W p l e R s m args below meth c H locs (t1.1 - n0) (SS t1.1 - SS n0) (MQ below (Qcm w t1 K) args s (t1.1 - n0) (SS t1.1 - SS n0) (Aw w)) g → W p l e R s m args below meth c H locs (t1.1 - n0) (SS t1.1 - SS n0) Q g
theorem s_iret (h : Cx p s m args c w cc own nL) {t1 : Nat × Bool} {K : RT} (hre : Re p l e R s m args below meth c Q w n0 t1 K (some .int)) {pc : Nat} (hd : decode cc pc = .ok (.ireturn, 1)) : Sd (Gm p l e R s m args below meth c Q w nL n0 n1 0) pc (w_iret t1 K) := by
  intro L st M hK
  unfold w_iret at hK
  split at hK
  · rename_i x
    intro ls H locs hL hR hS hn
    obtain ⟨h1, h2, h3⟩ := hre
    have hN1 : gN M = t1.1 := congrArg Prod.fst hK.1
    rw [hN1]
    exact h3 H locs _ (W.iret h.1 h.2.1 h1 (fun t ht hW => ⟨⟨_, M, rfl, hK.2, hK.1, by rw [ht]; exact hR⟩, hS.F ht⟩) hS.2.2 hd h2)
  · exact hK.elim
theorem s_zret (h : Cx p s m args c w cc own nL) {t1 : Nat × Bool} {K : RT} (hre : Re p l e R s m args below meth c Q w n0 t1 K (some .boolean)) {pc : Nat} (hd : decode cc pc = .ok (.ireturn, 1)) : Sd (Gm p l e R s m args below meth c Q w nL n0 n1 0) pc (w_zret t1 K) := by
  intro L st M hK
  unfold w_zret at hK
  split at hK
  · rename_i x
    intro ls H locs hL hR hS hn
    obtain ⟨h1, h2, h3⟩ := hre
    have hN1 : gN M = t1.1 := congrArg Prod.fst hK.2.1
    rw [hN1]
    exact h3 H locs _ (W.zret h.1 h.2.1 h1 (nz_fit hK.1).1 (fun t ht hW => ⟨⟨_, M, rfl, hK.2.2, hK.2.1, by rw [ht]; exact hR⟩, hS.F ht⟩) hS.2.2 hd h2)
  · exact hK.elim
theorem s_bret (h : Cx p s m args c w cc own nL) {t1 : Nat × Bool} {K : RT} (hre : Re p l e R s m args below meth c Q w n0 t1 K (some .byte)) {pc : Nat} (hd : decode cc pc = .ok (.ireturn, 1)) : Sd (Gm p l e R s m args below meth c Q w nL n0 n1 0) pc (w_bret t1 K) := by
  intro L st M hK
  unfold w_bret at hK
  split at hK
  · rename_i x
    intro ls H locs hL hR hS hn
    obtain ⟨h1, h2, h3⟩ := hre
    have hN1 : gN M = t1.1 := congrArg Prod.fst hK.2.1
    rw [hN1]
    exact h3 H locs _ (W.zret h.1 h.2.1 h1 (show narrow .byte (.int x) = .int x from congrArg Value.int hK.1) (fun t ht hW => ⟨⟨_, M, rfl, hK.2.2, hK.2.1, by rw [ht]; exact hR⟩, hS.F ht⟩) hS.2.2 hd h2)
  · exact hK.elim
theorem s_cret (h : Cx p s m args c w cc own nL) {t1 : Nat × Bool} {K : RT} (hre : Re p l e R s m args below meth c Q w n0 t1 K (some .char)) {pc : Nat} (hd : decode cc pc = .ok (.ireturn, 1)) : Sd (Gm p l e R s m args below meth c Q w nL n0 n1 0) pc (w_cret t1 K) := by
  intro L st M hK
  unfold w_cret at hK
  split at hK
  · rename_i x
    intro ls H locs hL hR hS hn
    obtain ⟨h1, h2, h3⟩ := hre
    have hN1 : gN M = t1.1 := congrArg Prod.fst hK.2.1
    rw [hN1]
    exact h3 H locs _ (W.zret h.1 h.2.1 h1 (nc_fit hK.1).1 (fun t ht hW => ⟨⟨_, M, rfl, hK.2.2, hK.2.1, by rw [ht]; exact hR⟩, hS.F ht⟩) hS.2.2 hd h2)
  · exact hK.elim
theorem s_lret (h : Cx p s m args c w cc own nL) {t1 : Nat × Bool} {K : RT} (hre : Re p l e R s m args below meth c Q w n0 t1 K (some .long)) {pc : Nat} (hd : decode cc pc = .ok (.lreturn, 1)) : Sd (Gm p l e R s m args below meth c Q w nL n0 n1 0) pc (w_lret t1 K) := by
  intro L st M hK
  unfold w_lret at hK
  split at hK
  · rename_i x
    intro ls H locs hL hR hS hn
    obtain ⟨h1, h2, h3⟩ := hre
    have hN1 : gN M = t1.1 := congrArg Prod.fst hK.1
    rw [hN1]
    exact h3 H locs _ (W.lret h.1 h.2.1 h1 (fun t ht hW => ⟨⟨_, M, rfl, hK.2, hK.1, by rw [ht]; exact hR⟩, hS.F ht⟩) hS.2.2 hd h2)
  · exact hK.elim
theorem s_dret (h : Cx p s m args c w cc own nL) {t1 : Nat × Bool} {K : RT} (hre : Re p l e R s m args below meth c Q w n0 t1 K (some .double)) {pc : Nat} (hd : decode cc pc = .ok (.dreturn, 1)) : Sd (Gm p l e R s m args below meth c Q w nL n0 n1 0) pc (w_dret t1 K) := by
  intro L st M hK
  unfold w_dret at hK
  split at hK
  · rename_i x
    intro ls H locs hL hR hS hn
    obtain ⟨h1, h2, h3⟩ := hre
    have hN1 : gN M = t1.1 := congrArg Prod.fst hK.1
    rw [hN1]
    exact h3 H locs _ (W.dret h.1 h.2.1 h1 (fun t ht hW => ⟨⟨_, M, rfl, hK.2, hK.1, by rw [ht]; exact hR⟩, hS.F ht⟩) hS.2.2 hd h2)
  · exact hK.elim
theorem s_aret (h : Cx p s m args c w cc own nL) {t1 : Nat × Bool} {K : RT} {rt : FieldType} (hrt : (∃ n, rt = .object n) ∨ ∃ t, rt = .array t) (hre : Re p l e R s m args below meth c Q w n0 t1 K (some rt)) {pc : Nat} (hd : decode cc pc = .ok (.areturn, 1)) : Sd (Gm p l e R s m args below meth c Q w nL n0 n1 0) pc (w_aret t1 K) := by
  intro L st M hK
  unfold w_aret at hK
  split at hK
  · rename_i x
    intro ls H locs hL hR hS hn
    obtain ⟨h1, h2, h3⟩ := hre
    have hN1 : gN M = t1.1 := congrArg Prod.fst hK.1
    rw [hN1]
    exact h3 H locs _ (W.aret (v := .ref (ad w x)) h.1 h.2.1 h1 hrt (Or.inr ⟨_, rfl⟩) (fun t ht hW => ⟨⟨_, M, rfl, hK.2, hK.1, by rw [ht]; exact hR⟩, hS.F ht⟩) hS.2.2 hd h2)
  · exact hK.elim
theorem s_vret (h : Cx p s m args c w cc own nL) {t1 : Nat × Bool} {K : RT} (hre : Re p l e R s m args below meth c Q w n0 t1 K none) {pc : Nat} (hd : decode cc pc = .ok (.return_, 1)) : Sd (Gm p l e R s m args below meth c Q w nL n0 n1 0) pc (w_vret t1 K) := by
  intro L st M hK
  unfold w_vret at hK
  split at hK
  · intro ls H locs hL hR hS hn
    obtain ⟨h1, h2, h3⟩ := hre
    have hN1 : gN M = t1.1 := congrArg Prod.fst hK.1
    rw [hN1]
    exact h3 H locs _ (W.vret h.1 h.2.1 h1 (fun t ht hW => ⟨⟨_, M, rfl, hK.2, hK.1, by rw [ht]; exact hR⟩, hS.F ht⟩) hS.2.2 hd h2)
  · exact hK.elim
/-- switches: the case values and where they lead -/
def tabB (pc : Nat) (dflt lo hi : Int) (offs : List Int) (ts : List (Int32 × Nat)) (d : Nat) : Bool :=
  decide ((pc : Int) + dflt = (d : Int)) && decide (hi = lo + offs.length - 1) && decide (ts = offs.mapIdx (fun i o => (Int32.ofInt (lo + i), ((pc : Int) + o).toNat))) && decide (∀ o ∈ offs, 0 ≤ (pc : Int) + o) && decide (-2147483648 ≤ lo) && decide (hi ≤ 2147483647)
def lookB (pc : Nat) (dflt : Int) (ps : List (Int × Int)) (ts : List (Int32 × Nat)) (d : Nat) : Bool :=
  decide ((pc : Int) + dflt = (d : Int)) && decide (ts = ps.map (fun q => (Int32.ofInt q.1, ((pc : Int) + q.2).toNat))) && decide (∀ q ∈ ps, 0 ≤ (pc : Int) + q.2 ∧ -2147483648 ≤ q.1 ∧ q.1 ≤ 2147483647) && (ps.zip (ps.drop 1)).all (fun (a, next) => a.1 < next.1)
theorem i32_lit {z : Int} (h1 : -2147483648 ≤ z) (h2 : z ≤ 2147483647) (x : Int32) : x = Int32.ofInt z ↔ x.toInt = z := by
  constructor
  · rintro rfl
    exact Int32.toInt_ofInt_of_le (by simpa using h1) (by omega)
  · intro h
    rw [← h]
    simp
theorem swG_look {G : Nat → KT} {x : Int32} {pc d : Nat} {dflt : Int} (hd : (pc : Int) + dflt = (d : Int)) : ∀ (ps : List (Int × Int)), (∀ q ∈ ps, 0 ≤ (pc : Int) + q.2 ∧ -2147483648 ≤ q.1 ∧ q.1 ≤ 2147483647) → ∀ {L : LocS} {st : List Value} {M : Mem}, swG G x (ps.map (fun q => (Int32.ofInt q.1, ((pc : Int) + q.2).toNat))) d L st M → ∃ t : Nat, (pc : Int) + Op.lookupswitch.offset ps dflt x.toInt = (t : Int) ∧ G t L st M := by
  intro ps
  induction ps with
  | nil => intro _ L st M h; exact ⟨d, hd, h⟩
  | cons q ps ih =>
    intro hq L st M h
    obtain ⟨q1, q2, q3⟩ := hq q List.mem_cons_self
    simp only [List.map_cons, swG] at h
    rw [Op.lookupswitch.offset_cons]
    by_cases hx : x = Int32.ofInt q.1
    · rw [if_pos ((i32_lit q2 q3 x).mp hx).symm]
      exact ⟨_, by omega, h.1 hx⟩
    · rw [if_neg (fun z => hx ((i32_lit q2 q3 x).mpr z.symm))]
      exact ih (fun r hr => hq r (List.mem_cons_of_mem _ hr)) (h.2 hx)
theorem s_look (h : Cx p s m args c w cc own nL) {pc d len : Nat} {dflt : Int} {ps : Array (Int × Int)} {ts : List (Int32 × Nat)} {G : Nat → KT} (hG : ∀ t, Sd (Gm p l e R s m args below meth c Q w nL n0 n1 x9) t (G t)) (hc : lookB pc dflt ps.toList ts d = true) (hd : decode cc pc = .ok (.lookupswitch dflt ps, len)) : Sd (Gm p l e R s m args below meth c Q w nL n0 n1 x9) pc (w_sw G ts d) := by
  intro L st M hK
  unfold w_sw at hK
  split at hK
  · rename_i x st
    intro ls H locs hL hR hS hn
    simp only [lookB, Bool.and_eq_true, decide_eq_true_eq] at hc
    obtain ⟨⟨⟨h1, h2⟩, h3⟩, h4⟩ := hc
    rw [h2] at hK
    obtain ⟨t, ht, hg⟩ := swG_look h1 _ h3 hK
    exact lv_lookup h.1 h.2.1 hd h4 rfl ht (hG t _ _ _ hg ls H locs hL hR hS hn)
  · exact hK.elim
theorem swG_tab {G : Nat → KT} {x : Int32} {pc d : Nat} : ∀ (offs : List Int) (lo : Int), -2147483648 ≤ lo → lo + offs.length - 1 ≤ 2147483647 → (∀ o ∈ offs, 0 ≤ (pc : Int) + o) → ∀ {L : LocS} {st : List Value} {M : Mem}, swG G x (offs.mapIdx (fun i o => (Int32.ofInt (lo + i), ((pc : Int) + o).toNat))) d L st M →
    ((x.toInt < lo ∨ lo + offs.length - 1 < x.toInt) ∧ G d L st M) ∨ ∃ (off : Int) (t : Nat), ¬ x.toInt < lo ∧ ¬ lo + offs.length - 1 < x.toInt ∧ offs[(x.toInt - lo).toNat]? = some off ∧ (pc : Int) + off = (t : Int) ∧ G t L st M := by
  intro offs
  induction offs with
  | nil => intro lo _ _ _ L st M h; exact Or.inl ⟨by simp; omega, h⟩
  | cons o offs ih =>
    intro lo h1 h2 h3 L st M h
    simp only [List.length_cons] at h2 ⊢
    rw [List.mapIdx_cons] at h
    simp only [swG] at h
    by_cases hx : x = Int32.ofInt lo
    · have hx' := (i32_lit h1 (by omega) x).mp hx
      have h9 := h.1 (by simpa using hx)
      exact Or.inr ⟨o, _, by omega, by omega, by rw [hx']; simp, by have := h3 o List.mem_cons_self; omega, h9⟩
    · have hx' : ¬ x.toInt = lo := fun z => hx ((i32_lit h1 (by omega) x).mpr z)
      have h9 := h.2 (by simpa using hx)
      have e : (fun (i : Nat) (o : Int) => (Int32.ofInt (lo + ((i + 1 : Nat) : Int)), ((pc : Int) + o).toNat)) = (fun (i : Nat) (o : Int) => (Int32.ofInt (lo + 1 + (i : Int)), ((pc : Int) + o).toNat)) := by
        funext i o
        rw [show lo + ((i + 1 : Nat) : Int) = lo + 1 + (i : Int) by omega]
      rw [e] at h9
      rcases ih (lo + 1) (by omega) (by omega) (fun r hr => h3 r (List.mem_cons_of_mem _ hr)) h9 with ⟨q1, q2⟩ | ⟨off, t, q1, q2, q3, q4, q5⟩
      · exact Or.inl ⟨by omega, q2⟩
      · refine Or.inr ⟨off, t, by omega, by omega, ?_, q4, q5⟩
        rw [show (x.toInt - lo).toNat = (x.toInt - (lo + 1)).toNat + 1 by omega, List.getElem?_cons_succ]
        exact q3
theorem s_tab (h : Cx p s m args c w cc own nL) {pc d len : Nat} {dflt lo hi : Int} {offs : Array Int} {ts : List (Int32 × Nat)} {G : Nat → KT} (hG : ∀ t, Sd (Gm p l e R s m args below meth c Q w nL n0 n1 x9) t (G t)) (hc : tabB pc dflt lo hi offs.toList ts d = true) (hd : decode cc pc = .ok (.tableswitch dflt lo hi offs, len)) : Sd (Gm p l e R s m args below meth c Q w nL n0 n1 x9) pc (w_sw G ts d) := by
  intro L st M hK
  unfold w_sw at hK
  split at hK
  · rename_i x st
    intro ls H locs hL hR hS hn
    simp only [tabB, Bool.and_eq_true, decide_eq_true_eq] at hc
    obtain ⟨⟨⟨⟨⟨h1, h2⟩, h3⟩, h4⟩, h5⟩, h6⟩ := hc
    rw [h3] at hK
    rcases swG_tab _ _ h5 (by omega) h4 hK with ⟨q1, q2⟩ | ⟨off, t, q1, q2, q3, q4, q5⟩
    · exact lv_tableOut h.1 h.2.1 hd (by rw [h2]; exact q1) h1 (hG d _ _ _ q2 ls H locs hL hR hS hn)
    · exact lv_tableIn h.1 h.2.1 hd q1 (by rw [h2]; exact q2) (by rw [← Array.getElem?_toList]; exact q3) q4 (hG t _ _ _ q5 ls H locs hL hR hS hn)
  · exact hK.elim
end CALLS
