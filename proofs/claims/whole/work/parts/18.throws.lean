section THROWS
/-- a throw: what the caller is told of the memory -/
def w_throw (t1 : Nat × Bool) (X : Mem → Prop) : KT := fun _ st M => st.length ≤ 4 ∧ M.1 = t1 ∧ X M
def XCm (w : Wd) (E : String) (t1 : Nat × Bool) (X : Mem → Prop) : String → State → State → Prop := fun E' st t => E' = E ∧ (∃ M' : Mem, X M' ∧ M'.1 = t1 ∧ Rl w M' t.heap) ∧ va_F (Aw w) st t
abbrev SPX : Type := List Value → Mem → RT → (Mem → Prop) → Prop
def CtrX (y : MethodName) (cc : ByteArray) (nL : Nat) (ret : Option FieldType) (d : Nat) (E : String) (sp : SPX) : Prop :=
  ∀ (l : Launch) (w : Wd) (As : List Value) (M : Mem) (K : RT) (X : Mem → Prop), l.stackTraces = false → Ok w → sp As M K X →
    vx_Met l y (.code y cc nL ret :: lw_ok) (rmD d 1 6) (Pcm w As M) (Qcm w M.1 K) (XCm w E M.1 X) 1 6 (Aw w)
theorem MQ_mono {below : List Frame} {Qc : Array Value → State → Outcome → State → Prop} {a : Array Value} {s t : State} {k n k' n' : Nat} {free : Addr → Prop} (h : MQ below Qc a s k n free t) (h1 : k ≤ k') (h2 : n ≤ n') : MQ below Qc a s k' n' free t := by
  obtain ⟨o, a1, a2, a3, L, ⟨b1, b2, b3⟩, b4⟩ := h
  exact ⟨o, a1, a2, a3, L, ⟨b1, b2, b3.mono h1 h2⟩, b4⟩
def cdw : Cond → Bool
  | .castable _ _ => true
  | .declares _ => true
  | _ => false
theorem cd_use {w : Wd} {s : State} {args : Array Value} (hOk : Ok w) (hE : EnvW w s) {x : Cond} (h1 : x ∈ lw_tbl) (h2 : cdw x = true) : x.before args s = true := by
  have h := hOk.2.1 x h1
  cases x with
  | castable C T => exact va_Nw.use rfl (va_Nw.warmC hE.1 (va_Nw.of rfl h))
  | declares y => exact va_Nw.use rfl (va_Nw.warmD hE.1 (va_Nw.of rfl h))
  | _ => cases h2
theorem at_of {w : Wd} {s : State} {args : Array Value} {own E : String} {ic : Nat} {names : List String} (hOk : Ok w) (hE : EnvW w s) (hts : ∀ x ∈ lw_ok, x.before args s = true)
    (h1 : ∀ x ∈ (vx_atS own ic E names).filter goodWord, x ∈ lw_tbl) (h2 : ∀ x ∈ (vx_atS own ic E names).filter (fun x => !goodWord x), x ∈ lw_tbl ∧ cdw x = true) : ∀ x ∈ vx_atS own ic E names, x.before args s = true :=
  vx_hat (B := (vx_atS own ic E names).filter (fun x => !goodWord x)) (fun x hx => hts x (List.mem_filter.mpr ⟨h1 x hx, (List.mem_filter.mp hx).2⟩)) (fun _ hx => hx) (fun x hx => cd_use hOk hE (h2 x hx).1 (h2 x hx).2)
theorem th_U {w : Wd} (hOk : Ok w) : vx_Zq Bundle.tN "UNASSIGNED_STACK" Bundle.steD (Aw w) (wS w) (wS w).heap := vx_Zqof (tb_in hOk (i := 707) (by decide +kernel)) (tb_in hOk (i := 149) (by decide +kernel)) (nw_in hOk (i := 82) (by decide +kernel)) (c_A w)
theorem th_N {w : Wd} (hOk : Ok w) : vx_Zq Bundle.tN "SUPPRESSED_SENTINEL" Bundle.listD (Aw w) (wS w) (wS w).heap := vx_Zqof (tb_in hOk (i := 709) (by decide +kernel)) (tb_in hOk (i := 149) (by decide +kernel)) (nw_in hOk (i := 83) (by decide +kernel)) (c_A w)
theorem cZq {w : Wd} {s : State} (hE : EnvW w s) {C n d : String} (h : vx_Zq C n d (Aw w) (wS w) (wS w).heap) : vx_Zq C n d (Aw w) s s.heap := (vx_Zq.moved hE.1.alike h).kept (fun a h1 _ => hE.2.2 a h1)
theorem cR {w : Wd} {s : State} (hOk : Ok w) (hE : EnvW w s) {own tx : String} {k i j : Nat} (h1 : lw_tbl[i]? = some (.stringRef own k tx)) (h2 : nwL[j]? = some (.exactly (.string own k) "java/lang/String")) : ∃ sa, vk_R own k tx sa s := by
  obtain ⟨a, c, cell, k9, q1, -⟩ := Cond.exactly_spec (nw_in hOk h2)
  exact ⟨a, vk_R.warm hE.1 (vk_R.of (tb_in hOk h1) q1)⟩
variable {p : Program} {l : Launch} {e : Jvm.Env} {R : Room} {s : State} {m : MethodId} {args : Array Value} {below : List Frame} {meth : Method} {c : Code} {Q : State → Prop} {w : Wd} {cc : ByteArray} {own : String} {nL n0 n1 x9 : Nat}
theorem s_throw (h : Cx p s m args c w cc own nL) (hr : 8 ≤ R.frames ∧ 512 ≤ R.locals ∧ 1 ≤ R.cells ∧ 6 ≤ R.slots) (hl : l.stackTraces = false) (hlocks : meth.locks = false) (hempty : ∀ x ∈ c.exceptionTable.toList, False)
    {pc ik is ic is1 is2 : Nat} {E text : String} {names : List String} (hnl : names.length = 2) (hcls : Bundle.fit E = true) (hnames : ∀ n ∈ names, Bundle.fit n = true) (hk9 : Cond.classLink own ik E ∈ lw_ok) (hini : Cond.initialized E ∈ lw_ok)
    (hs1 : lw_tbl[is1]? = some (.stringRef own is text)) (hs2 : nwL[is2]? = some (.exactly (.string own is) "java/lang/String"))
    (ha1 : ∀ x ∈ (vx_atS own ic E names).filter goodWord, x ∈ lw_tbl) (ha2 : ∀ x ∈ (vx_atS own ic E names).filter (fun x => !goodWord x), x ∈ lw_tbl ∧ cdw x = true) (hgood : ∀ x ∈ Cond.classLink own ik E :: Cond.initialized E :: vx_atS own ic E names, vx_ot x = true)
    (d0 : decode cc pc = .ok (.new ik, 3)) (d3 : decode cc (pc + 3) = .ok (.dup, 1)) (d4 : decode cc (pc + 4) = .ok (.ldc is, 2)) (d6 : decode cc (pc + 6) = .ok (.invokespecial ic, 3)) (d9 : decode cc (pc + 9) = .ok (.athrow, 1))
    {t1 : Nat × Bool} {K : RT} {X : Mem → Prop} (ht : t1.1 = n0) : Sd (Gm p l e R s m args below meth c (vx_MQ below (Qcm w t1 K) (XCm w E t1 X) args s 1 6 (Aw w)) w nL n0 n1 0) pc (w_throw t1 X) := by
  intro L st M hK ls H locs hL hR hS hn
  obtain ⟨hst, hM, hX⟩ := hK
  have hN1 : gN M = n0 := by rw [← ht, ← hM]; rfl
  obtain ⟨sa, hsa⟩ := cR h.2.2.2.2.2.2.2 h.2.2.2.2.2.2.1 hs1 hs2
  have hc := sum_cat (st.map (tr w)) 4 (by simpa using hst)
  rw [hN1, Nat.sub_self, Nat.sub_self]
  refine vx_throwS (rest := st.map (tr w)) (A := Aw w) h.1 h.2.1 hl h.2.2.2.1 hcls hnames (h.2.2.2.2.1 _ hk9) (h.2.2.2.2.1 _ hini) hsa (at_of h.2.2.2.2.2.2.2 h.2.2.2.2.2.2.1 h.2.2.2.2.1 ha1 ha2) hgood
    (cZq h.2.2.2.2.2.2.1 (th_U h.2.2.2.2.2.2.2)) (cZq h.2.2.2.2.2.2.1 (th_N h.2.2.2.2.2.2.2)) hS (by rw [h.2.2.1]; exact hL.1) d0 d3 d4 d6 d9 (fun x hx => (hempty x hx).elim) ?_ ?_ ?_ ?_ hlocks ?_ hS.2.2 ?_ ?_
  · rw [hnl]; omega
  · rw [hnl]; omega
  · omega
  · omega
  · intro t hvm hz hk
    refine ⟨rfl, ⟨M, hX, hM, hR.1.kept (fun k q hq => hk q.1 (hR.1 k q hq).lt), hR.2⟩, Nat.le_trans hS.1 hz, fun q h1 h2 => ?_⟩
    rw [hk q (Nat.lt_of_lt_of_le h1 hS.1)]
    exact hS.2.1 q h1 h2
  · omega
  · omega
theorem CtrX_of {y : MethodName} {cc : ByteArray} {nL : Nat} {ret : Option FieldType} {d : Nat} {E : String} {sp : SPX} (hy : plainName y.cls = true) (hln : ∀ As M K X, sp As M K X → (lent As).length ≤ nL)
    (hb : ∀ {p : Program} {l : Launch} {e : Jvm.Env} {R : Room} {s : State} {m : MethodId} {args : Array Value} {below : List Frame} {meth : Method} {c : Code} {w : Wd} {n0 : Nat} {As : List Value} {M : Mem} {K : RT} {X : Mem → Prop},
      Cx p s m args c w cc y.cls nL → Cr R d n0 (gN M) 0 → (1 ≤ R.cells ∧ 6 ≤ R.slots) → l.stackTraces = false → (∀ x ∈ c.exceptionTable.toList, False) → n0 = gN M → Re p l e R s m args below meth c (vx_MQ below (Qcm w M.1 K) (XCm w E M.1 X) args s 1 6 (Aw w)) w n0 M.1 K ret → sp As M K X → Gm p l e R s m args below meth c (vx_MQ below (Qcm w M.1 K) (XCm w E M.1 X) args s 1 6 (Aw w)) w nL n0 (gN M) 0 0 (lini nL As) [] M) : CtrX y cc nL ret d E sp := by
  intro l w As M K X hl hOk hsp
  refine vx_ofW (cc := cc) (maxL := nL) (ret := ret) hy rfl ?_
  intro p e s m args below meth c s₁ B hml htab hv
  obtain ⟨rfl, hR, hK, hE, hsz⟩ := hv
  have hts := atoms_spec (ws := .code y cc nL ret :: lw_ok) B.pre
  have hX : Cx p s m (As.map (tr w)).toArray c w cc y.cls nL := ⟨B.exec, B.bytes, hml, findClass_of_methodNamed B.named, fun x hx => hts x (List.mem_cons_of_mem _ hx), hK, hE, hOk⟩
  have hg := hb (R := (headSpec (.code y cc nL ret :: lw_ok) (rmD d 1 6)).room) (l := l) (e := e) (below := below) (meth := meth) (n0 := gN M) (M := M) (K := K) (X := X) (As := As) hX ⟨by show gN M - gN M + 8 * 0 ≤ 1; omega, by show SS (gN M) - SS (gN M) + 64 * 0 ≤ 6; omega, Nat.le_refl _, Nat.le_refl _, Nat.le_refl _⟩ ⟨Nat.le_refl _, Nat.le_refl _⟩ hl htab rfl ⟨B.returns, B.notSynchronized, fun H locs g hg => by
    have e1 : M.1.1 - gN M = 0 := Nat.sub_self _
    have e2 : SS M.1.1 - SS (gN M) = 0 := Nat.sub_self _
    rw [e1, e2] at hg ⊢
    exact vx_ret (fun T hT XX => by
      obtain ⟨t, q1, q2⟩ := hg T hT XX
      exact ⟨t, q1, MQ_mono q2 (Nat.zero_le _) (Nat.zero_le _)⟩)⟩ hsp
  have := hg _ s.heap [] (LocR.entry (hln As M K X hsp)) hR va_S.rf ⟨Nat.le_refl _, hsz, Nat.le_refl _, fun _ => rfl⟩
  rw [Nat.sub_self, Nat.sub_self] at this
  rw [lg_entry_eq]
  exact this
end THROWS
