section WRAP
/-- a call of a method that may throw: its answer, or its exception caught by the caller's one row -/
def w_callX (ci n : Nat) (sp : SPX) (Kn Kh : KT) : KT := fun L st M => spl n [] st (fun As st' => st'.length ≤ 4 ∧ match As with
  | .ref a :: _ => okA M a ci ∧ gE M = false ∧ sp As M (fun v M' => Kn L (v.toList ++ st') M') (fun M' => ∀ q : Nat, Kh L [.ref (200000 + q)] M')
  | _ => False)
def w_callW (x n : Nat) (sp : SP) (K : KT) : KT := fun L st M => x + 1 ≤ 3072 ∧ gE M = false ∧ spl n [] st (fun As st' => st'.length ≤ 4 ∧ sp As M (fun v M' => K L (v.toList ++ st') M'))
def CtrW (y : MethodName) (cc : ByteArray) (nL : Nat) (ret : Option FieldType) (hh : List (Nat × Nat × Nat × Nat)) (d : Nat) (sp : SP) : Prop :=
  ∀ (l : Launch) (w : Wd) (As : List Value) (M : Mem) (K : RT), l.stackTraces = false → Ok w → sp As M K →
    Met l y (.codeWith y cc nL ret hh :: lw_ok) (rmD d 8 64) (Pcm w As M) (Qcm w M.1 K) 8 64 (Aw w)
variable {p : Program} {l : Launch} {e : Jvm.Env} {R : Room} {s : State} {m : MethodId} {args : Array Value} {below : List Frame} {meth : Method} {c : Code} {Q : State → Prop} {w : Wd} {cc : ByteArray} {own : String} {nL n0 n1 x9 : Nat}
theorem run_goX {H : Heap} {locs : List Loc} {cells slots mc ms : Nat} {n2 : Nat × Bool} {K : RT} {X9 : Mem → Prop} {E : String} {pc : Nat} {ls : Array Slot} {rest st0 : List Value} {a : Array Value} (hr : vx_Run p l e R s m args below meth c H locs cells slots mc ms (F0 m pc ls st0) rest (Qcm w n2 K a) (XCm w E n2 X9) (Aw w)) (hS : va_S (Aw w) s.heap H locs)
    (kk : ∀ (v : Option Value) (M' : Mem) (H1 : Heap) (locs1 : List Loc), K v M' → M'.1 = n2 → Rl w M' H1 → va_S (Aw w) s.heap H1 locs1 → W p l e R s m args below meth c H1 locs1 (cells + mc) (slots + ms) Q (F0 m (pc + 3) ls ((v.map (tr w)).toList ++ rest)))
    (kx : ∀ (ce : Cell) (q : Addr) (M' : Mem) (H1 : Heap) (locs1 : List Loc), X9 M' → M'.1 = n2 → Rl w M' H1 → va_S (Aw w) s.heap H1 locs1 → H1[q]? = some ce → ce.vm = .none → s.vm.findClass E = some ce.cls → vx_W p l e R s m args below meth c H1 locs1 (cells + mc) (slots + ms) Q (F0 m pc ls rest) q) : W p l e R s m args below meth c H locs cells slots Q (F0 m pc ls st0) := by
  intro T hT X
  rcases hr T hT X with ⟨v, st₀, t, T', L, h0, X', hL, e1, e2, ⟨⟨v', M', hv, hK, hN, hR⟩, hz, hk⟩, st⟩ | ⟨q, st₀, t, T', L, E', ce, h0, X', hL, e1, e2, ⟨hE', ⟨M', hX, hN, hR⟩, hz, hk⟩, hce, hcv, hcl, st⟩
  · cases hv
    rw [h0] at hz hk
    obtain ⟨t2, a1, b1⟩ := kk v' M' T'.heap (locs ++ L) hK hN (by rw [e1]; exact hR)
      ⟨Nat.le_trans hS.1 (by rw [e1]; exact hz), fun q h1 h2 => by rw [e1, hk q (Nat.lt_of_lt_of_le h1 hS.1) h2]; exact hS.2.1 q h1 h2, fun q hq => by
        rcases List.mem_append.mp hq with h | h
        · exact hS.2.2 q h
        · exact hL q h⟩ T' rfl X'
    exact ⟨t2, st t2 a1, b1⟩
  · subst hE'
    rw [h0] at hz hk
    obtain ⟨t2, a1, b1⟩ := kx ce q M' T'.heap (locs ++ L) hX hN (by rw [e1]; exact hR)
      ⟨Nat.le_trans hS.1 (by rw [e1]; exact hz), fun q h1 h2 => by rw [e1, hk q (Nat.lt_of_lt_of_le h1 hS.1) h2]; exact hS.2.1 q h1 h2, fun q hq => by
        rcases List.mem_append.mp hq with h | h
        · exact hS.2.2 q h
        · exact hL q h⟩ (by rw [e1]; exact hce) hcv hcl T' rfl X'
    exact ⟨t2, st.trans a1, b1⟩
theorem W_wide {H : Heap} {locs : List Loc} {cells slots k n : Nat} {g : JFrame} (h1 : cells ≤ k) (h2 : slots ≤ n) (kk : W p l e R s m args below meth c H locs k n Q g) : W p l e R s m args below meth c H locs cells slots Q g := fun T hT X => kk T hT (stand_widen X h1 h2)
theorem s_callX (h : Cx p s m args c w cc own nL) {d d' : Nat} (hr : Cr R d n0 n1 (x9 + 1)) (hl9 : l.stackTraces = false) {pc idx ci n hpc hs he ct i9 : Nat} {Kn Kh : KT} {sp : SPX} {y : MethodName} {yc : ByteArray} {yL : Nat} {ret : Option FieldType} {E : String} (hC : CtrX y yc yL ret d' E sp)
    (htab : c.exceptionTable.toList = [{ startPc := hs, endPc := he, handlerPc := hpc, catchType := ct }]) (hcov : covers { startPc := hs, endPc := he, handlerPc := hpc, catchType := ct } pc = true) (hct : ct ≠ 0) (hcl9 : Cond.classLink own ct E ∈ lw_ok) (hca : lw_tbl[i9]? = some (.castable E E))
    (hc : (vwCl[ci + 3]?).map (fun q => q.1) = some y.cls) (hci : ci ≤ 10) (hl : Cond.methodLink own idx y ∈ lw_ok) (hi : Cond.instanceMethod y ∈ lw_ok) (hse : Cond.selects y.cls y y ∈ lw_ok) (hini : Cond.initialized y.cls ∈ lw_ok) (hco : Cond.code y yc yL ret ∈ lw_ok)
    (hd9 : y.cls ≠ "java/lang/invoke/MethodHandle" ∧ y.cls ≠ "java/lang/invoke/VarHandle" ∧ (parseMethodDescriptor y.desc).map (fun d => d.parameters.length) = some n) (hdd : d' < d) (hyL : yL ≤ 45)
    (hd : decode cc pc = .ok (.invokevirtual idx, 3)) (hk : Sd (Gm p l e R s m args below meth c Q w nL n0 n1 (x9 + 1)) (pc + 3) Kn) (hh : Sd (Gm p l e R s m args below meth c Q w nL n0 n1 (x9 + 1)) hpc Kh) : Sd (Gm p l e R s m args below meth c Q w nL n0 n1 x9) pc (w_callX ci (n + 1) sp Kn Kh) := by
  intro L st M hK
  obtain ⟨As, st', hlen, rfl, hle, hK⟩ := spl_spec _ _ _ _ hK
  rw [List.append_nil] at hK
  cases As with
  | nil => exact hK.elim
  | cons a0 As =>
    cases a0 with
    | ref a =>
      intro ls H locs hL hR hS hn
      obtain ⟨hA, hE9, hK⟩ := hK
      have ha := okA_lt hR hA (by omega)
      obtain ⟨hr1, hr2, hr3, hr4, h01⟩ := hr
      cases hv : vwCl[ci + 3]? with
      | none => rw [hv] at hc; cases hc
      | some q =>
        rw [hv] at hc
        have hq : q.1 = y.cls := Option.some.inj hc
        have he : (cells w M (gN M))[a]? = some (ad w a, .inr (ci + 3, flds w M a ci)) := by rw [cells_get ha, ent_obj hA.1 hci, ad_own (by have := hR.2.1; omega)]
        have hrecv := va_recv h.2.2.2.2.2.1 hR.1 hv he
        rw [hq] at hrecv
        have hM := hC l w _ M _ _ hl9 h.2.2.2.2.2.2.2 hK
        have hsz : gE M = true → H.size ≤ s.heap.size + (gN M - n0) := fun hE => by rw [hE9] at hE; cases hE
        rw [show List.map (tr w) ((Value.ref a :: As).reverse ++ st') = (As.map (tr w)).reverse ++ .ref (ad w a) :: st'.map (tr w) by simp [tr]]
        refine run_goX (vx_runV (As := As.map (tr w)) (rest := st'.map (tr w)) (n := n) ⟨h.1, h.2.1, h.2.2.1, h.2.2.2.1, h.2.2.2.2.1⟩ hM (cwV (C := y.cls) n h.2.2.2.2.1 ?_ rfl rfl rfl ⟨rfl, hd9⟩ ⟨?_, ?_⟩) ⟨Pcm_blind, hrecv, fun U hU hW => Pcm_at h hR hS hn hsz U hU hW⟩ rfl (by simp at hlen ⊢; exact hlen) hL.1 rfl (lv_room ?_) hd ⟨?_, ?_⟩) hS (fun v M' H1 locs1 hKv hN hR1 hS1 => ?_) (fun ce q9 M' H1 locs1 hX hN hR1 hS1 hq1 hq2 hq3 => ?_)
        · intro x hx
          rcases List.mem_append.mp hx with hx | hx
          · have hx : x ∈ lw_ok := by
              simp only [List.mem_cons, List.not_mem_nil, or_false] at hx
              rcases hx with rfl | rfl | rfl | rfl
              · exact hl
              · exact hi
              · exact hse
              · exact hini
            exact ⟨hx, good_of_word (List.mem_filter.mp hx).2⟩
          · exact lw_good hco x hx
        · show d' + 1 ≤ R.frames
          omega
        · show 8 + (yL + 11) + 64 * d' ≤ R.locals
          omega
        · have := sum_cat (st'.map (tr w)) 4 (by simpa using hle)
          omega
        · show gN M - n0 + 8 * x9 + 1 ≤ R.cells
          omega
        · show SS (gN M) - SS n0 + 64 * x9 + 6 ≤ R.slots
          have := SS_mono hn.2.2.1
          omega
        · have hN1 : gN M' = gN M := congrArg Prod.fst hN
          have hE1 : gE M' = gE M := congrArg Prod.snd hN
          have hg := hk _ _ _ hKv ls H1 locs1 hL hR1 hS1 (by rw [hN1, hE1, hE9]; exact ⟨hn.1, (fun z => by cases z), hn.2.2.1, (fun z => by cases z)⟩)
          rw [hN1] at hg
          rw [show (v.map (tr w)).toList ++ st'.map (tr w) = (v.toList ++ st').map (tr w) by cases v <;> rfl]
          exact W_wide (by omega) (by omega) hg
        · have hN1 : gN M' = gN M := congrArg Prod.fst hN
          have hE1 : gE M' = gE M := congrArg Prod.snd hN
          have hg := hh _ _ _ (hX q9) ls H1 locs1 hL hR1 hS1 (by rw [hN1, hE1, hE9]; exact ⟨hn.1, (fun z => by cases z), hn.2.2.1, (fun z => by cases z)⟩)
          rw [hN1] at hg
          have hq9 : List.map (tr w) [Value.ref (200000 + q9)] = [.ref q9] := by
            show [Value.ref (ad w (200000 + q9))] = _
            unfold ad
            rw [if_neg (by omega), if_neg (by omega), Nat.add_sub_cancel_left]
          rw [hq9] at hg
          refine vx_catch (own := own) (name := E) (E := E) (ce := ce) h.2.2.2.1 [] _ [] htab (fun z hz => by cases hz) hcov hct (h.2.2.2.2.1 _ hcl9) ?_ hq1 hq2 hq3 (W_wide (by omega) (by omega) hg)
          exact va_Nw.use rfl (va_Nw.warmC h.2.2.2.2.2.2.1.1 (va_Nw.of rfl (tb_in h.2.2.2.2.2.2.2 hca)))
    | _ => exact hK.elim
theorem s_callW (h : Cx p s m args c w cc own nL) {d d' : Nat} (hr : Cr R d n0 n1 (x9 + 1)) (hl9 : l.stackTraces = false) {pc idx n : Nat} {K : KT} {sp : SP} {y : MethodName} {yc : ByteArray} {yL : Nat} {ret : Option FieldType} {hh : List (Nat × Nat × Nat × Nat)} (hC : CtrW y yc yL ret hh d' sp)
    (hl : Cond.methodLink own idx y ∈ lw_ok) (hi : Cond.static y ∈ lw_ok) (hini : Cond.initialized y.cls ∈ lw_ok) (hco : Cond.codeWith y yc yL ret hh ∈ lw_ok)
    (hd9 : y.cls ≠ "java/lang/invoke/MethodHandle" ∧ y.cls ≠ "java/lang/invoke/VarHandle" ∧ (parseMethodDescriptor y.desc).map (fun d => d.parameters.length) = some n) (hdd : d' < d) (hyL : yL ≤ 45)
    (hd : decode cc pc = .ok (.invokestatic idx, 3)) (hk : Sd (Gm p l e R s m args below meth c Q w nL n0 n1 (x9 + 1)) (pc + 3) K) : Sd (Gm p l e R s m args below meth c Q w nL n0 n1 x9) pc (w_callW x9 n sp K) := by
  intro L st M hK
  obtain ⟨hx9, hE9, hK⟩ := hK
  obtain ⟨As, st', hlen, rfl, hle, hK⟩ := spl_spec _ _ _ _ hK
  rw [List.append_nil] at hK
  intro ls H locs hL hR hS hn
  obtain ⟨hr1, hr2, hr3, hr4, h01⟩ := hr
  have hM := hC l w _ M _ hl9 h.2.2.2.2.2.2.2 hK
  have hsz : gE M = true → H.size ≤ s.heap.size + (gN M - n0) := fun hE => by rw [hE9] at hE; cases hE
  rw [show List.map (tr w) (As.reverse ++ st') = (As.map (tr w)).reverse ++ st'.map (tr w) by simp]
  refine run_go (vx_runSW (As := As.map (tr w)) (rest := st'.map (tr w)) (n := n) ⟨h.1, h.2.1, h.2.2.1, h.2.2.2.1, h.2.2.2.2.1⟩ hM (vx_cwSW n h.2.2.2.2.1 ?_ rfl rfl rfl hd9 ⟨?_, ?_⟩) ⟨Pcm_blind, fun U hU hW => Pcm_at h hR hS hn hsz U hU hW⟩ rfl (by simpa using hlen) hL.1 rfl (lv_room ?_) hd ⟨?_, ?_⟩) hS (fun v M' H1 locs1 hKv hN hR1 hS1 => ?_)
  · intro x hx
    rcases List.mem_append.mp hx with hx | hx
    · have hx : x ∈ lw_ok := by
        simp only [List.mem_cons, List.not_mem_nil, or_false] at hx
        rcases hx with rfl | rfl | rfl
        · exact hl
        · exact hi
        · exact hini
      exact ⟨hx, good_of_word (List.mem_filter.mp hx).2⟩
    · rcases List.mem_cons.mp hx with rfl | hx
      · exact ⟨hco, good_of_word (List.mem_filter.mp hco).2⟩
      · exact ⟨hx, good_of_word (List.mem_filter.mp hx).2⟩
  · show d' + 1 ≤ R.frames
    omega
  · show 8 + (yL + 11) + 64 * d' ≤ R.locals
    omega
  · have := sum_cat (st'.map (tr w)) 4 (by simpa using hle)
    omega
  · show gN M - n0 + 8 * x9 + 8 ≤ R.cells
    omega
  · show SS (gN M) - SS n0 + 64 * x9 + 64 ≤ R.slots
    have := SS_mono hn.2.2.1
    omega
  · have hN1 : gN M' = gN M := congrArg Prod.fst hN
    have hE1 : gE M' = gE M := congrArg Prod.snd hN
    have hg := hk _ _ _ hKv ls H1 locs1 hL hR1 hS1 (by rw [hN1, hE1, hE9]; exact ⟨hn.1, (fun z => by cases z), hn.2.2.1, (fun z => by cases z)⟩)
    rw [hN1] at hg
    rw [show (v.map (tr w)).toList ++ st'.map (tr w) = (v.toList ++ st').map (tr w) by cases v <;> rfl]
    exact W_wide (by omega) (by omega) hg
/-- the end of a wrapper, behind its one call -/
theorem s_iret1 (h : Cx p s m args c w cc own nL) {t1 : Nat × Bool} {K : RT} (ht : t1.1 = n0) (hty : meth.sig.returnType = some .int) (hlk : meth.locks = false) {pc : Nat} (hd : decode cc pc = .ok (.ireturn, 1)) : Sd (Gm p l e R s m args below meth c (MQ below (Qcm w t1 K) args s 8 64 (Aw w)) w nL n0 n1 1) pc (w_iret t1 K) := by
  intro L st M hK
  unfold w_iret at hK
  split at hK
  · rename_i x
    intro ls H locs hL hR hS hn
    have hN1 : gN M = n0 := by rw [← ht]; exact congrArg Prod.fst hK.1
    rw [hN1, Nat.sub_self, Nat.sub_self, Nat.zero_add, Nat.zero_add]
    exact W.iret h.1 h.2.1 hty (fun t ht hW => ⟨⟨_, M, rfl, hK.2, hK.1, by rw [ht]; exact hR⟩, hS.F ht⟩) hS.2.2 hd hlk
  · exact hK.elim
theorem CtrW_of {y : MethodName} {cc : ByteArray} {nL : Nat} {ret : Option FieldType} {hh : List (Nat × Nat × Nat × Nat)} {d : Nat} {sp : SP} (hy : plainName y.cls = true) (hln : ∀ As M K, sp As M K → (lent As).length ≤ nL)
    (hb : ∀ {p : Program} {l : Launch} {e : Jvm.Env} {R : Room} {s : State} {m : MethodId} {args : Array Value} {below : List Frame} {meth : Method} {c : Code} {w : Wd} {n0 : Nat} {As : List Value} {M : Mem} {K : RT},
      Cx p s m args c w cc y.cls nL → Cr R d n0 (gN M) 1 → l.stackTraces = false → c.exceptionTable.toList = tableOf hh → (M.1 : Nat × Bool).1 = n0 → meth.sig.returnType = ret → meth.locks = false → sp As M K → Gm p l e R s m args below meth c (MQ below (Qcm w M.1 K) args s 8 64 (Aw w)) w nL n0 (gN M) 0 0 (lini nL As) [] M) : CtrW y cc nL ret hh d sp := by
  intro l w As M K hl hOk hsp
  refine va_MetW (cc := cc) (maxL := nL) (ret := ret) (hh := hh) hy rfl ?_
  intro p e s m args below meth c s₁ B hml hv
  obtain ⟨rfl, hR, hK, hE, hsz⟩ := hv
  have hts := atoms_spec (ws := .codeWith y cc nL ret hh :: lw_ok) B.pre
  have hX : Cx p s m (As.map (tr w)).toArray c w cc y.cls nL := ⟨B.exec, B.bytes, hml, findClass_of_methodNamed B.named, fun x hx => hts x (List.mem_cons_of_mem _ hx), hK, hE, hOk⟩
  have hg := hb (R := (headSpec (.codeWith y cc nL ret hh :: lw_ok) (rmD d 8 64)).room) (l := l) (e := e) (below := below) (meth := meth) (n0 := gN M) (M := M) (K := K) (As := As) hX ⟨by show gN M - gN M + 8 * 1 ≤ 8; omega, by show SS (gN M) - SS (gN M) + 64 * 1 ≤ 64; omega, Nat.le_refl _, Nat.le_refl _, Nat.le_refl _⟩ hl (vx_table (x := y) B (hts _ List.mem_cons_self)) rfl B.returns B.notSynchronized hsp
  have := hg _ s.heap [] (LocR.entry (hln As M K hsp)) hR va_S.rf ⟨Nat.le_refl _, hsz, Nat.le_refl _, fun _ => rfl⟩
  rw [Nat.sub_self, Nat.sub_self] at this
  rw [lg_entry_eq]
  exact this
end WRAP
