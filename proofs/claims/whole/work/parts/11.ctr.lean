section CTR
theorem Met_ofWF {l : Launch} {y : MethodName} {ws ws' : List Cond} {rm : Room} {Pc : Array Value → State → Prop} {Qc : Array Value → State → Outcome → State → Prop} {mc ms : Nat} {free : Addr → Prop} {cc : ByteArray} {maxL : Nat} {ret : Option FieldType}
    (hy : plainFor y = true) (hw : ws = Cond.code y cc maxL ret :: ws')
    (body : ∀ p e s m args below meth c s₁, BodyLoose p l y (headSpec ws rm) cc maxL ret e s m args below meth c s₁ → c.maxLocals = maxL → Pc args s →
      W p l e (headSpec ws rm).room s m args below meth c s.heap [] 0 0 (MQ below Qc args s mc ms free) (entryFrame m args maxL)) : Met l y ws rm Pc Qc mc ms free := by
  refine MetFree.of_bodySF (code := cc) (maxLocals := maxL) (ret := ret) hy ?_ ?_
  · intro args s m h hn
    obtain ⟨meth, c, h1, h2, h3, h4, h5, h6, -, -⟩ := Cond.code_spec hn (atoms_spec (ws := ws) h _ (by rw [hw]; exact List.mem_cons_self))
    exact ⟨meth, c, h1, h2, h3, h4, h5, h6⟩
  · intro p e s m args below meth c s₁ B hml hP _
    have hh0 : s₁.heap = s.heap := by rw [B.state]; rfl
    obtain ⟨t, a1, o, b1, b2, b3⟩ := body p e s m args below meth c s₁ B hml hP s₁ hh0 (Stand.of_body B)
    exact ⟨t, o, a1, b1, b2, ⟨b3.1, b3.2⟩⟩
theorem Ctr_ofN {y : MethodName} {cc : ByteArray} {nL : Nat} {ret : Option FieldType} {d mc : Nat} {sp : SP} (hy : plainFor y = true) (hln : ∀ As M K, sp As M K → (lent As).length ≤ nL)
    (hb : ∀ {p : Program} {l : Launch} {e : Jvm.Env} {R : Room} {s : State} {m : MethodId} {args : Array Value} {below : List Frame} {meth : Method} {c : Code} {Q : State → Prop} {w : Wd} {n0 n1 : Nat} {As : List Value} {M : Mem} {K : RT} {t1 : Nat × Bool},
      Cx p s m args c w cc y.cls nL → Cr R d n0 n1 0 → Re p l e R s m args below meth c Q w n0 t1 K ret → meth.name = y.name → n0 = gN M → n1 = gN M + mc → t1 = (gN M + mc, gE M) → sp As M K → Gm p l e R s m args below meth c Q w nL n0 n1 0 0 (lini nL As) [] M) : Ctr y cc nL ret d mc sp := by
  intro l w As M K hOk hsp
  refine Met_ofWF (cc := cc) (maxL := nL) (ret := ret) hy rfl ?_
  intro p e s m args below meth c s₁ B hml hv
  obtain ⟨rfl, hR, hK, hE, hsz⟩ := hv
  have hts := atoms_spec (ws := .code y cc nL ret :: lw_ok) B.pre
  have hX : Cx p s m (As.map (tr w)).toArray c w cc y.cls nL := ⟨B.exec, B.bytes, hml, findClass_of_methodNamed B.named, fun x hx => hts x (List.mem_cons_of_mem _ hx), hK, hE, hOk⟩
  have hN : gN M + mc - gN M = mc := by omega
  have hg := hb (R := (headSpec (.code y cc nL ret :: lw_ok) (rmD d mc (SS (gN M + mc) - SS (gN M)))).room) (l := l) (e := e) (below := below) (meth := meth) (Q := MQ below (Qcm w (gN M + mc, gE M) K) (As.map (tr w)).toArray s mc (SS (gN M + mc) - SS (gN M)) (Aw w)) (n0 := gN M) (n1 := gN M + mc) (M := M) (K := K) (As := As) (t1 := (gN M + mc, gE M)) hX ⟨by show gN M + mc - gN M ≤ mc; omega, by exact Nat.le_refl _, Nat.le_refl _, Nat.le_refl _, Nat.le_add_right _ _⟩ ⟨B.returns, B.notSynchronized, fun H locs g hg => by
    dsimp only at hg ⊢
    rw [hN] at hg ⊢
    exact hg⟩ (name_of_methodNamed B.named B.method).1 rfl rfl rfl hsp
  have := hg _ s.heap [] (LocR.entry (hln As M K hsp)) hR va_S.rf ⟨Nat.le_refl _, hsz, Nat.le_add_right _ _, fun _ => rfl⟩
  rw [Nat.sub_self, Nat.sub_self] at this
  rw [lg_entry_eq]
  exact this
theorem Ctr_of {y : MethodName} {cc : ByteArray} {nL : Nat} {ret : Option FieldType} {d : Nat} {sp : SP} (hy : plainFor y = true) (hln : ∀ As M K, sp As M K → (lent As).length ≤ nL)
    (hb : ∀ {p : Program} {l : Launch} {e : Jvm.Env} {R : Room} {s : State} {m : MethodId} {args : Array Value} {below : List Frame} {meth : Method} {c : Code} {Q : State → Prop} {w : Wd} {n0 : Nat} {As : List Value} {M : Mem} {K : RT},
      Cx p s m args c w cc y.cls nL → Cr R d n0 (gN M) 0 → Re p l e R s m args below meth c Q w n0 M.1 K ret → sp As M K → Gm p l e R s m args below meth c Q w nL n0 (gN M) 0 0 (lini nL As) [] M) : Ctr y cc nL ret d 0 sp :=
  Ctr_ofN hy hln (fun hX hr hre _ _ hn1 ht hs => by
    subst hn1
    rw [ht] at hre
    exact hb hX hr hre hs)
end CTR
