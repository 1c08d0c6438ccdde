section CTR
theorem Ctr_ofN {y : MethodName} {cc : ByteArray} {nL : Nat} {ret : Option FieldType} {d mc : Nat} {sp : SP} (hy : plainName y.cls = true) (hln : ∀ As M K, sp As M K → (lent As).length ≤ nL)
    (hb : ∀ {p : Program} {l : Launch} {e : Jvm.Env} {R : Room} {s : State} {m : MethodId} {args : Array Value} {below : List Frame} {meth : Method} {c : Code} {Q : State → Prop} {w : Wd} {n0 n1 : Nat} {As : List Value} {M : Mem} {K : RT} {t1 : Nat × Bool},
      Cx p s m args c w cc y.cls nL → Cr R d n0 n1 0 → Re p l e R s m args below meth c Q w n0 t1 K ret → meth.name = y.name → n0 = gN M → n1 = gN M + mc → t1 = (gN M + mc, gE M) → sp As M K → Gm p l e R s m args below meth c Q w nL n0 n1 0 0 (lini nL As) [] M) : Ctr y cc nL ret d mc sp := by
  intro l w As M K hOk hsp
  refine Met.ofW (cc := cc) (maxL := nL) (ret := ret) hy rfl ?_
  intro p e s m args below meth c s₁ B hml hv
  obtain ⟨rfl, hR, hK, hE, hsz⟩ := hv
  have hts := atoms_spec (ws := .code y cc nL ret :: lw_ok) B.pre
  have hX : Cx p s m (As.map (tr w)).toArray c w cc y.cls nL := ⟨B.exec, B.bytes, hml, findClass_of_methodNamed B.named, fun x hx => hts x (List.mem_cons_of_mem _ hx), hK, hE, hOk⟩
  have hN : gN M + mc - gN M = mc := by omega
  have hg := hb (R := (headSpec (.code y cc nL ret :: lw_ok) (rmD d mc (SS (gN M + mc) - SS (gN M)))).room) (l := l) (e := e) (below := below) (meth := meth) (Q := MQ below (Qcm w (gN M + mc, gE M) K) (As.map (tr w)).toArray s mc (SS (gN M + mc) - SS (gN M)) (Aw w)) (n0 := gN M) (n1 := gN M + mc) (M := M) (K := K) (As := As) (t1 := (gN M + mc, gE M)) hX ⟨by show gN M + mc - gN M ≤ mc; omega, by exact Nat.le_refl _, Nat.le_refl _, Nat.le_refl _, Nat.le_add_right _ _⟩ ⟨B.returns, B.notSynchronized, fun H locs g hg => by
    dsimp only at hg ⊢
    rw [hN] at hg ⊢
    exact hg⟩ (name_of_methodNamed B.named B.method).1 rfl rfl rfl hsp
  have := hg _ s.heap [] (LocR.entry (hln As M K hsp)) hR va_S.rf ⟨Nat.le_refl _, hsz, Nat.le_add_right _ _, fun _ => rfl⟩
  rw [Nat.sub_self, Nat.sub_self] at this
  rw [lg_entry_eq]
  exact this
theorem Ctr_of {y : MethodName} {cc : ByteArray} {nL : Nat} {ret : Option FieldType} {d : Nat} {sp : SP} (hy : plainName y.cls = true) (hln : ∀ As M K, sp As M K → (lent As).length ≤ nL)
    (hb : ∀ {p : Program} {l : Launch} {e : Jvm.Env} {R : Room} {s : State} {m : MethodId} {args : Array Value} {below : List Frame} {meth : Method} {c : Code} {Q : State → Prop} {w : Wd} {n0 n1 : Nat} {As : List Value} {M : Mem} {K : RT},
      Cx p s m args c w cc y.cls nL → Cr R d n0 n1 0 → Re p l e R s m args below meth c Q w n0 M.1 K ret → sp As M K → Gm p l e R s m args below meth c Q w nL n0 n1 0 0 (lini nL As) [] M) : Ctr y cc nL ret d 0 sp :=
  Ctr_ofN hy hln (fun hX hr hre _ _ _ ht hs => hb hX hr (by rw [ht] at hre; exact hre) hs)
end CTR
