section HEAP
theorem cells_get {w : Wd} {M : Mem} {n a : Nat} (h : a < n) : (cells w M n)[a]? = some (b0 w + a, ent w M a) := by simp [cells, h]
theorem cells_inv {w : Wd} {M : Mem} {n k : Nat} {q : Nat × va_E} (h : (cells w M n)[k]? = some q) : k < n ∧ q = (b0 w + k, ent w M k) := by
  have hk : k < n := by
    have := (List.getElem?_eq_some_iff.mp h).1
    simpa [cells] using this
  rw [cells_get hk] at h
  exact ⟨hk, (Option.some.inj h).symm⟩
theorem cells_D (w : Wd) (M : Mem) (n : Nat) : va_D (Aw w) (cells w M n) := by
  refine ⟨fun i j p q hp hq e => ?_, fun k q hq => ?_⟩
  · obtain ⟨-, rfl⟩ := cells_inv hp
    obtain ⟨-, rfl⟩ := cells_inv hq
    dsimp only at e
    omega
  · obtain ⟨-, rfl⟩ := cells_inv hq
    exact Nat.le_add_right _ _
theorem cells_len (w : Wd) (M : Mem) (n : Nat) : (cells w M n).length = n := by simp [cells]
theorem cells_set {w : Wd} {M M' : Mem} {n a : Nat} {E : va_E} (he : ent w M' a = E) (ho : ∀ b, b ≠ a → ent w M' b = ent w M b) : (cells w M n).set a (b0 w + a, E) = cells w M' n := by
  apply List.ext_getElem?
  intro i
  rw [List.getElem?_set]
  by_cases hi : i < n
  · rw [cells_get (M := M) hi, cells_get (M := M') hi]
    by_cases ha : a = i
    · subst ha
      rw [if_pos rfl, if_pos (by rw [cells_len]; exact hi), he]
    · rw [if_neg ha, ho i (fun z => ha z.symm)]
  · have h1 : (cells w M n)[i]? = none := by rw [List.getElem?_eq_none_iff, cells_len]; omega
    have h2 : (cells w M' n)[i]? = none := by rw [List.getElem?_eq_none_iff, cells_len]; omega
    rw [h1, h2]
    split
    · rw [if_neg]; rw [cells_len]; omega
    · rfl
theorem flds_get {w : Wd} {M : Mem} {a c k t : Nat} (h : (fT c)[k]? = some t) : (flds w M a c)[k]? = some (tr w (rdv t M a k)) := by
  have hk := (List.getElem?_eq_some_iff.mp h).1
  have ht : (fT c).getD k 0 = t := by rw [List.getD_eq_getElem?_getD, h]; rfl
  simp [flds, hk, ← ht]
theorem flds_len (w : Wd) (M : Mem) (a c : Nat) : (flds w M a c).length = (fT c).length := by simp [flds]
theorem rdv_congr {t : Nat} {M M' : Mem} {a k : Nat} (h1 : gI M' a k = gI M a k) (h2 : gL M' a k = gL M a k) (h3 : gD M' a k = gD M a k) (h4 : gR M' a k = gR M a k) : rdv t M' a k = rdv t M a k := by
  unfold rdv
  split <;> simp only [h1, h2, h3, h4]
theorem flds_set {w : Wd} {M M' : Mem} {a c k t : Nat} {v : Value} (h : (fT c)[k]? = some t) (hv : tr w (rdv t M' a k) = v) (ho : ∀ j, j ≠ k → rdv ((fT c).getD j 0) M' a j = rdv ((fT c).getD j 0) M a j) : (flds w M a c).set k v = flds w M' a c := by
  have hk := (List.getElem?_eq_some_iff.mp h).1
  apply List.ext_getElem?
  intro i
  rw [List.getElem?_set]
  by_cases hi : i < (fT c).length
  · have e1 : (fT c)[i]? = some ((fT c)[i]) := List.getElem?_eq_getElem hi
    rw [flds_get (M := M') e1]
    by_cases hki : k = i
    · subst hki
      rw [if_pos rfl, if_pos (by rw [flds_len]; exact hk)]
      rw [h] at e1
      rw [← Option.some.inj e1, hv]
    · rw [if_neg hki, flds_get (M := M) e1]
      have e2 : (fT c).getD i 0 = (fT c)[i] := by rw [List.getD_eq_getElem?_getD, e1]; rfl
      have := ho i (fun z => hki z.symm)
      rw [e2] at this
      rw [this]
  · have n1 : (flds w M a c)[i]? = none := by rw [List.getElem?_eq_none_iff, flds_len]; omega
    have n2 : (flds w M' a c)[i]? = none := by rw [List.getElem?_eq_none_iff, flds_len]; omega
    rw [n1, n2]
    split
    · rw [if_neg]; rw [flds_len]; omega
    · rfl
theorem ent_obj {w : Wd} {M : Mem} {a c : Nat} (h : (Sh a).1 = c) (hc : c ≤ 10) : ent w M a = .inr (c + 3, flds w M a c) := by
  subst h
  unfold ent
  rw [if_pos hc]
theorem ent_congr {w : Wd} {M M' : Mem} {b : Nat} (h1 : gI M' b = gI M b) (h2 : gL M' b = gL M b) (h3 : gD M' b = gD M b) (h4 : gR M' b = gR M b) : ent w M' b = ent w M b := by
  unfold ent
  have hf : flds w M' b (Sh b).1 = flds w M b (Sh b).1 := by
    unfold flds
    refine List.map_congr_left fun j _ => ?_
    rw [rdv_congr (M := M) (M' := M') (by rw [h1]) (by rw [h2]) (by rw [h3]) (by rw [h4])]
  rw [hf, h1, h2, h3, h4]
theorem ent_I {w : Wd} {M : Mem} {a k n : Nat} (h : Sh a = (k, n)) (hk : k = 11 ∨ k = 13 ∨ k = 15) : ent w M a = .inl (w.2.1 k, n, .inl (gI M a)) := by
  unfold ent
  rw [h]
  rcases hk with rfl | rfl | rfl <;> rfl
theorem ent_J {w : Wd} {M : Mem} {a n : Nat} (h : Sh a = (14, n)) : ent w M a = .inl (w.2.1 14, n, .inr (.inl (gL M a))) := by
  unfold ent
  rw [h]
  rfl
theorem ent_D {w : Wd} {M : Mem} {a n : Nat} (h : Sh a = (12, n)) : ent w M a = .inl (w.2.1 12, n, .inr (.inr (.inr (.inl (gD M a))))) := by
  unfold ent
  rw [h]
  rfl
theorem ent_R {w : Wd} {M : Mem} {a k n : Nat} (h : Sh a = (k, n)) (hk : k = 16 ∨ k = 17 ∨ k = 18) : ent w M a = .inl (w.2.1 k, n, .inr (.inr (.inr (.inr (fun j => (gR M a j).map (ad w)))))) := by
  unfold ent
  rw [h]
  rcases hk with rfl | rfl | rfl <;> rfl
theorem tys_get {w : Wd} {k : Nat} (hk : k < 8) : (tysW w)[k]? = some (w.2.1 (11 + k), tyS.getD k .int) := by simp [tysW, hk]
theorem up2_ne {α : Type} {f : Nat → Nat → α} {a k b : Nat} {x : α} (h : b ≠ a) : up2 f a k x b = f b := by
  funext j
  unfold up2
  rw [if_neg (fun z => h z.1)]
theorem up2_row {α : Type} {f : Nat → Nat → α} {a k : Nat} {x : α} : up2 f a k x a = fun j => if j = k then x else f a j := by
  funext j
  unfold up2
  by_cases hj : j = k
  · rw [if_pos ⟨rfl, hj⟩, if_pos hj]
  · rw [if_neg (fun z => hj z.2), if_neg hj]
theorem rw2_ne {α : Type} {f : Nat → Nat → α} {a b : Nat} {r : Nat → α} (h : b ≠ a) : rw2 f a r b = f b := by unfold rw2; rw [if_neg h]
theorem rw2_eq {α : Type} {f : Nat → Nat → α} {a : Nat} {r : Nat → α} : rw2 f a r a = r := by unfold rw2; rw [if_pos rfl]
theorem ad_own {w : Wd} {a : Nat} (h : a < 100000) : ad w a = b0 w + a := by unfold ad; rw [if_pos h]
theorem Sh_lt {a : Nat} (h : (Sh a).1 ≤ 18) : a < 651 := by
  by_cases ha : a < 651
  · exact ha
  · exfalso
    have e : shTab.length = 651 := by decide +kernel
    have : Sh a = (99, 0) := by
      unfold Sh
      rw [List.getD_eq_getElem?_getD, List.getElem?_eq_none (by omega)]
      rfl
    rw [this] at h
    exact absurd h (by decide)
end HEAP
section CTX
variable {p : Program} {l : Launch} {e : Jvm.Env} {R : Room} {s : State} {m : MethodId} {args : Array Value} {below : List Frame} {meth : Method} {c : Code} {Q : State → Prop} {w : Wd} {cc : ByteArray} {own : String} {nL n0 n1 x9 : Nat}
/-- what a walk stands on -/
def Cx (p : Program) (s : State) (m : MethodId) (args : Array Value) (c : Code) (w : Wd) (cc : ByteArray) (own : String) (nL : Nat) : Prop :=
  p.tables.exec = Jvm.exec ∧ c.code = cc ∧ c.maxLocals = nL ∧ s.vm.findClass own = some m.cls ∧ (∀ x ∈ lw_ok, x.before args s = true) ∧ va_K w.1 vwCl (tysW w) s ∧ EnvW w s ∧ Ok w
/-- the machine at pc, with these locals, this stack, this memory, comes to its end -/
def Gm (p : Program) (l : Launch) (e : Jvm.Env) (R : Room) (s : State) (m : MethodId) (args : Array Value) (below : List Frame) (meth : Method) (c : Code) (Q : State → Prop) (w : Wd) (nL n0 n1 x9 : Nat) (pc : Nat) : KT := fun L st M =>
  ∀ (ls : Array Slot) (H : Heap) (locs : List Loc), LocR w nL L ls → Rl w M H → va_S (Aw w) s.heap H locs → n0 ≤ gN M ∧ (gE M = true → s.heap.size = b0 w + n0) ∧ gN M ≤ n1 ∧ (gE M = true → x9 = 0) → W p l e R s m args below meth c H locs (gN M - n0 + 8 * x9) (SS (gN M) - SS n0 + 64 * x9) Q (F0 m pc ls (st.map (tr w)))
def Sd (G : Nat → KT) (pc : Nat) (K : KT) : Prop := ∀ (L : LocS) (st : List Value) (M : Mem), K L st M → G pc L st M
end CTX
