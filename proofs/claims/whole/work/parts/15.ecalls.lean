section ECALLS
def w_callE (n : Nat) (sp : SP) (K : KT) : KT := fun L st M => spl n [] st (fun As st' => st'.length ≤ 4 ∧ match As with
  | .ref a :: _ => isOp a ∧ sp As M (fun v M' => K L (v.toList ++ st') M')
  | _ => False)
def w_callT (n : Nat) (sp : SP) (K : KT) : KT := fun L st M => spl n [] st (fun As st' => st'.length ≤ 4 ∧ match As with
  | .ref a :: _ => isTx a ∧ sp As M (fun v M' => K L (v.toList ++ st') M')
  | _ => False)
def w_ord (K : KT) : KT := fun L st M => match st with
  | .ref a :: st => isOp a ∧ st.length ≤ 4 ∧ K L (.int (Int32.ofNat (a - 100000)) :: st) M
  | _ => False
variable {p : Program} {l : Launch} {e : Jvm.Env} {R : Room} {s : State} {m : MethodId} {args : Array Value} {below : List Frame} {meth : Method} {c : Code} {Q : State → Prop} {w : Wd} {cc : ByteArray} {own : String} {nL n0 n1 x9 : Nat}
theorem s_callE (h : Cx p s m args c w cc own nL) {d d' : Nat} (hr : Cr R d n0 n1 x9) {pc idx n : Nat} {K : KT} {sp : SP} {y : MethodName} {yc : ByteArray} {yL : Nat} {ret : Option FieldType} (hC : Ctr y yc yL ret d' 0 sp)
    (hc : y.cls = "LaneMachine$Op") (hl : Cond.methodLink own idx y ∈ lw_ok) (hi : Cond.instanceMethod y ∈ lw_ok) (hse : Cond.selects y.cls y y ∈ lw_ok) (hini : Cond.initialized y.cls ∈ lw_ok) (hco : Cond.code y yc yL ret ∈ lw_ok)
    (hd9 : y.cls ≠ "java/lang/invoke/MethodHandle" ∧ y.cls ≠ "java/lang/invoke/VarHandle" ∧ (parseMethodDescriptor y.desc).map (fun d => d.parameters.length) = some n) (hdd : d' < d) (hyL : yL ≤ 45)
    (hd : decode cc pc = .ok (.invokevirtual idx, 3)) (hk : Sd (Gm p l e R s m args below meth c Q w nL n0 n1 x9) (pc + 3) K) : Sd (Gm p l e R s m args below meth c Q w nL n0 n1 x9) pc (w_callE (n + 1) sp K) := by
  intro L st M hK
  obtain ⟨As, st', hlen, rfl, hle, hK⟩ := spl_spec _ _ _ _ hK
  rw [List.append_nil] at hK
  cases As with
  | nil => exact hK.elim
  | cons a0 As =>
    cases a0 with
    | ref a =>
      intro ls H locs hL hR hS hn
      obtain ⟨hA, hK⟩ := hK
      obtain ⟨hr1, hr2, hr3, hr4, h01⟩ := hr
      have hrecv : ∃ cellB : Cell, H[ad w a]? = some cellB ∧ cellB.vm.isStatics = false ∧ s.vm.findClass y.cls = some cellB.cls := by
        obtain ⟨q1, q2⟩ := hA
        obtain ⟨t9, rfl⟩ := Nat.exists_eq_add_of_le q1
        obtain ⟨cell, z1, z2, z3, -⟩ := (cO h.2.2.2.2.2.2.1 (op_O h.2.2.2.2.2.2.2 (k := t9) (by omega))).kept hS.2.1
        exact ⟨cell, z1, z2, by rw [hc]; exact z3⟩
      have hM := hC l w _ M _ h.2.2.2.2.2.2.2 hK
      rw [Nat.add_zero, Nat.sub_self] at hM
      refine W_sz (fun hsz0 => ?_)
      have hsz : gE M = true → H.size ≤ s.heap.size + (gN M - n0) := fun hE => by have := hn.2.2.2 hE; subst this; simpa using hsz0
      have hcl := List.length_cons ▸ hlen
      rw [show List.map (tr w) ((Value.ref a :: As).reverse ++ st') = (As.map (tr w)).reverse ++ .ref (ad w a) :: st'.map (tr w) by simp [tr]]
      refine run_go (va_runV (As := As.map (tr w)) (rest := st'.map (tr w)) (n := n) ⟨h.1, h.2.1, h.2.2.1, h.2.2.2.1, h.2.2.2.2.1⟩ hM (cwV (C := y.cls) n h.2.2.2.2.1 ?_ rfl rfl rfl ⟨rfl, hd9⟩ ⟨?_, ?_⟩) ⟨Pcm_blind, hrecv, fun U hU hW => Pcm_at h hR hS hn hsz U hU hW⟩ rfl (by simp at hlen ⊢; exact hlen) hL.1 rfl (lv_room ?_) hd ⟨?_, ?_⟩) hS (fun v M' H1 locs1 hKv hN hR1 hS1 => ?_)
      · intro x hx
        rcases List.mem_append.mp hx with hx | hx
        · have hx : x ∈ lw_ok := by
            simp only [List.mem_cons, List.not_mem_nil, or_false] at hx
            rcases hx with rfl | rfl | rfl | rfl
            · exact hl
            · exact hi
            · exact hse
            · exact hini
          exact ⟨hx, good_of_word (List.mem_filter.mp hx).2⟩
        · exact lw_good hco x hx
      · show d' + 1 ≤ R.frames
        omega
      · show 8 + (yL + 11) + 64 * d' ≤ R.locals
        omega
      · have := sum_cat (st'.map (tr w)) 4 (by simpa using hle)
        omega
      · show gN M - n0 + 8 * x9 + 0 ≤ R.cells
        omega
      · show SS (gN M) - SS n0 + 64 * x9 + 0 ≤ R.slots
        have := SS_mono hn.2.2.1
        omega
      · have hN1 : gN M' = gN M := congrArg Prod.fst hN
        have hE1 : gE M' = gE M := congrArg Prod.snd hN
        have hg := hk _ _ _ hKv ls H1 locs1 hL hR1 hS1 (by rw [hN1, hE1]; exact hn)
        rw [hN1] at hg
        rw [show (v.map (tr w)).toList ++ st'.map (tr w) = (v.toList ++ st').map (tr w) by cases v <;> rfl]
        exact hg
    | _ => exact hK.elim
theorem s_callT (h : Cx p s m args c w cc own nL) {d d' : Nat} (hr : Cr R d n0 n1 x9) {pc idx n : Nat} {K : KT} {sp : SP} {y : MethodName} {yc : ByteArray} {yL : Nat} {ret : Option FieldType} (hC : Ctr y yc yL ret d' 0 sp)
    (hc : y.cls = "java/lang/String") (hl : Cond.methodLink own idx y ∈ lw_ok) (hi : Cond.instanceMethod y ∈ lw_ok) (hse : Cond.selects y.cls y y ∈ lw_ok) (hini : Cond.initialized y.cls ∈ lw_ok) (hco : Cond.code y yc yL ret ∈ lw_ok)
    (hd9 : y.cls ≠ "java/lang/invoke/MethodHandle" ∧ y.cls ≠ "java/lang/invoke/VarHandle" ∧ (parseMethodDescriptor y.desc).map (fun d => d.parameters.length) = some n) (hdd : d' < d) (hyL : yL ≤ 45)
    (hd : decode cc pc = .ok (.invokevirtual idx, 3)) (hk : Sd (Gm p l e R s m args below meth c Q w nL n0 n1 x9) (pc + 3) K) : Sd (Gm p l e R s m args below meth c Q w nL n0 n1 x9) pc (w_callT (n + 1) sp K) := by
  intro L st M hK
  obtain ⟨As, st', hlen, rfl, hle, hK⟩ := spl_spec _ _ _ _ hK
  rw [List.append_nil] at hK
  cases As with
  | nil => exact hK.elim
  | cons a0 As =>
    cases a0 with
    | ref a =>
      intro ls H locs hL hR hS hn
      obtain ⟨hA, hK⟩ := hK
      obtain ⟨hr1, hr2, hr3, hr4, h01⟩ := hr
      have hrecv : ∃ cellB : Cell, H[ad w a]? = some cellB ∧ cellB.vm.isStatics = false ∧ s.vm.findClass y.cls = some cellB.cls := by
        obtain ⟨q1, q2⟩ := hA
        obtain ⟨t9, rfl⟩ := Nat.exists_eq_add_of_le q1
        obtain ⟨cell, z1, z2, z3, -⟩ := (cO h.2.2.2.2.2.2.1 (tx_O h.2.2.2.2.2.2.2 (k := t9) (by omega))).kept hS.2.1
        exact ⟨cell, z1, z2, by rw [hc]; exact z3⟩
      have hM := hC l w _ M _ h.2.2.2.2.2.2.2 hK
      rw [Nat.add_zero, Nat.sub_self] at hM
      refine W_sz (fun hsz0 => ?_)
      have hsz : gE M = true → H.size ≤ s.heap.size + (gN M - n0) := fun hE => by have := hn.2.2.2 hE; subst this; simpa using hsz0
      have hcl := List.length_cons ▸ hlen
      rw [show List.map (tr w) ((Value.ref a :: As).reverse ++ st') = (As.map (tr w)).reverse ++ .ref (ad w a) :: st'.map (tr w) by simp [tr]]
      refine run_go (va_runV (As := As.map (tr w)) (rest := st'.map (tr w)) (n := n) ⟨h.1, h.2.1, h.2.2.1, h.2.2.2.1, h.2.2.2.2.1⟩ hM (cwV (C := y.cls) n h.2.2.2.2.1 ?_ rfl rfl rfl ⟨rfl, hd9⟩ ⟨?_, ?_⟩) ⟨Pcm_blind, hrecv, fun U hU hW => Pcm_at h hR hS hn hsz U hU hW⟩ rfl (by simp at hlen ⊢; exact hlen) hL.1 rfl (lv_room ?_) hd ⟨?_, ?_⟩) hS (fun v M' H1 locs1 hKv hN hR1 hS1 => ?_)
      · intro x hx
        rcases List.mem_append.mp hx with hx | hx
        · have hx : x ∈ lw_ok := by
            simp only [List.mem_cons, List.not_mem_nil, or_false] at hx
            rcases hx with rfl | rfl | rfl | rfl
            · exact hl
            · exact hi
            · exact hse
            · exact hini
          exact ⟨hx, good_of_word (List.mem_filter.mp hx).2⟩
        · exact lw_good hco x hx
      · show d' + 1 ≤ R.frames
        omega
      · show 8 + (yL + 11) + 64 * d' ≤ R.locals
        omega
      · have := sum_cat (st'.map (tr w)) 4 (by simpa using hle)
        omega
      · show gN M - n0 + 8 * x9 + 0 ≤ R.cells
        omega
      · show SS (gN M) - SS n0 + 64 * x9 + 0 ≤ R.slots
        have := SS_mono hn.2.2.1
        omega
      · have hN1 : gN M' = gN M := congrArg Prod.fst hN
        have hE1 : gE M' = gE M := congrArg Prod.snd hN
        have hg := hk _ _ _ hKv ls H1 locs1 hL hR1 hS1 (by rw [hN1, hE1]; exact hn)
        rw [hN1] at hg
        rw [show (v.map (tr w)).toList ++ st'.map (tr w) = (v.toList ++ st').map (tr w) by cases v <;> rfl]
        exact hg
    | _ => exact hK.elim
theorem s_ord (h : Cx p s m args c w cc own nL) {d d' : Nat} (hr : Cr R d n0 n1 x9) {pc idx : Nat} {K : KT} {sp : SP} {x y : MethodName} {yc : ByteArray} {yL : Nat} (hC : Ctr y yc yL (some .int) d' 0 sp) (hsp : ∀ (a : Nat) (M : Mem) (K : RT), isOp a → K (some (.int (Int32.ofNat (a - 100000)))) M → sp [.ref a] M K)
    (hT : GoodIn lw_ok (va_wsU own idx "LaneMachine$Op" "java/lang/Enum" x y (.code y yc yL (some .int) :: lw_ok))) (hyx : y = ⟨"java/lang/Enum", x.name, x.desc⟩) (hp9 : (parseMethodDescriptor x.desc).map (fun d => d.parameters.length) = some 0) (hdd : d' < d) (hyL : yL ≤ 45)
    (hd : decode cc pc = .ok (.invokevirtual idx, 3)) (hk : Sd (Gm p l e R s m args below meth c Q w nL n0 n1 x9) (pc + 3) K) : Sd (Gm p l e R s m args below meth c Q w nL n0 n1 x9) pc (w_ord K) := by
  intro L st M hK
  unfold w_ord at hK
  split at hK
  · rename_i a st'
    intro ls H locs hL hR hS hn
    obtain ⟨hA, hle, hK⟩ := hK
    obtain ⟨hr1, hr2, hr3, hr4, h01⟩ := hr
    have hrecv : ∃ cellB : Cell, H[ad w a]? = some cellB ∧ cellB.vm.isStatics = false ∧ s.vm.findClass "LaneMachine$Op" = some cellB.cls := by
      obtain ⟨q1, q2⟩ := hA
      obtain ⟨t9, rfl⟩ := Nat.exists_eq_add_of_le q1
      obtain ⟨cell, z1, z2, z3, -⟩ := (cO h.2.2.2.2.2.2.1 (op_O h.2.2.2.2.2.2.2 (k := t9) (by omega))).kept hS.2.1
      exact ⟨cell, z1, z2, z3⟩
    have hM := hC l w [.ref a] M (fun v M' => K L (v.toList ++ st') M') h.2.2.2.2.2.2.2 (hsp a M _ hA hK)
    rw [Nat.add_zero, Nat.sub_self] at hM
    refine W_sz (fun hsz0 => ?_)
    have hsz : gE M = true → H.size ≤ s.heap.size + (gN M - n0) := fun hE => by have := hn.2.2.2 hE; subst this; simpa using hsz0
    refine run_go (va_runU (As := []) (rest := st'.map (tr w)) (n := 0) ⟨h.1, h.2.1, h.2.2.1, h.2.2.2.1, h.2.2.2.2.1⟩ hM (va_cwU 0 h.2.2.2.2.1 hT rfl rfl rfl hyx ⟨by decide, by decide, hp9⟩ ⟨?_, ?_⟩) ⟨Pcm_blind, hrecv, fun U hU hW => Pcm_at h hR hS hn hsz U hU hW⟩ rfl rfl hL.1 rfl (lv_room ?_) hd ⟨?_, ?_⟩) hS (fun v M' H1 locs1 hKv hN hR1 hS1 => ?_)
    · show d' + 1 ≤ R.frames
      omega
    · show 8 + (yL + 11) + 64 * d' ≤ R.locals
      omega
    · have := sum_cat (st'.map (tr w)) 4 (by simpa using hle)
      omega
    · show gN M - n0 + 8 * x9 + 0 ≤ R.cells
      omega
    · show SS (gN M) - SS n0 + 64 * x9 + 0 ≤ R.slots
      have := SS_mono hn.2.2.1
      omega
    · have hN1 : gN M' = gN M := congrArg Prod.fst hN
      have hE1 : gE M' = gE M := congrArg Prod.snd hN
      have hg := hk _ _ _ hKv ls H1 locs1 hL hR1 hS1 (by rw [hN1, hE1]; exact hn)
      rw [hN1] at hg
      rw [show (v.map (tr w)).toList ++ st'.map (tr w) = (v.toList ++ st').map (tr w) by cases v <;> rfl]
      exact hg
  · exact hK.elim
def fokF (own : String) (idx ci k i : Nat) : Bool := fokB own idx ci k i && (match vwCl[ci + 3]? with
  | some q => decide ((q.2.1 k).2.2.2 = true) && decide (q.1 = own)
  | none => false)
theorem fokF_spec {own : String} {idx ci k i : Nat} (h : fokF own idx ci k i = true) : fokB own idx ci k i = true ∧ ∀ q, vwCl[ci + 3]? = some q → (q.2.1 k).2.2.2 = true ∧ q.1 = own := by
  unfold fokF at h
  rw [Bool.and_eq_true] at h
  refine ⟨h.1, fun q hq => ?_⟩
  have := h.2
  rw [hq] at this
  simpa using this
theorem s_putRF (h : Cx p s m args c w cc own nL) (hin9 : meth.name = "<init>") {pc idx ci k i : Nat} {K : KT} (hf : fokF own idx ci k i = true) (ht : (fT ci)[k]? = some 3) (hy : (∃ n, tyF ci k = .object n) ∨ ∃ t, tyF ci k = .array t) (hd : decode cc pc = .ok (.putfield idx, 3)) (hk : Sd (Gm p l e R s m args below meth c Q w nL n0 n1 x9) (pc + 3) K) : Sd (Gm p l e R s m args below meth c Q w nL n0 n1 x9) pc (w_putR ci k K) := by
  intro L st M hK
  unfold w_putR at hK
  split at hK
  · rename_i x a st
    intro ls H locs hL hR hS hn
    obtain ⟨hf, hfin⟩ := fokF_spec hf
    obtain ⟨hc, C, T, N, hv, hw, hty, hnm, hN, hkN, hT, hl⟩ := fok_spec hf
    have ha := okA_lt hR hK.1 (by omega)
    have he : (cells w M (gN M))[a]? = some (ad w a, .inr (ci + 3, flds w M a ci)) := by rw [cells_get ha, ent_obj hK.1.1 hc, ad_own (by have := hR.2.1; omega)]
    have hfit := show narrow (tyF ci k) (.ref (ad w x)) = .ref (ad w x) ∧ fits (tyF ci k) (.ref (ad w x)) = true from nr_fit hy
    refine va_putF (C := C) (T := T) (N := N) (ref := C) (ty := tyF ci k) (v := .ref (ad w x)) h.1 h.2.1 h.2.2.2.2.1 hw (tyF ci) hty hnm h.2.2.2.1 h.2.2.2.2.2.1 hR.1 (cells_D w M _) hS a he hv k hkN (h.2.2.2.2.1 _ hl) (fun x hx => by rw [hT] at hx; exact hx) (hfin _ hv).1 hin9 (by rw [hT]; exact (hfin _ hv).2) (hty k hkN) hfit.1 hfit.2 (by rw [flds_len, ← hN]; exact hkN) hd ?_
    intro H1 locs1 hP1 hD1 hS1
    have hR1 : Rl w (uR M a k (some x)) H1 := Rl_set (M := M) rfl rfl hR.2 (by have := hR.2.1; omega) (show ent w (uR M a k (some x)) a = .inr (ci + 3, (flds w M a ci).set k (.ref (ad w x))) from by
      rw [ent_obj hK.1.1 hc, flds_set (M' := uR M a k (some x)) ht ?_ ?_]
      · simp [rdv, gR_uR, tr, va_rf]
      · intro j hj
        refine rdv_congr ?_ ?_ ?_ ?_ <;> first | rfl | (simp only [gR_uR]; rw [if_neg (fun z => hj z.2)])) (fun b hb => ent_uR_ne hb) hP1
    exact hk _ _ _ hK.2 ls H1 locs1 hL hR1 hS1 hn
  · exact hK.elim
end ECALLS
