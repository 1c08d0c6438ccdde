section LAWOPS
def w_sld (b L9 : Nat) (xs : Nat → Int32) (K : KT) : KT := fun L st M => match st with
  | .int i :: .ref a :: st => a = 200000 + b ∧ vp_in i L9 ∧ K L (.int (xs i.toNatClampNeg) :: st) M
  | _ => False
def w_slen (b L9 : Nat) (K : KT) : KT := fun L st M => match st with
  | .ref a :: st => a = 200000 + b ∧ K L (.int (Int32.ofNat L9) :: st) M
  | _ => False
def w_end (x : Nat) : KT := fun _ st _ => x ≤ 3073 ∧ st = [.int 1]
/-- no object is made from here on -/
def seM (M : Mem) : Mem := ((M.1.1, false), M.2)
theorem Gm_seal {p : Program} {l : Launch} {e : Jvm.Env} {R : Room} {s : State} {m : MethodId} {args : Array Value} {below : List Frame} {meth : Method} {c : Code} {Q : State → Prop} {w : Wd} {nL n0 n1 x pc : Nat} {L : LocS} {st : List Value} {M : Mem} (hN : gN M = 651) (h : Gm p l e R s m args below meth c Q w nL n0 n1 x pc L st (seM M)) : Gm p l e R s m args below meth c Q w nL n0 n1 x pc L st M := by
  intro ls H locs hL hR hS hn
  exact h ls H locs hL ⟨hR.1, hR.2.1, fun _ => hN⟩ hS ⟨hn.1, (fun z => by cases z), hn.2.2.1, (fun z => by cases z)⟩
variable {p : Program} {l : Launch} {e : Jvm.Env} {R : Room} {s : State} {m : MethodId} {args : Array Value} {below : List Frame} {meth : Method} {c : Code} {Q : State → Prop} {w : Wd} {cc : ByteArray} {own : String} {nL n0 n1 x9 : Nat}
theorem s_sld (h : Cx p s m args c w cc own nL) {b L9 : Nat} {xs : Nat → Int32} (hX : va_X b L9 xs s s.heap) (hbl : b < s.heap.size) (hbA : ¬ Aw w b) {pc : Nat} {K : KT} (hd : decode cc pc = .ok (.iaload, 1)) (hk : Sd (Gm p l e R s m args below meth c Q w nL n0 n1 x9) (pc + 1) K) : Sd (Gm p l e R s m args below meth c Q w nL n0 n1 x9) pc (w_sld b L9 xs K) := by
  intro L st M hK
  unfold w_sld at hK
  split at hK
  · rename_i i a st
    intro ls H locs hL hR hS hn
    obtain ⟨rfl, hin, hK⟩ := hK
    have hg := hk _ _ _ hK ls H locs hL hR hS hn
    rw [show List.map (tr w) (.int i :: .ref (200000 + b) :: st) = .int i :: .ref b :: st.map (tr w) by simp [tr, ad_raw]]
    exact va_sld h.1 h.2.1 hX hbl hbA hS hin hd hg
  · exact hK.elim
theorem s_slen (h : Cx p s m args c w cc own nL) {b L9 : Nat} {xs : Nat → Int32} (hX : va_X b L9 xs s s.heap) (hbl : b < s.heap.size) (hbA : ¬ Aw w b) {pc : Nat} {K : KT} (hd : decode cc pc = .ok (.arraylength, 1)) (hk : Sd (Gm p l e R s m args below meth c Q w nL n0 n1 x9) (pc + 1) K) : Sd (Gm p l e R s m args below meth c Q w nL n0 n1 x9) pc (w_slen b L9 K) := by
  intro L st M hK
  unfold w_slen at hK
  split at hK
  · rename_i a st
    intro ls H locs hL hR hS hn
    obtain ⟨rfl, hK⟩ := hK
    have hg := hk _ _ _ hK ls H locs hL hR hS hn
    rw [show List.map (tr w) (.ref (200000 + b) :: st) = .ref b :: st.map (tr w) by simp [tr, ad_raw]]
    exact va_slen h.1 h.2.1 hX hbl hbA hS hd hg
  · exact hK.elim
theorem s_fin9 {b : Nat} (h : Cx p s m #[Value.ref b] c w cL_law own 8) (hw : wS w = s) (hty : meth.sig.returnType = ret) (hlk : meth.locks = false) {x pc : Nat} (hx9 : x ≤ 3073) (hd : decode cL_law pc = .ok (.ireturn, 1)) : Sd (Gm p l e room_1 s m #[Value.ref b] below meth c (lw_Z below #[Value.ref b] s) w 8 0 651 x) pc (w_end x) := by
  intro L st M hK ls H locs hL hR hS hn
  obtain ⟨hx, rfl⟩ := hK
  have h1 : SS 651 ≤ 7000000 := by decide +kernel
  have h2 := SS_mono hR.2.1
  have h3 := hR.2.1
  refine W_wide (k := 601024) (n := 7293034) (by omega) (by omega) (va_forget (fun q hq => ?_) (lw_ret (d0 := s.drawn) (Drawn.sameBut.refl s.drawn lw_cs) h.1 h.2.1 hty hlk hd))
  have := hS.2.2 q hq
  unfold Aw b0 at this
  rw [show w.2.2.1 = s from hw] at this
  exact this
end LAWOPS
