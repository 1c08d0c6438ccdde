section MORE
/-- where nothing is known to go on -/
def w_stop : KT := fun _ _ _ => False
/-- a static of which it is only known that it is a reference or null -/
def w_getsU (K : KT) : KT := fun L st M => K L (.null :: st) M ∧ ∀ t : Nat, K L (.ref (200000 + t) :: st) M
def w_f2raw (K : KT) : KT := fun L st M => match st with
  | .float b :: st => st.length ≤ 4 ∧ K L (.int b.toInt32 :: st) M
  | _ => False
def w_d2raw (K : KT) : KT := fun L st M => match st with
  | .double b :: st => st.length ≤ 4 ∧ K L (.long b.toInt64 :: st) M
  | _ => False
theorem s_stop {G : Nat → KT} {pc : Nat} : Sd G pc w_stop := fun _ _ _ h => h.elim
theorem ad_raw (w : Wd) (t : Nat) : ad w (200000 + t) = t := by
  unfold ad
  rw [if_neg (by omega), if_neg (by omega)]
  omega
variable {p : Program} {l : Launch} {e : Jvm.Env} {R : Room} {s : State} {m : MethodId} {args : Array Value} {below : List Frame} {meth : Method} {c : Code} {Q : State → Prop} {w : Wd} {cc : ByteArray} {own : String} {nL n0 n1 x9 : Nat}
theorem s_getsFMT (h : Cx p s m args c w cc own nL) {pc idx : Nat} {K : KT} (hl : Cond.fieldLink own idx "jdk/internal/util/Preconditions" "SIOOBE_FORMATTER" "Ljava/util/function/BiFunction;" ∈ lw_ok) (hd : decode cc pc = .ok (.getstatic idx, 3)) (hk : Sd (Gm p l e R s m args below meth c Q w nL n0 n1 x9) (pc + 3) K) : Sd (Gm p l e R s m args below meth c Q w nL n0 n1 x9) pc (w_getsU K) := by
  intro L st M hK ls H locs hL hR hS hn
  have hZ : va_Zq "jdk/internal/util/Preconditions" "SIOOBE_FORMATTER" "Ljava/util/function/BiFunction;" (Aw w) (wS w) (wS w).heap :=
    va_Zqof (tb_in h.2.2.2.2.2.2.2 (i := 646) (by decide +kernel)) (tb_in h.2.2.2.2.2.2.2 (i := 146) (by decide +kernel)) (nw_in h.2.2.2.2.2.2.2 (i := 78) (by decide +kernel)) (c_A w)
  rcases hZ with hZ | ⟨t, hZ⟩
  · exact va_gets (ref := "jdk/internal/util/Preconditions") h.1 h.2.1 (cZ h.2.2.2.2.2.2.1 hZ) hS h.2.2.2.1 (h.2.2.2.2.1 _ hl) (fun _ q => q) hd (hk _ _ _ hK.1 ls H locs hL hR hS hn)
  · have hg := hk _ _ _ (hK.2 t) ls H locs hL hR hS hn
    rw [List.map_cons, show tr w (.ref (200000 + t)) = .ref t from congrArg Value.ref (ad_raw w t)] at hg
    exact va_gets (ref := "jdk/internal/util/Preconditions") h.1 h.2.1 (cZ h.2.2.2.2.2.2.1 hZ) hS h.2.2.2.1 (h.2.2.2.2.1 _ hl) (fun _ q => q) hd hg
theorem s_f2raw (h : Cx p s m args c w cc own nL) {d : Nat} (hr : Cr R d n0 n1 x9) (hd1 : 1 ≤ d) {pc idx : Nat} {K : KT} (hl : Cond.methodLink own idx ⟨"java/lang/Float", "floatToRawIntBits", "(F)I"⟩ ∈ lw_ok) (hn1 : Cond.native ⟨"java/lang/Float", "floatToRawIntBits", "(F)I"⟩ ∈ lw_ok) (hn2 : Cond.static ⟨"java/lang/Float", "floatToRawIntBits", "(F)I"⟩ ∈ lw_ok) (hn3 : Cond.initialized "java/lang/Float" ∈ lw_ok) (hd : decode cc pc = .ok (.invokestatic idx, 3)) (hk : Sd (Gm p l e R s m args below meth c Q w nL n0 n1 x9) (pc + 3) K) : Sd (Gm p l e R s m args below meth c Q w nL n0 n1 x9) pc (w_f2raw K) := by
  intro L st M hK
  unfold w_f2raw at hK
  split at hK
  · rename_i b st
    intro ls H locs hL hR hS hn
    obtain ⟨hr1, hr2, hr3, hr4, h01⟩ := hr
    have hc := sum_cat (st.map (tr w)) 4 (by simpa using hK.1)
    exact vn_f2i h.1 h.2.1 (by rw [h.2.2.1]; exact hL.1.symm) h.2.2.2.1 (h.2.2.2.2.1 _ hl) (h.2.2.2.2.1 _ hn1) (h.2.2.2.2.1 _ hn2) (h.2.2.2.2.1 _ hn3) (Nat.le_trans hd1 hr3) (by omega) hd (hk _ _ _ hK.2 ls H locs hL hR hS hn)
  · exact hK.elim
theorem s_d2raw (h : Cx p s m args c w cc own nL) {d : Nat} (hr : Cr R d n0 n1 x9) (hd1 : 1 ≤ d) {pc idx : Nat} {K : KT} (hl : Cond.methodLink own idx ⟨"java/lang/Double", "doubleToRawLongBits", "(D)J"⟩ ∈ lw_ok) (hn1 : Cond.native ⟨"java/lang/Double", "doubleToRawLongBits", "(D)J"⟩ ∈ lw_ok) (hn2 : Cond.static ⟨"java/lang/Double", "doubleToRawLongBits", "(D)J"⟩ ∈ lw_ok) (hn3 : Cond.initialized "java/lang/Double" ∈ lw_ok) (hd : decode cc pc = .ok (.invokestatic idx, 3)) (hk : Sd (Gm p l e R s m args below meth c Q w nL n0 n1 x9) (pc + 3) K) : Sd (Gm p l e R s m args below meth c Q w nL n0 n1 x9) pc (w_d2raw K) := by
  intro L st M hK
  unfold w_d2raw at hK
  split at hK
  · rename_i b st
    intro ls H locs hL hR hS hn
    obtain ⟨hr1, hr2, hr3, hr4, h01⟩ := hr
    have hc := sum_cat (st.map (tr w)) 4 (by simpa using hK.1)
    exact vn_d2l h.1 h.2.1 (by rw [h.2.2.1]; exact hL.1.symm) h.2.2.2.1 (h.2.2.2.2.1 _ hl) (h.2.2.2.2.1 _ hn1) (h.2.2.2.2.1 _ hn2) (h.2.2.2.2.1 _ hn3) (Nat.le_trans hd1 hr3) (by omega) hd (hk _ _ _ hK.2 ls H locs hL hR hS hn)
  · exact hK.elim
def w_alen (K : KT) : KT := fun L st M => match st with
  | .ref a :: st => ((11 ≤ (Sh a).1 ∧ (Sh a).1 ≤ 18) ∧ (gE M = true → a < gN M)) ∧ K L (.int (Int32.ofNat (Sh a).2) :: st) M
  | _ => False
theorem ent_arr {w : Wd} {M : Mem} {a : Nat} (h : 11 ≤ (Sh a).1) : ∃ x, ent w M a = .inl (w.2.1 (Sh a).1, (Sh a).2, x) := by
  unfold ent
  rw [if_neg (by omega)]
  exact ⟨_, rfl⟩
theorem s_alen (h : Cx p s m args c w cc own nL) {pc : Nat} {K : KT} (hd : decode cc pc = .ok (.arraylength, 1)) (hk : Sd (Gm p l e R s m args below meth c Q w nL n0 n1 x9) (pc + 1) K) : Sd (Gm p l e R s m args below meth c Q w nL n0 n1 x9) pc (w_alen K) := by
  intro L st M hK
  unfold w_alen at hK
  split at hK
  · rename_i a st
    intro ls H locs hL hR hS hn
    obtain ⟨⟨⟨h1, h2⟩, h3⟩, hK⟩ := hK
    have ha := okA_lt hR (c := (Sh a).1) ⟨rfl, h3⟩ h2
    obtain ⟨x, hx⟩ := ent_arr (w := w) (M := M) h1
    have he : (cells w M (gN M))[a]? = some (ad w a, .inl (w.2.1 (Sh a).1, (Sh a).2, x)) := by rw [cells_get ha, hx, ad_own (by have := hR.2.1; omega)]
    have ht : (tysW w)[(Sh a).1 - 11]? = some (w.2.1 (Sh a).1, tyS.getD ((Sh a).1 - 11) .int) := by rw [tys_get (by omega), show 11 + ((Sh a).1 - 11) = (Sh a).1 by omega]
    exact va_alen h.1 h.2.1 h.2.2.2.2.2.1 hR.1 a _ he ht rfl hd (hk _ _ _ hK ls H locs hL hR hS hn)
  · exact hK.elim
def w_ldcS (_ : Nat) (K : KT) : KT := fun L st M => K L (.ref 100297 :: st) M
theorem s_ldcS (h : Cx p s m args c w cc "LaneMachine$Reader" nL) {pc : Nat} {K : KT} (hd : decode cc pc = .ok (.ldc 145, 2)) (hk : Sd (Gm p l e R s m args below meth c Q w nL n0 n1 x9) (pc + 2) K) : Sd (Gm p l e R s m args below meth c Q w nL n0 n1 x9) pc (w_ldcS 145 K) := by
  intro L st M hK ls H locs hL hR hS hn
  have hv := t_ev h.2.2.2.2.2.2.2 (t := 97) (by decide)
  have hZ : vk_R "LaneMachine$Reader" 145 "bhcilfd" (ad w 100297) (wS w) := vk_R.of (tb_in h.2.2.2.2.2.2.2 (i := 1013) (by decide +kernel)) hv
  exact va_ldcS h.1 h.2.1 h.2.2.2.1 (vk_R.warm h.2.2.2.2.2.2.1.1 hZ) hd (hk _ _ _ hK ls H locs hL hR hS hn)
end MORE
