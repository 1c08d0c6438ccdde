section MEM
/-- a field's words: the class own, at pool place idx, means field k of kind ci; i: the word's place -/
def fokB (own : String) (idx ci k i : Nat) : Bool := match vwCl[ci + 3]? with
  | some q => decide (k < q.2.2) && decide ((q.2.1 k).1 = q.1) && decide (lw_tbl[i]? = some (.fieldLink own idx q.1 (q.2.1 k).2.1 (q.2.1 k).2.2.1)) && decide (ci ≤ 10)
  | none => false
/-- .. and it may be written anywhere -/
def pokB (own : String) (idx ci k i : Nat) : Bool := fokB own idx ci k i && (match vwCl[ci + 3]? with
  | some q => decide ((q.2.1 k).2.2.2 = false)
  | none => false)
def okA (M : Mem) (a c : Nat) : Prop := (Sh a).1 = c ∧ (gE M = true → a < gN M)
def okR (M : Mem) (a c n : Nat) : Prop := Sh a = (c, n) ∧ (gE M = true → a < gN M)
theorem okA_lt {w : Wd} {M : Mem} {H : Heap} {a c : Nat} (hR : Rl w M H) (h : okA M a c) (hc : c ≤ 18) : a < gN M := by
  cases hE : gE M with
  | true => exact h.2 hE
  | false => rw [hR.2.2 hE]; exact Sh_lt (by rw [h.1]; exact hc)
theorem okR_lt {w : Wd} {M : Mem} {H : Heap} {a c n : Nat} (hR : Rl w M H) (h : okR M a c n) (hc : c ≤ 18) : a < gN M := okA_lt hR ⟨by rw [h.1], h.2⟩ hc
theorem fok_spec {own : String} {idx ci k i : Nat} (h : fokB own idx ci k i = true) : ci ≤ 10 ∧ ∃ (C : String) (T : u_T) (N : Nat), vwCl[ci + 3]? = some (C, T, N) ∧ (∀ x ∈ u_ws C T N, x ∈ lw_ok) ∧ (∀ k, k < N → parseFieldDescriptor (T k).2.2.1 = some (tyF ci k)) ∧ (∀ a, a < N → ∀ b, b < N → a ≠ b → (T a).2.1 ≠ (T b).2.1) ∧ N = (fT ci).length ∧ k < N ∧ (T k).1 = C ∧ Cond.fieldLink own idx C (T k).2.1 (T k).2.2.1 ∈ lw_ok := by
  unfold fokB at h
  cases hq : vwCl[ci + 3]? with
  | none => rw [hq] at h; cases h
  | some q =>
    rw [hq] at h
    simp only [Bool.and_eq_true, decide_eq_true_eq] at h
    obtain ⟨C, T, N, e, h1, h2, h3, h4⟩ := cl_all h.2
    rw [hq] at e
    cases e
    exact ⟨h.2, C, T, N, rfl, h1, h2, h3, h4, h.1.1.1, h.1.1.2, lw_in i h.1.2 rfl⟩
theorem W_sz {p : Program} {l : Launch} {e : Jvm.Env} {R : Room} {s : State} {m : MethodId} {args : Array Value} {below : List Frame} {meth : Method} {c : Code} {H : Heap} {locs : List Loc} {cells slots : Nat} {Q : State → Prop} {g : JFrame} (k : H.size ≤ s.heap.size + cells → W p l e R s m args below meth c H locs cells slots Q g) : W p l e R s m args below meth c H locs cells slots Q g := fun T hT X => k (by rw [← hT]; exact X.heapSize) T hT X
/-- the instructions on fields and rows -/
def w_getf (ci k t : Nat) (K : KT) : KT := fun L st M => match st with
  | .ref a :: st => okA M a ci ∧ K L (rdv t M a k :: st) M
  | _ => False
def w_putI (ci k : Nat) (K : KT) : KT := fun L st M => match st with
  | .int x :: .ref a :: st => okA M a ci ∧ K L st (uI M a k x)
  | _ => False
def w_putZ (ci k : Nat) (K : KT) : KT := fun L st M => match st with
  | .int x :: .ref a :: st => okA M a ci ∧ (x = 0 ∨ x = 1) ∧ K L st (uI M a k x)
  | _ => False
def w_putC (ci k : Nat) (K : KT) : KT := fun L st M => match st with
  | .int x :: .ref a :: st => okA M a ci ∧ (0 ≤ x ∧ x < 65536) ∧ K L st (uI M a k x)
  | _ => False
def w_putL (ci k : Nat) (K : KT) : KT := fun L st M => match st with
  | .long x :: .ref a :: st => okA M a ci ∧ K L st (uL M a k x)
  | _ => False
def w_putD (ci k : Nat) (K : KT) : KT := fun L st M => match st with
  | .double x :: .ref a :: st => okA M a ci ∧ K L st (uD M a k x)
  | _ => False
def w_putR (ci k : Nat) (K : KT) : KT := fun L st M => match st with
  | .ref x :: .ref a :: st => okA M a ci ∧ K L st (uR M a k (some x))
  | _ => False
def w_iald (K : KT) : KT := fun L st M => match st with
  | .int i :: .ref a :: st => okA M a 13 ∧ vp_in i (Sh a).2 ∧ K L (.int (gI M a i.toNatClampNeg) :: st) M
  | _ => False
def w_bald (K : KT) : KT := fun L st M => match st with
  | .int i :: .ref a :: st => okA M a 11 ∧ vp_in i (Sh a).2 ∧ K L (.int (gI M a i.toNatClampNeg) :: st) M
  | _ => False
def w_zald (K : KT) : KT := fun L st M => match st with
  | .int i :: .ref a :: st => okA M a 15 ∧ vp_in i (Sh a).2 ∧ K L (.int (gI M a i.toNatClampNeg) :: st) M
  | _ => False
def w_lald (K : KT) : KT := fun L st M => match st with
  | .int i :: .ref a :: st => okA M a 14 ∧ vp_in i (Sh a).2 ∧ K L (.long (gL M a i.toNatClampNeg) :: st) M
  | _ => False
def w_dald (K : KT) : KT := fun L st M => match st with
  | .int i :: .ref a :: st => okA M a 12 ∧ vp_in i (Sh a).2 ∧ K L (.double (gD M a i.toNatClampNeg) :: st) M
  | _ => False
def w_aald (k : Nat) (K : KT) : KT := fun L st M => match st with
  | .int i :: .ref a :: st => okA M a k ∧ vp_in i (Sh a).2 ∧ K L (va_rf (gR M a i.toNatClampNeg) :: st) M
  | _ => False
def w_iast (K : KT) : KT := fun L st M => match st with
  | .int x :: .int i :: .ref a :: st => okA M a 13 ∧ vp_in i (Sh a).2 ∧ K L st (uI M a i.toNatClampNeg x)
  | _ => False
def w_bast (K : KT) : KT := fun L st M => match st with
  | .int x :: .int i :: .ref a :: st => okA M a 11 ∧ vp_in i (Sh a).2 ∧ K L st (uI M a i.toNatClampNeg (vp_nar .byte x))
  | _ => False
def w_zast (K : KT) : KT := fun L st M => match st with
  | .int x :: .int i :: .ref a :: st => okA M a 15 ∧ vp_in i (Sh a).2 ∧ K L st (uI M a i.toNatClampNeg (vp_nar .boolean x))
  | _ => False
def w_last (K : KT) : KT := fun L st M => match st with
  | .long x :: .int i :: .ref a :: st => okA M a 14 ∧ vp_in i (Sh a).2 ∧ K L st (uL M a i.toNatClampNeg x)
  | _ => False
def w_dast (K : KT) : KT := fun L st M => match st with
  | .double x :: .int i :: .ref a :: st => okA M a 12 ∧ vp_in i (Sh a).2 ∧ K L st (uD M a i.toNatClampNeg x)
  | _ => False
/-- k: 16 rows of Row (kind 5), 17 of Saved (6), 18 of State (7) -/
def w_aast (k : Nat) (K : KT) : KT := fun L st M => match st with
  | .ref x :: .int i :: .ref a :: st => okA M a k ∧ okA M x (k - 11) ∧ vp_in i (Sh a).2 ∧ K L st (uR M a i.toNatClampNeg (some x))
  | _ => False
variable {p : Program} {l : Launch} {e : Jvm.Env} {R : Room} {s : State} {m : MethodId} {args : Array Value} {below : List Frame} {meth : Method} {c : Code} {Q : State → Prop} {w : Wd} {cc : ByteArray} {own : String} {nL n0 n1 x9 : Nat}
theorem s_getf (h : Cx p s m args c w cc own nL) {pc idx ci k t i : Nat} {K : KT} (hf : fokB own idx ci k i = true) (ht : (fT ci)[k]? = some t) (hd : decode cc pc = .ok (.getfield idx, 3)) (hk : Sd (Gm p l e R s m args below meth c Q w nL n0 n1 x9) (pc + 3) K) : Sd (Gm p l e R s m args below meth c Q w nL n0 n1 x9) pc (w_getf ci k t K) := by
  intro L st M hK
  unfold w_getf at hK
  split at hK
  · rename_i a st
    intro ls H locs hL hR hS hn
    obtain ⟨hc, C, T, N, hv, hw, hty, hnm, hN, hkN, hT, hl⟩ := fok_spec hf
    have ha := okA_lt hR hK.1 (by omega)
    have he : (cells w M (gN M))[a]? = some (ad w a, .inr (ci + 3, flds w M a ci)) := by rw [cells_get ha, ent_obj hK.1.1 hc, ad_own (by have := hR.2.1; omega)]
    refine va_get (C := C) (T := T) (N := N) (ref := C) h.1 h.2.1 h.2.2.2.2.1 hw h.2.2.2.1 h.2.2.2.2.2.1 hR.1 a he hv k hkN (h.2.2.2.2.1 _ hl) (fun x hx => by rw [hT] at hx; exact hx) (flds_get ht) hd ?_
    exact hk _ _ _ hK.2 ls H locs hL hR hS hn
  · exact hK.elim
theorem ent_uI_obj {w : Wd} {M : Mem} {a c k t : Nat} {x : Int32} (hc : c ≤ 10) (hs : (Sh a).1 = c) (ht : (fT c)[k]? = some t) (h0 : t = 0 ∨ t = 4 ∨ t = 5) : ent w (uI M a k x) a = .inr (c + 3, (flds w M a c).set k (.int x)) := by
  rw [ent_obj hs hc, flds_set (M' := uI M a k x) ht ?_ ?_]
  · rcases h0 with rfl | rfl | rfl <;> simp [rdv, gI_uI, tr]
  · intro j hj
    refine rdv_congr ?_ rfl rfl rfl
    rw [gI_uI, if_neg (fun z => hj z.2)]
theorem ent_uI_ne {w : Wd} {M : Mem} {a k b : Nat} {x : Int32} (hb : b ≠ a) : ent w (uI M a k x) b = ent w M b := ent_congr (up2_ne hb) rfl rfl rfl
theorem ent_uL_ne {w : Wd} {M : Mem} {a k b : Nat} {x : Int64} (hb : b ≠ a) : ent w (uL M a k x) b = ent w M b := ent_congr rfl (up2_ne hb) rfl rfl
theorem ent_uD_ne {w : Wd} {M : Mem} {a k b : Nat} {x : UInt64} (hb : b ≠ a) : ent w (uD M a k x) b = ent w M b := ent_congr rfl rfl (up2_ne hb) rfl
theorem ent_uR_ne {w : Wd} {M : Mem} {a k b : Nat} {x : Option Nat} (hb : b ≠ a) : ent w (uR M a k x) b = ent w M b := ent_congr rfl rfl rfl (up2_ne hb)
theorem Rl_set {w : Wd} {M M' : Mem} {H1 : Heap} {a : Nat} {E : va_E} (hN : gN M' = gN M) (hE : gE M' = gE M) (h2 : gN M ≤ 651 ∧ (gE M = false → gN M = 651)) (ha : a < 100000) (he : ent w M' a = E) (ho : ∀ b, b ≠ a → ent w M' b = ent w M b) (hP : va_P w.1 vwCl ((cells w M (gN M)).set a (ad w a, E)) H1) : Rl w M' H1 := by
  rw [ad_own ha, cells_set he ho] at hP
  refine ⟨by rw [hN]; exact hP, by rw [hN]; exact h2.1, fun h => by rw [hN]; exact h2.2 (by rw [← hE]; exact h)⟩
end MEM
