section FACE3
section
variable {M M' : Mem} {K : RT} {X : Mem → Prop} {s : SG} {Fl : Mem → Nat → (Nat → Nat → Int64) → Prop} {S : Nat → Prop}
theorem blI_pI {b : Bool} {P : Prop} (h : P ↔ b = true) : pI P = blI b := by
  cases b
  · rw [pI_f (fun z => by simpa using h.mp z)]; rfl
  · rw [pI_t (h.mpr rfl)]; rfl
theorem blI_inj {a b : Bool} : blI a = blI b ↔ a = b := by cases a <;> cases b <;> decide
theorem nar_bl (b : Bool) : vp_nar .boolean (blI b) = blI b := by cases b <;> decide
theorem k_stop {i : Int32} {on : Bool} (hFl : FlOK Fl) (hW : Wf M) (hC : CI Fl M s) (h : ∀ M', Wf M' → Mo clsS M M' → CI Fl M' (sStop i on s).2 → K (some (.int (sStop i on s).1)) M') : sp_X12_stop [.ref 0, .int i, .int (blI on)] M K := by
  obtain ⟨⟨c1, c2, c3, c4, c5, c6⟩, cx⟩ := hC
  have hn := c2.1.1
  unfold sStop at h
  have no : ¬ (inI i (gPr s).1 ∧ gSt s (iv i) ≠ on) → K (some (.int (0 : Int32))) M := fun z => by rw [iT_f z] at h; exact h M hW Mo.rf ⟨⟨c1, c2, c3, c4, c5, c6⟩, cx⟩
  refine wX12_stop hW ?_
  rw [has_P c2.1.2.1 (by omega)]
  refine ⟨fun z => no (fun y => z y.1), fun hi => ?_⟩
  have hi1 : inI i 100 := ⟨hi.1, by have := hi.2; omega⟩
  have hlt := inI_lt hi1
  have ep : pI (P_X12_isStop i M) = blI (gSt s (iv i)) := blI_pI (by
    unfold P_X12_isStop
    rw [cl_of hi1 (by decide), c3 _ hlt]
    have hh := (inI_iff (N := 100) (by decide)).mp hi1
    rw [blI_0]
    refine ⟨fun z => by simpa using z.2.2, fun z => ⟨hh.1, hh.2, by simpa using z⟩⟩)
  refine ⟨?_, ?_⟩
  · unfold q_X12_isStop
    exact fun _ _ => vp_of hi1 (by decide)
  · rw [ep, blI_inj]
    refine ⟨fun z => ⟨vp_of hi1 (by decide), ?_⟩, fun z => no (fun y => y.2 z)⟩
    rw [cl_of hi1 (by decide), nar_bl]
    rw [iT_t ⟨hi, z⟩] at h
    have hm : Mo (fun b => b = 455) M (uI M 455 (iv i) (blI on)) := Mo_uI rfl
    have nb : ∀ b, b ≠ 455 → ¬ (fun b => b = 455) b := fun b hb z => hb z
    refine h _ (Wf_uI hW) (hm.mono (fun b hb => by have hb : b = 455 := hb; subst hb; unfold clsS; decide)) ⟨⟨c1.mo hm (by decide) (by decide), CPr.mo (s := s) hm (by decide) (by decide) (by decide) (by decide) (by decide) c2, fun j hj => ?_, c4.mo hm (by decide), c5.mo hm (by decide) (fun b hb => by have hb : b = 455 := hb; omega), c6.mo hFl hm (fun b hb => by have hb : b = 455 := hb; omega)⟩, cx.mo hW hm (fun b hb => by have hb : b = 455 := hb; omega)⟩
    show gI _ 455 j = blI (up1 (gSt s) (iv i) on j)
    by_cases y : j = iv i
    · subst y; rw [rI_eq, up1_eq]
    · rw [rI_k y, up1_ne y]; exact c3 j hj
theorem sh_ln {i : Nat} (hi : i < 64) : ((nI i).toInt64 &&& 63) = lN i ∧ ((lN i).toBitVec.smod 64).toNat = i := by
  have : ∀ i ∈ List.range 64, ((nI i).toInt64 &&& 63) = lN i ∧ ((lN i).toBitVec.smod 64).toNat = i := by decide +kernel
  exact this i (List.mem_range.mpr hi)
theorem sh_one {i : Nat} (hi : i < 64) : ((1 : Int64) <<< ((nI i).toInt64 &&& 63)).toBitVec = 1#64 <<< i := by
  obtain ⟨e, hs⟩ := sh_ln hi
  have e1 : (1 : Int64).toBitVec = 1#64 := rfl
  rw [e, Int64.toBitVec_shiftLeft, BitVec.shiftLeft_eq', hs, e1]
theorem wbit_b {w : Int64} {i : Nat} (hi : i < 64) : wbit w i ↔ w.toBitVec.getLsbD i = true := by
  obtain ⟨e, hs⟩ := sh_ln hi
  have e1 : (1 : Int64).toBitVec = 1#64 := rfl
  have e0 : (0 : Int64).toBitVec = 0#64 := rfl
  unfold wbit
  rw [e, ← Int64.toBitVec_inj, Int64.toBitVec_and, Int64.toBitVec_shiftRight, BitVec.sshiftRight_eq', hs, e1, e0]
  have g : (w.toBitVec.sshiftRight i).getLsbD 0 = w.toBitVec.getLsbD i := by rw [BitVec.getLsbD_sshiftRight]; simp [hi]
  constructor
  · intro h
    cases z : w.toBitVec.getLsbD i with
    | true => rfl
    | false =>
      rw [z] at g
      refine absurd ?_ h
      apply BitVec.eq_of_getLsbD_eq
      intro j hj
      rw [BitVec.getLsbD_and]
      by_cases y : j = 0
      · subst y; rw [g]; rfl
      · simp [BitVec.getLsbD_one, y]
  · intro h z
    have := congrArg (fun z => z.getLsbD 0) z
    simp only [BitVec.getLsbD_and] at this
    rw [g, h] at this
    simp at this
theorem sh_and {w : Int64} {i : Nat} (hi : i < 64) : (w &&& ((1 : Int64) <<< ((nI i).toInt64 &&& 63))) = 0 ↔ ¬ wbit w i := by
  have e0 : (0 : Int64).toBitVec = 0#64 := rfl
  rw [wbit_b hi, ← Int64.toBitVec_inj, Int64.toBitVec_and, sh_one hi, e0]
  constructor
  · intro h z
    have := congrArg (fun z => z.getLsbD i) h
    simp only [BitVec.getLsbD_and] at this
    rw [z] at this
    simp [hi] at this
  · intro h
    apply BitVec.eq_of_getLsbD_eq
    intro j hj
    rw [BitVec.getLsbD_and]
    by_cases y : j = i
    · subst y; simp only [Bool.not_eq_true] at h; rw [h]; simp
    · have : (1#64 <<< i).getLsbD j = false := by
        simp [BitVec.getLsbD_shiftLeft, BitVec.getLsbD_one]; omega
      rw [this]; simp
theorem wbit_x {w : Int64} {i j : Nat} (hi : i < 64) (hj : j < 64) : wbit (w ^^^ ((1 : Int64) <<< ((nI i).toInt64 &&& 63))) j ↔ (if j = i then ¬ wbit w j else wbit w j) := by
  rw [wbit_b hj, wbit_b hj, Int64.toBitVec_xor, sh_one hi, BitVec.getLsbD_xor]
  by_cases y : j = i
  · subst y
    have : (1#64 <<< j).getLsbD j = true := by simp [BitVec.getLsbD_shiftLeft, hj]
    rw [if_pos rfl, this]; simp
  · have : (1#64 <<< i).getLsbD j = false := by
      simp [BitVec.getLsbD_shiftLeft, BitVec.getLsbD_one]; omega
    rw [if_neg y, this]; simp
theorem k_watch {m i : Int32} {on : Bool} (hFl : FlOK Fl) (hW : Wf M) (hC : CI Fl M s) (h : ∀ M', Wf M' → Mo clsS M M' → CI Fl M' (sWatch m i on s).2 → K (some (.int (sWatch m i on s).1)) M') : sp_X12_watch [.ref 0, .int m, .int i, .int (blI on)] M K := by
  obtain ⟨⟨c1, c2, c3, c4, c5, c6⟩, cx⟩ := hC
  unfold sWatch at h
  have no : ¬ (inI m 8 ∧ inI i 64 ∧ (wbit (gWw s (iv m)) (iv i) ↔ on = false)) → K (some (.int (0 : Int32))) M := fun z => by rw [iT_f z] at h; exact h M hW Mo.rf ⟨⟨c1, c2, c3, c4, c5, c6⟩, cx⟩
  refine wX12_watch hW ⟨fun z => no (fun y => ((inI_iff (by decide)).mp y.1).1 z), fun a => ⟨fun z => no (fun y => ((inI_iff (N := 8) (by decide)).mp y.1).2 z), fun b => ⟨fun z => no (fun y => ((inI_iff (by decide)).mp y.2.1).1 z), fun e => ⟨fun f => ?_, fun z => no (fun y => z ((inI_iff2 (N := 64) (by decide)).mp y.2.1).2)⟩⟩⟩⟩
  have hm : inI m 8 := (inI_iff (by decide)).mpr ⟨a, b⟩
  have hi : inI i 64 := (inI_iff2 (by decide)).mpr ⟨e, f⟩
  have hm8 := inI_lt hm
  have hi64 := inI_lt hi
  have fin : (wbit (gWw s (iv m)) (iv i) ↔ on = false) → K (some (.int (1 : Int32))) (uL M 456 (iv m) (gWw s (iv m) ^^^ ((1 : Int64) <<< ((nI (iv i)).toInt64 &&& 63)))) := fun z => by
    rw [iT_t ⟨hm, hi, z⟩] at h
    have hm1 : Mo (fun b => b = 456) M (uL M 456 (iv m) (gWw s (iv m) ^^^ ((1 : Int64) <<< ((nI (iv i)).toInt64 &&& 63)))) := Mo_uL rfl
    refine h _ (Wf_uL hW) (hm1.mono (fun b hb => by have hb : b = 456 := hb; subst hb; unfold clsS; decide)) ⟨⟨c1.mo hm1 (by decide) (by decide), CPr.mo (s := s) hm1 (by decide) (by decide) (by decide) (by decide) (by decide) c2, c3.mo hm1 (by decide), fun j hj => ?_, c5.mo hm1 (by decide) (fun b hb => by have hb : b = 456 := hb; omega), c6.mo hFl hm1 (fun b hb => by have hb : b = 456 := hb; omega)⟩, cx.mo hW hm1 (fun b hb => by have hb : b = 456 := hb; omega)⟩
    show gL _ 456 j = up1 (gWw s) (iv m) _ j
    by_cases y : j = iv m
    · subst y; rw [rL_eq, up1_eq]
    · rw [rL_k y, up1_ne y]; exact c4 j hj
  have v8 := vp_of hm (N := 8) (by decide)
  have ei := inI_nI hi
  refine ⟨v8, ?_⟩
  rw [cl_of hm (by decide), c4 _ hm8]
  have eb : i.toInt64 = (nI (iv i)).toInt64 := congrArg _ ei
  rw [eb, sh_and hi64]
  have o0 : (0 : Int32) = blI on ↔ on = false := by cases on <;> decide
  have o1 : (1 : Int32) = blI on ↔ ¬ on = false := by cases on <;> decide
  rw [o0, o1]
  refine ⟨fun w => ⟨fun z => ⟨v8, v8, fin ⟨fun y => absurd y w, fun y => absurd y z⟩⟩, fun z => no (fun y => w (y.2.2.mpr z))⟩, fun w => ⟨fun z => ⟨v8, v8, fin ⟨fun _ => Classical.not_not.mp z, fun _ => Classical.not_not.mp w⟩⟩, fun z => no (fun y => z (y.2.2.mp (Classical.not_not.mp w)))⟩⟩
theorem trc_get {tgf : Nat → Nat × Nat} {l : Nat} : ∀ (tr : List TE) (k : Nat) (cur : ES), TrC M tgf l k cur tr → ∀ j t, tr[j]? = some t → gI M 11 (slN l (k + j)) = nI t.1 ∧ gI M 12 (slN l (k + j)) = nI t.2.1 := by
  intro tr
  induction tr with
  | nil => intro k cur _ j t h; simp at h
  | cons t rest ih =>
    intro k cur hc j u hj
    obtain ⟨⟨a1, a2, -⟩, -, -, a7⟩ := hc
    cases j with
    | zero => simp at hj; subst hj; exact ⟨a1, a2⟩
    | succ j =>
      simp at hj
      have := ih (k + 1) _ a7 j u hj
      rw [show k + (j + 1) = k + 1 + j by omega]
      exact this
theorem k_trace {k w : Int32} (hW : Wf M) (hC : CI Fl M s) (h : K (some (.int (sTrace k w s))) M) : sp_X12_trace [.ref 0, .int k, .int w] M K := by
  obtain ⟨-, ⟨-, -, ⟨l, hI, hT⟩, -⟩⟩ := hC
  have hlen := hI.2.2.2.1
  unfold sTrace at h
  have no : ¬ inI k (gTr s).length → K (some (.int (-1 : Int32))) M := fun z => by rw [iT_f z] at h; exact h
  refine wX12_trace hW ?_
  rw [hI.2.2.1]
  refine ⟨fun z => no (fun y => ((inI_iff (by omega)).mp y).1 z), fun a => ⟨fun z => no (fun y => ((inI_iff (by omega)).mp y).2 z), fun b => ?_⟩⟩
  have hk : inI k (gTr s).length := (inI_iff (by omega)).mpr ⟨a, b⟩
  have hlt := inI_lt hk
  rw [iT_t hk] at h
  obtain ⟨t, ht⟩ : ∃ t, (gTr s)[iv k]? = some t := ⟨_, List.getElem?_eq_getElem hlt⟩
  rw [ht] at h
  simp only at h
  obtain ⟨g1, g2⟩ := trc_get _ 0 _ hT _ _ ht
  rw [Nat.zero_add] at g1 g2
  have es : f_X11_slot k M = nI (slN l (iv k)) := by
    unfold f_X11_slot
    rw [hI.2.1]
    conv => lhs; rw [inI_nI hk]
    exact slot_l hI.1 (by omega)
  have hs64 := slN_lt (l := l) (k := iv k)
  rw [es, nI_clamp (by omega), g1, g2]
  have v64 : vp_in (nI (slN l (iv k))) 64 := vpN hs64 (by decide)
  have n01 : ¬ w = 0 → ¬ w = 1 → K (some (.int (-1 : Int32))) M := fun z y => by rw [if_neg z, if_neg y] at h; exact h
  refine ⟨fun z => n01 (fun y => by subst y; exact absurd z (by decide)) (fun y => by subst y; exact absurd z (by decide)), fun e => ⟨fun f => ⟨fun z => ⟨v64, ?_⟩, fun z => ⟨v64, ?_⟩⟩, fun f => n01 (fun y => f (by subst y; decide)) (fun y => f (by subst y; decide))⟩⟩
  · have w1 : w = 1 := by
      rw [Int32.lt_iff_toInt_lt] at e
      rw [Int32.le_iff_toInt_le] at f
      have e0 : (0 : Int32).toInt = 0 := rfl
      have e1 : (1 : Int32).toInt = 1 := rfl
      rw [e0] at e; rw [e1] at f
      have : w.toInt ≠ 0 := fun y => z (Int32.toInt_inj.mp (by rw [y, e0]))
      exact Int32.toInt_inj.mp (by rw [e1]; omega)
    rw [if_neg z, if_pos w1] at h
    exact h
  · rw [if_pos z] at h
    exact h
theorem k_fault {w : Int32} (hW : Wf M) (hC : CI Fl M s) (h : K (some (.int (sFault w s))) M) : sp_X12_fault [.ref 0, .int w] M K := by
  obtain ⟨-, ⟨-, -, -, -, f1, f2, f3⟩⟩ := hC
  unfold sFault at h
  refine wX12_fault hW (fun {G} hc => ?_)
  rw [f1]
  refine ⟨fun z => eX12_fault_15 hc hW ?_, fun z => eX12_fault_15 hc hW ?_⟩
  · have f3 := f3 z
    rw [f1]
    rw [f3] at h ⊢
    refine ⟨fun y => by rw [if_pos y] at h; exact h, fun y => ⟨fun x => ⟨fun _ => by rw [if_neg y, if_pos x] at h; exact h, fun q => absurd rfl q⟩, fun x => ⟨fun v => ⟨fun _ => by rw [if_neg y, if_neg x, if_pos v] at h; exact h, fun q => absurd rfl q⟩, fun v => by rw [if_neg y, if_neg x, if_neg v] at h; exact h⟩⟩⟩
  · obtain ⟨g1, g2⟩ := f2 z
    rw [f1, g1, g2]
    refine ⟨fun y => by rw [if_pos y] at h; exact h, fun y => ⟨fun x => ⟨fun q => absurd q (by decide), fun _ => by rw [if_neg y, if_pos x] at h; exact h⟩, fun x => ⟨fun v => ⟨fun q => absurd q (by decide), fun _ => by rw [if_neg y, if_neg x, if_pos v] at h; exact h⟩, fun v => by rw [if_neg y, if_neg x, if_neg v] at h; exact h⟩⟩⟩
theorem k_keep {k : Int32} (hFl : FlOK Fl) (hW : Wf M) (hC : CI Fl M s) (h : ∀ M', Wf M' → Mo clsS M M' → CI Fl M' (sKeep k s).2 → K (some (.int (sKeep k s).1)) M') : sp_X12_keep [.ref 0, .int k] M K := by
  obtain ⟨hr, hd⟩ := hC.rd
  unfold sKeep at h
  have no : ¬ inI k 4 → K (some (.int (0 : Int32))) M := fun z => by rw [iT_f z] at h; exact h M hW Mo.rf hC
  refine wX12_keep hW (fun {G} hc => ⟨fun z => no (fun y => ((inI_iff (by decide)).mp y).1 z), fun a => ⟨fun b => ?_, fun z => no (fun y => z ((inI_iff2 (N := 4) (by decide)).mp y).2)⟩⟩)
  have hk : inI k 4 := (inI_iff2 (by decide)).mpr ⟨a, b⟩
  have hk4 := inI_lt hk
  refine ⟨vp_of hk (by decide), ?_⟩
  rw [cl_of hk (by decide)]
  have s7 : (Sh (457 + 37 * iv k)).1 = 7 := by
    have : ∀ k ∈ List.range 4, (Sh (457 + 37 * k)).1 = 7 := by decide +kernel
    exact this _ (List.mem_range.mpr hk4)
  refine c_stCopy hW s7 Sk_405 (by omega) hr (fun M1 hW1 _ hm1 hr1 => rX12_keep_11_6 hc hW1 ⟨vp_of hk (by decide), ?_⟩)
  rw [cl_of hk (by decide)]
  rw [iT_t hk] at h
  obtain ⟨⟨c1, c2, c3, c4, c5, c6⟩, cx⟩ := hC
  have hm2 : Mo (fun b => b = 454 ∨ stS (457 + 37 * iv k) b) M (uI M1 454 (iv k) 1) := (hm1.mono (fun b hb => Or.inr hb)).tr (Mo_uI (Or.inl rfl))
  have nb : ∀ b, (b = 454 ∨ stS (457 + 37 * iv k) b) → 454 = b ∨ (457 ≤ b ∧ b < 605) := fun b hb => by unfold stS at hb; omega
  refine h _ (Wf_uI hW1) (hm2.mono (fun b hb => by have := nb b hb; unfold clsS; omega)) ⟨⟨c1.mo hm2 (fun z => by have := nb _ z; omega) (fun z => by have := nb _ z; omega), CPr.mo (s := s) hm2 (fun z => by have := nb _ z; omega) (fun z => by have := nb _ z; omega) (fun z => by have := nb _ z; omega) (fun z => by have := nb _ z; omega) (fun z => by have := nb _ z; omega) c2, c3.mo hm2 (fun z => by have := nb _ z; omega), c4.mo hm2 (fun z => by have := nb _ z; omega), fun j hj => ?_, c6.mo hFl hm2 (fun b hb => by have := nb b hb; omega)⟩, cx.mo hW hm2 (fun b hb => by have := nb b hb; omega)⟩
  show gI _ 454 j = blI (up1 (gKp s) (iv k) (some (gD_ s)) j).isSome ∧ ∀ d, up1 (gKp s) (iv k) (some (gD_ s)) j = some d → _
  by_cases y : j = iv k
  · subst y
    rw [rI_eq, up1_eq]
    refine ⟨rfl, fun d hd => ?_⟩
    have hd := Option.some.inj hd
    subst hd
    exact hr1.mo (Mo_uI (S := fun b => b = 454) rfl) (fun b hb => by have hb : b = 454 := hb; omega)
  · rw [rI_k y, up1_ne y, hm1.I (by unfold stS; omega)]
    exact ⟨(c5 j hj).1, fun d hd => ((c5 j hj).2 d hd).mo hm2 (fun b hb => by unfold stS at hb; omega)⟩
theorem there_P {a : Int32} (hC : CI Fl M s) : P_X12_isThere a M ↔ thr s a := by
  have c5 := hC.1.2.2.2.2.1
  unfold P_X12_isThere thr
  refine ⟨fun z => ?_, fun z => ?_⟩
  · rcases z with z | ⟨z1, z2, z3⟩
    · exact Or.inl z
    · have hi := (inI_iff (N := 4) (by decide)).mpr ⟨z1, z2⟩
      rw [cl_of hi (by decide), (c5 _ (inI_lt hi)).1, blI_0] at z3
      exact Or.inr ⟨hi, fun y => z3 (by rw [y]; rfl)⟩
  · rcases z with z | ⟨z1, z2⟩
    · exact Or.inl z
    · have hh := (inI_iff (N := 4) (by decide)).mp z1
      refine Or.inr ⟨hh.1, hh.2, ?_⟩
      rw [cl_of z1 (by decide), (c5 _ (inI_lt z1)).1, blI_0]
      intro y
      exact z2 (by simpa using y)
theorem k_stateOf {a : Int32} (hW : Wf M) (hC : CI Fl M s) (ha : thr s a) (h : ∀ r, (Sh r).1 = 7 → RD M r (stO s a) → K (some (.ref r)) M) : sp_X12_stateOf [.ref 0, .int a] M K := by
  obtain ⟨hr, hd⟩ := hC.rd
  have c5 := hC.1.2.2.2.2.1
  unfold stO at h
  rcases ha with z | ⟨z, y⟩
  · subst z
    rw [if_pos rfl] at h
    have := h 405 Sk_405 hr
    exact wX12_stateOf hW ⟨fun _ => this, fun z => absurd (by decide) z⟩
  · have hh := (inI_iff (N := 4) (by decide)).mp z
    have n1 : ¬ a = -1 := fun w => hh.1 (by subst w; decide)
    rw [if_neg n1] at h
    refine wX12_stateOf hW ⟨fun w => absurd w hh.1, fun _ => ⟨fun w => absurd w hh.2, fun _ => ⟨vp_of z (by decide), ?_⟩⟩⟩
    rw [cl_of z (by decide)]
    have k4 := inI_lt z
    cases e : gKp s (iv a) with
    | none => exact absurd e y
    | some d =>
      rw [e] at h
      refine h _ ?_ ((c5 _ k4).2 d e)
      have : ∀ k ∈ List.range 4, (Sh (457 + 37 * k)).1 = 7 := by decide +kernel
      exact this _ (List.mem_range.mpr k4)
theorem k_differs {a b : Int32} (hW : Wf M) (hC : CI Fl M s) (h : K (some (.int (sDiffers a b s))) M) : sp_X12_differs [.ref 0, .int a, .int b] M K := by
  unfold sDiffers at h
  have no : ¬ (thr s a ∧ thr s b) → K (some (.int (-1 : Int32))) M := fun z => by rw [iT_f z] at h; exact h
  have hq : ∀ a, q_X12_isThere a M := fun a => by
    unfold q_X12_isThere
    exact fun _ x y => vp_of ((inI_iff (N := 4) (by decide)).mpr ⟨x, y⟩) (by decide)
  refine wX12_differs hW (fun {G} hc => ⟨hq a, ?_⟩)
  rw [there_P hC, there_P hC]
  refine ⟨fun z => no (fun y => z y.1), fun z => ⟨hq b, fun y => ?_, fun y => no (fun w => y w.2)⟩⟩
  rw [iT_t ⟨z, y⟩] at h
  exact k_stateOf hW hC z (fun r r7 hr => rX12_differs_18_2 hc hW r7 (k_stateOf hW hC y (fun q q7 hq => rX12_differs_18_5 hc hW r7 q7 (c_firstDiff hW r7 q7 hr hq (rX12_differs_18_6 hc hW h)))))
theorem k_code {i w : Int32} (hW : Wf M) (hC : CI Fl M s) (h : ∀ v, sCode i w s = some v → K (some (.long v)) M) (hX : sCode i w s = none → X M) : sp_X12_code [.ref 0, .int i, .int w] M K X := by
  have hP := hC.1.2.1.1
  unfold sCode at h hX
  have hn := hP.1
  have no : ¬ (inI i (gPr s).1 ∧ inI w 6) → X M := fun z => hX (iT_f z)
  refine wX12_code hW ?_
  rw [has_P hP.2.1 (by omega)]
  refine ⟨fun z => no (fun y => z y.1), fun hi => ⟨fun z => no (fun y => ((inI_iff (by decide)).mp y.2).1 z), fun a => ⟨fun b => ?_, fun z => no (fun y => z ((inI_iff2 (N := 6) (by decide)).mp y.2).2)⟩⟩⟩
  have hw : inI w 6 := (inI_iff2 (by decide)).mpr ⟨a, b⟩
  have hil := inI_lt hi
  have hw6 := inI_lt hw
  have e : i * 6 + w = nI (iv i * 6 + iv w) := by
    conv => lhs; rw [inI_nI hi, inI_nI hw]
    rw [show (6 : Int32) = nI 6 from rfl, pk_mul, nI_add]
  refine ⟨?_, ?_⟩
  · unfold q_X6_cell
    rw [e]
    exact vpN (by omega) (by decide)
  · have : f_X6_cell 8 i w M = (gPr s).2 (iv i) (iv w) := by
      unfold f_X6_cell
      rw [e, nI_clamp (by omega)]
      exact hP.2.2 _ hil _ hw6
    rw [this]
    exact h _ (iT_t ⟨hi, hw⟩)
end
end FACE3
