section FACE2
section
variable {M M' : Mem} {K : RT} {X : Mem → Prop} {s : SG} {Fl : Mem → Nat → (Nat → Nat → Int64) → Prop} {S : Nat → Prop}
theorem CX.mo {n : Nat} {c : Nat → Nat → Int64} {x : ES} {tr : List TE} {ft : FT} (hW : Wf M) (h : Mo S M M') (hS : ∀ b, S b → ¬ (b = 7 ∨ (10 ≤ b ∧ b ≤ 446))) (hC : CX M n c x tr ft) : CX M' n c x tr ft := by
  obtain ⟨⟨e1, e2, e3, e4, e5, e6, e7, e8⟩, hE, ⟨l, hI, hT⟩, hO, f1, f2, f3⟩ := hC
  have n7 : ¬ S 7 := fun z => hS 7 z (Or.inl rfl)
  have nn : ∀ b, 10 ≤ b → b ≤ 446 → ¬ S b := fun b h1 h2 z => hS b z (Or.inr ⟨h1, h2⟩)
  refine ⟨⟨e1.mo h (fun b hb hh => hS b hb (by omega)), e2.out h (nn _ (by decide) (by decide)) (nn _ (by decide) (by decide)), ?_, ?_, fun j hj => ?_, ?_, ?_, ?_⟩, hE, ⟨l, hI.mo h (fun b hb hh => hS b hb (by unfold tlS at hh; omega)), hT.mo hW h (fun b hb hh => hS b hb (by unfold tlS at hh; omega)) _ _ _⟩, hO, ?_, fun z => ?_, f3⟩
  · rw [h.I n7]; exact e3
  · rw [h.I n7]; exact e4
  · rw [h.I (nn _ (by decide) (by decide))]; exact e5 j hj
  · rw [h.I n7]; exact e6
  · rw [h.I n7]; exact e7
  · rw [h.I n7]; exact e8
  · rw [h.I n7]; exact f1
  · rw [h.I n7, h.I n7]; exact f2 z
theorem CTp.mo {t : Nat × (Nat → Nat)} (h : Mo S M M') (h1 : ¬ S 1) (h4 : ¬ S 4) (hc : CTp M t) : CTp M' t := ⟨hc.1, by rw [h.I h1]; exact hc.2.1, fun j hj => ⟨by rw [h.I h4]; exact (hc.2.2 j hj).1, (hc.2.2 j hj).2⟩⟩
theorem CPr.mo (h : Mo S M M') (h0 : ¬ S 0) (h8 : ¬ S 8) (h9 : ¬ S 9) (h7 : ¬ S 447) (h7' : ¬ S 448) (hc : CPr M s) : CPr M' s :=
  ⟨hc.1.mo h h8 h9, hc.2.1.mo h h7 h7', by rw [h.I h8]; exact hc.2.2.1, by rw [h.I h7]; exact hc.2.2.2.1, hc.2.2.2.2.1, by rw [h.I h0]; exact hc.2.2.2.2.2.1, hc.2.2.2.2.2.2⟩
theorem CSt.mo {st : Nat → Bool} (h : Mo S M M') (h1 : ¬ S 455) (hc : CSt M st) : CSt M' st := fun i hi => by rw [h.I h1]; exact hc i hi
theorem CWw.mo {w : Nat → Int64} (h : Mo S M M') (h1 : ¬ S 456) (hc : CWw M w) : CWw M' w := fun i hi => by rw [h.L h1]; exact hc i hi
theorem CKp.mo {k : Nat → Option DS} (h : Mo S M M') (h1 : ¬ S 454) (h2 : ∀ b, S b → ¬ (457 ≤ b ∧ b < 605)) (hc : CKp M k) : CKp M' k := fun i hi => ⟨by rw [h.I h1]; exact (hc i hi).1, fun d hd => ((hc i hi).2 d hd).mo h (fun b hb hh => h2 b hb (by omega))⟩
theorem FlC.mo {n : Nat} {c : Nat → Nat → Int64} (hFl : FlOK Fl) (h : Mo S M M') (h1 : ∀ b, S b → ¬ (449 ≤ b ∧ b ≤ 452)) (hc : FlC M n c Fl) : FlC M' n c Fl :=
  ⟨by rw [h.I (fun z => h1 _ z (by decide))]; exact hc.1, fun z => hFl S M M' _ _ h h1 (hc.2 (by rw [← h.I (fun z => h1 _ z (by decide))]; exact z))⟩
theorem has_P {p n : Nat} {i : Int32} (h : gI M p 0 = nI n) (hn : n < 2 ^ 31) : P_X6_has p i M ↔ inI i n := by
  unfold P_X6_has; rw [h, inI_iff hn]
theorem row_P {a n : Nat} {k : Int32} {f : Nat → Int64} {i : Int32} (h : RowIs M a k n f) : P_X8_has a i M ↔ inI i n := by
  have := h.2.2.1
  unfold P_X8_has; rw [h.2.1, inI_iff (by omega)]
theorem k_poke {m i : Int32} {v : Int64} (hFl : FlOK Fl) (hW : Wf M) (hC : CI Fl M s) (h : ∀ M', Wf M' → Mo clsS M M' → CI Fl M' (sPoke m i v s).2 → K (some (.int (sPoke m i v s).1)) M') : sp_X12_poke [.ref 0, .int m, .int i, .long v] M K := by
  obtain ⟨hr, hd⟩ := hC.rd
  obtain ⟨q, hp⟩ := isA_P (m := m) hC
  unfold sPoke at h
  refine wX12_poke hW ⟨q, ?_⟩
  rw [hp]
  have no : ¬ isE (gD_ s) m i → K (some (.int (0 : Int32))) M := fun z => by
    rw [iT_f z] at h
    exact h M hW Mo.rf hC
  refine ⟨fun z => no (fun w => z w.1), fun z => ?_⟩
  have hi := z.1
  have hi8 := inI_lt hi
  have row := hr.arr hi8
  refine ⟨vp_of hi (by decide), ?_⟩
  rw [cl_of hi (by decide), row_P row]
  refine ⟨fun w => ?_, fun w => no (fun y => w y.2)⟩
  have hw := hd.1 (2 * iv m + 1) (by omega)
  have hk : isK (dk (gD_ s) (2 * iv m + 1)) := hw.1.elim (fun y => absurd y.1 z.2) (fun y => y.1)
  have hil := inI_lt w
  have hl64 := row.2.2.1
  have w64 : inI i 64 := ⟨w.1, by have := w.2; omega⟩
  refine ⟨vp_of hi (by decide), by rw [row.1]; exact hk, vp_of w64 (by decide), ?_⟩
  rw [cl_of w64 (by decide), row.1]
  rw [iT_t ⟨z, w⟩] at h
  have e5 : 412 + 4 * iv m + 1 = 405 + 5 + 2 * (2 * iv m + 1) + 1 := by omega
  have hm1 : Mo (fun b => b = 412 + 4 * iv m + 1) M (uL M (412 + 4 * iv m + 1) (iv i) (putJ (dk (gD_ s) (2 * iv m + 1)) v)) := Mo_uL rfl
  have hm1' : Mo (stS 405) M (uL M (412 + 4 * iv m + 1) (iv i) (putJ (dk (gD_ s) (2 * iv m + 1)) v)) := hm1.mono (fun b hb => by have hb : b = _ := hb; unfold stS; omega)
  refine h _ (Wf_m_X11_empty (Wf_uL hW)) (dat_cls hm1') (hC.dat hFl hm1' (hr.it (by omega) hm1 (fun b hb => Or.inl (by have hb : b = _ := hb; omega)) (fun k hk => ?_)) (hd.it (fun k hk1 => ?_)))
  · rw [← e5]
    by_cases y : k = iv i
    · subst y; rw [rL_eq, up1_eq]
    · rw [rL_k y, up1_ne y]; exact row.2.2.2 k hk
  · show okJ _ (up1 _ _ _ k)
    by_cases y : k = iv i
    · subst y; rw [up1_eq]; exact putJ_ok v
    · rw [up1_ne y]; exact hw.2 k hk1
theorem k_peek {m i : Int32} (hW : Wf M) (hC : CI Fl M s) (h : ∀ v, sPeek m i s = some v → K (some (.long v)) M) (hX : sPeek m i s = none → X M) : sp_X12_peek [.ref 0, .int m, .int i] M K X := by
  obtain ⟨hr, hd⟩ := hC.rd
  obtain ⟨q, hp⟩ := isA_P (m := m) hC
  unfold sPeek at h hX
  refine wX12_peek hW ⟨q, ?_⟩
  rw [hp]
  have no : ¬ isE (gD_ s) m i → X M := fun z => hX (iT_f z)
  refine ⟨fun z => no (fun w => z w.1), fun z => ?_⟩
  have hi := z.1
  have row := hr.arr (inI_lt hi)
  refine ⟨vp_of hi (by decide), ?_⟩
  rw [cl_of hi (by decide), row_P row]
  refine ⟨fun w => ?_, fun w => no (fun y => w y.2)⟩
  have hl64 := row.2.2.1
  have w64 : inI i 64 := ⟨w.1, by have := w.2; omega⟩
  refine ⟨vp_of hi (by decide), vp_of w64 (by decide), ?_⟩
  rw [cl_of w64 (by decide), row.2.2.2 _ (inI_lt w)]
  exact h _ (iT_t ⟨z, w⟩)
theorem shp_f {a j : Nat} {d : DS} {w : Int32} (row : RowIs M a (dk d j) (dn d j) (di d j)) : f_X12_shape a w M = shpF d j w := by
  unfold f_X12_shape shpF
  rw [row.1, row.2.1]
theorem k_array {m w : Int32} (hW : Wf M) (hC : CI Fl M s) (h : K (some (.int (sArray m w s))) M) : sp_X12_array [.ref 0, .int m, .int w] M K := by
  obtain ⟨hr, hd⟩ := hC.rd
  unfold sArray at h
  have no : ¬ inI m 8 → K (some (.int (-2 : Int32))) M := fun z => by rw [iT_f z] at h; exact h
  refine wX12_array hW ⟨fun z => no (fun y => ((inI_iff2 (by decide)).mp y).1 z), fun z => ⟨fun y => ?_, fun y => no (fun z => y ((inI_iff2 (N := 8) (by decide)).mp z).2)⟩⟩
  have hi : inI m 8 := (inI_iff2 (by decide)).mpr ⟨z, y⟩
  refine ⟨vp_of hi (by decide), ?_⟩
  rw [cl_of hi (by decide), shp_f (hr.arr (inI_lt hi))]
  rw [iT_t hi] at h
  exact h
theorem k_register {m w : Int32} (hW : Wf M) (hC : CI Fl M s) (h : K (some (.int (sRegister m w s))) M) : sp_X12_register [.ref 0, .int m, .int w] M K := by
  obtain ⟨hr, hd⟩ := hC.rd
  unfold sRegister at h
  have no : ¬ inI m 8 → K (some (.int (-2 : Int32))) M := fun z => by rw [iT_f z] at h; exact h
  refine wX12_register hW ⟨fun z => no (fun y => ((inI_iff2 (by decide)).mp y).1 z), fun z => ⟨fun y => ?_, fun y => no (fun z => y ((inI_iff2 (N := 8) (by decide)).mp z).2)⟩⟩
  have hi : inI m 8 := (inI_iff2 (by decide)).mpr ⟨z, y⟩
  refine ⟨vp_of hi (by decide), ?_⟩
  rw [cl_of hi (by decide), shp_f (hr.reg (inI_lt hi))]
  rw [iT_t hi] at h
  exact h
theorem k_scalar {k : Int32} {v : Int64} (hFl : FlOK Fl) (hW : Wf M) (hC : CI Fl M s) (h : ∀ M', Wf M' → Mo clsS M M' → CI Fl M' (sScalar k v s).2 → K (some (.int (sScalar k v s).1)) M') : sp_X12_scalar [.ref 0, .int k, .long v] M K := by
  obtain ⟨hr, hd⟩ := hC.rd
  unfold sScalar at h
  have no : ¬ inI k 8 → K (some (.int (0 : Int32))) M := fun z => by rw [iT_f z] at h; exact h M hW Mo.rf hC
  refine wX12_scalar hW ⟨fun z => no (fun y => ((inI_iff2 (by decide)).mp y).1 z), fun z => ⟨fun y => ?_, fun y => no (fun z => y ((inI_iff2 (N := 8) (by decide)).mp z).2)⟩⟩
  have hi : inI k 8 := (inI_iff2 (by decide)).mpr ⟨z, y⟩
  refine ⟨vp_of hi (by decide), ?_⟩
  rw [cl_of hi (by decide)]
  rw [iT_t hi] at h
  have hm1 : Mo (stS 405) M (uL M 409 (iv k) v) := Mo_uL (by unfold stS; omega)
  exact h _ (Wf_m_X11_empty (Wf_uL hW)) (dat_cls hm1) (hC.dat hFl hm1 (hr.ws (inI_lt hi)) hd.s)
theorem k_scalarOf {k : Int32} (hW : Wf M) (hC : CI Fl M s) (h : ∀ v, sScalarOf k s = some v → K (some (.long v)) M) (hX : sScalarOf k s = none → X M) : sp_X12_scalarOf [.ref 0, .int k] M K X := by
  obtain ⟨hr, hd⟩ := hC.rd
  unfold sScalarOf at h hX
  have no : ¬ inI k 8 → X M := fun z => hX (iT_f z)
  refine wX12_scalarOf hW ⟨fun z => no (fun y => ((inI_iff2 (by decide)).mp y).1 z), fun z => ⟨fun y => ?_, fun y => no (fun z => y ((inI_iff2 (N := 8) (by decide)).mp z).2)⟩⟩
  have hi : inI k 8 := (inI_iff2 (by decide)).mpr ⟨z, y⟩
  refine ⟨vp_of hi (by decide), ?_⟩
  rw [cl_of hi (by decide)]
  have e : gL M 409 (iv k) = dsc (gD_ s) (iv k) := hr.2.2 _ (inI_lt hi)
  rw [e]
  exact h _ (iT_t hi)
theorem k_lane {m i : Int32} (hW : Wf M) (hC : CI Fl M s) (h : ∀ v, sLane m i s = some v → K (some (.long v)) M) (hX : sLane m i s = none → X M) : sp_X12_lane [.ref 0, .int m, .int i] M K X := by
  obtain ⟨hr, hd⟩ := hC.rd
  unfold sLane at h hX
  have no : ¬ (inI m 8 ∧ inI i (dn (gD_ s) (2 * iv m))) → X M := fun z => hX (iT_f z)
  refine wX12_lane hW ⟨fun z => no (fun y => ((inI_iff (by decide)).mp y.1).1 z), fun z => ⟨fun y => no (fun z => ((inI_iff (N := 8) (by decide)).mp z.1).2 y), fun y => ?_⟩⟩
  have hi : inI m 8 := (inI_iff (by decide)).mpr ⟨z, y⟩
  have row := hr.reg (inI_lt hi)
  refine ⟨vp_of hi (by decide), ?_⟩
  rw [cl_of hi (by decide), row_P row]
  refine ⟨fun w => ?_, fun w => no (fun y => w y.2)⟩
  have hl64 := row.2.2.1
  have w64 : inI i 64 := ⟨w.1, by have := w.2; omega⟩
  refine ⟨vp_of hi (by decide), vp_of w64 (by decide), ?_⟩
  rw [cl_of w64 (by decide), row.2.2.2 _ (inI_lt w)]
  exact h _ (iT_t ⟨hi, w⟩)
theorem k_mask {m : Int32} (hW : Wf M) (hC : CI Fl M s) (h : K (some (.int (sMask m s))) M) : sp_X12_mask [.ref 0, .int m] M K := by
  obtain ⟨hr, hd⟩ := hC.rd
  unfold sMask at h
  have no : ¬ inI m 4 → K (some (.int (0 : Int32))) M := fun z => by rw [iT_f z] at h; exact h
  refine wX12_mask hW ⟨fun z => no (fun y => ((inI_iff2 (by decide)).mp y).1 z), fun z => ⟨fun y => ?_, fun y => no (fun z => y ((inI_iff2 (N := 4) (by decide)).mp z).2)⟩⟩
  have hi : inI m 4 := (inI_iff2 (by decide)).mpr ⟨z, y⟩
  refine ⟨vp_of hi (by decide), ?_⟩
  rw [cl_of hi (by decide)]
  have e : gI M 408 (iv m) = dm (gD_ s) (iv m) := hr.2.1 _ (inI_lt hi)
  rw [e]
  rw [iT_t hi] at h
  exact h
end
end FACE2
