section CI
section
variable {M : Mem} {K : RT} {X : Mem → Prop} {s : SG}
/-- FLOW's cells, when they are known -/
def FlC (M : Mem) (n : Nat) (c : Nat → Nat → Int64) (Fl : Mem → Nat → (Nat → Nat → Int64) → Prop) : Prop := (gI M 449 3 = 0 ∨ gI M 449 3 = 1) ∧ (gI M 449 3 = 1 → Fl M n c)
def CTp (M : Mem) (t : Nat × (Nat → Nat)) : Prop := t.1 ≤ 4000 ∧ gI M 1 0 = nI t.1 ∧ ∀ j, j < t.1 → gI M 4 j = nI (t.2 j) ∧ t.2 j < 256
def CPr (M : Mem) (s : SG) : Prop := PRG M 8 (gPr s).1 (gPr s).2 ∧ PRG M 447 (gP0 s).1 (gP0 s).2 ∧ gI M 8 1 = nI (gLb s) ∧ gI M 447 1 = nI (gLb s) ∧ gLb s ≤ 40 ∧ gI M 0 10 = blI (gSl s) ∧ (∀ i, i < (gPr s).1 → VI (gPr s).1 ((gPr s).2 i)) ∧ ∀ i, i < (gP0 s).1 → VI (gP0 s).1 ((gP0 s).2 i)
def CSt (M : Mem) (st : Nat → Bool) : Prop := ∀ i, i < 100 → gI M 455 i = blI (st i)
def CWw (M : Mem) (ww : Nat → Int64) : Prop := ∀ a, a < 8 → gL M 456 a = ww a
def CKp (M : Mem) (kp : Nat → Option DS) : Prop := ∀ k, k < 4 → gI M 454 k = blI (kp k).isSome ∧ ∀ d, kp k = some d → RD M (457 + 37 * k) d
/-- the class's objects but for the run's -/
def CO (Fl : Mem → Nat → (Nat → Nat → Int64) → Prop) (M : Mem) (s : SG) : Prop := CTp M (gTp s) ∧ CPr M s ∧ CSt M (gSt s) ∧ CWw M (gWw s) ∧ CKp M (gKp s) ∧ FlC M (gPr s).1 (gPr s).2 Fl
def CI (Fl : Mem → Nat → (Nat → Nat → Int64) → Prop) (M : Mem) (s : SG) : Prop := CO Fl M s ∧ CX M (gPr s).1 (gPr s).2 (gX s) (gTr s) (gFt s)
/-- what FLOW's cells are does not hang on other objects -/
def FlOK (Fl : Mem → Nat → (Nat → Nat → Int64) → Prop) : Prop := ∀ S M M' n c, Mo S M M' → (∀ b, S b → ¬ (449 ≤ b ∧ b ≤ 452)) → Fl M n c → Fl M' n c
theorem CO.mo {Fl : Mem → Nat → (Nat → Nat → Int64) → Prop} (hFl : FlOK Fl) {S : Nat → Prop} {M' : Mem} (h : Mo S M M') (hS : ∀ b, S b → stpS b) (hc : CO Fl M s) : CO Fl M' s := by
  obtain ⟨⟨t1, t2, t3⟩, ⟨p1, p2, p3, p4, p5, p6, p7, p8⟩, hs, hw, hk, hf1, hf2⟩ := hc
  have n : ∀ a, ¬ stpS a → ¬ S a := fun a ha z => ha (hS a z)
  have eI : ∀ a j, ¬ stpS a → gI M' a j = gI M a j := fun a j ha => h.I (n a ha)
  have eL : ∀ a j, ¬ stpS a → gL M' a j = gL M a j := fun a j ha => h.L (n a ha)
  refine ⟨⟨t1, by rw [eI _ _ (by unfold stpS; omega)]; exact t2, ?_⟩, ⟨p1.mo h (n _ (by unfold stpS; omega)) (n _ (by unfold stpS; omega)), p2.mo h (n _ (by unfold stpS; omega)) (n _ (by unfold stpS; omega)), by rw [eI _ _ (by unfold stpS; omega)]; exact p3, by rw [eI _ _ (by unfold stpS; omega)]; exact p4, p5, by rw [eI _ _ (by unfold stpS; omega)]; exact p6, p7, p8⟩, fun i hi => by rw [eI _ _ (by unfold stpS; omega)]; exact hs i hi, fun a ha => by rw [eL _ _ (by unfold stpS; omega)]; exact hw a ha, fun k hk4 => ?_, ?_, fun z => ?_⟩
  · intro j hj
    exact ⟨by rw [eI _ _ (by unfold stpS; omega)]; exact (t3 j hj).1, (t3 j hj).2⟩
  · obtain ⟨k1, k2⟩ := hk k hk4
    exact ⟨by rw [eI _ _ (by unfold stpS; omega)]; exact k1, fun d hd => (k2 d hd).mo h (fun b hb => by have := hS b hb; unfold stpS at this; omega)⟩
  · rw [eI _ _ (by unfold stpS; omega)]; exact hf1
  · rw [eI _ _ (by unfold stpS; omega)] at z
    exact hFl S M M' _ _ h (fun b hb => by have := hS b hb; unfold stpS at this; omega) (hf2 z)
/-- data that become others: the list is emptied -/
theorem CX.dat {n : Nat} {c : Nat → Nat → Int64} {x : ES} {tr : List TE} {ft : FT} {M1 : Mem} {d : DS} (hm : Mo (stS 405) M M1) (hC : CX M n c x tr ft) (hr : RD M1 405 d) (hd : WD d) : CX (uI M1 10 0 0) n c (d, x.2) [] ft := by
  obtain ⟨⟨e1, e2, e3, e4, e5, e6, e7, e8⟩, ⟨x1, x2, x3, x4, x5⟩, ⟨l, ⟨t1, t2, t3, t4, t5⟩, -⟩, -, f1, f2, f3⟩ := hC
  have hm2 : Mo (fun b => b = 10 ∨ stS 405 b) M (uI M1 10 0 0) := (hm.mono (fun b hb => Or.inr hb)).tr (Mo_uI (Or.inl rfl))
  have eI : ∀ a j, a ≠ 10 → ¬ stS 405 a → gI (uI M1 10 0 0) a j = gI M a j := fun a j h1 h2 => hm2.I (fun z => z.elim h1 h2)
  have eR : ∀ a j, ¬ stS 405 a → rR (uI M1 10 0 0) a j = rR M a j := fun a j h2 => by
    show rR M1 a j = _
    unfold rR; rw [hm.R h2]
  refine ⟨⟨hr.mo (Mo_uI (S := fun b => b = 10) rfl) (fun b hb => by have hb : b = 10 := hb; omega), ?_, ?_, ?_, fun j hj => ?_, ?_, ?_, ?_⟩, ⟨x1, x2, x3, x4, hd⟩, ⟨l, ⟨t1, ?_, rI_eq, by decide, fun u v hu hv z => t5 u v hu hv ?_⟩, trivial⟩, fun t ht => absurd ht (by simp), ?_, fun z => ?_, f3⟩
  · exact e2.out hm2 (by unfold stS; omega) (by unfold stS; omega)
  · rw [eI _ _ (by decide) (by unfold stS; omega)]; exact e3
  · rw [eI _ _ (by decide) (by unfold stS; omega)]; exact e4
  · rw [eI _ _ (by decide) (by unfold stS; omega)]; exact e5 j hj
  · rw [eI _ _ (by decide) (by unfold stS; omega)]; exact e6
  · rw [eI _ _ (by decide) (by unfold stS; omega)]; exact e7
  · rw [eI _ _ (by decide) (by unfold stS; omega)]; exact e8
  · rw [rI_k (by decide), hm.I (by unfold stS; omega)]; exact t2
  · have e : ∀ u, svR (uI M1 10 0 0) u = svR M u := fun u => by unfold svR; rw [eR _ _ (by unfold stS; omega), eR _ _ (by unfold stS; omega), eR _ _ (by unfold stS; omega)]
    rw [← e, ← e]; exact z
  · rw [eI _ _ (by decide) (by unfold stS; omega)]; exact f1
  · rw [eI _ _ (by decide) (by unfold stS; omega), eI _ _ (by decide) (by unfold stS; omega)]; exact f2 z
/-- the class's end of a change of data -/
theorem CI.dat {Fl : Mem → Nat → (Nat → Nat → Int64) → Prop} (hFl : FlOK Fl) {M1 : Mem} {d : DS} (hm : Mo (stS 405) M M1) (hC : CI Fl M s) (hr : RD M1 405 d) (hd : WD d) : CI Fl (uI M1 10 0 0) (wDat s d) :=
  ⟨hC.1.mo hFl ((hm.mono (fun b hb => Or.inr hb)).tr (Mo_uI (S := fun b => b = 10 ∨ stS 405 b) (Or.inl rfl))) (fun b hb => by unfold stpS; unfold stS at hb; omega), hC.2.dat hm hr hd⟩
def clsS (b : Nat) : Prop := b < 605
theorem dat_cls {M1 : Mem} (hm : Mo (stS 405) M M1) : Mo clsS M (uI M1 10 0 0) := (hm.mono (fun b hb => by unfold clsS; unfold stS at hb; omega)).tr (Mo_uI (show (10 : Nat) < 605 by decide))
/-- what CI gives of the state -/
theorem CI.rd {Fl : Mem → Nat → (Nat → Nat → Int64) → Prop} (h : CI Fl M s) : RD M 405 (gD_ s) ∧ WD (gD_ s) := ⟨h.2.1.1, h.2.2.1.2.2.2.2⟩
theorem isA_P {Fl : Mem → Nat → (Nat → Nat → Int64) → Prop} {m : Int32} (h : CI Fl M s) : q_X12_isArray m M ∧ (P_X12_isArray m M ↔ isA (gD_ s) m) := by
  have hr := h.rd.1
  refine ⟨?_, ?_⟩
  · unfold q_X12_isArray
    intro a b
    exact vp_of ((inI_iff (N := 8) (by decide)).mpr ⟨a, b⟩) (by decide)
  · unfold P_X12_isArray isA
    rw [inI_iff (by decide)]
    refine ⟨fun ⟨a, b, e⟩ => ⟨⟨a, b⟩, ?_⟩, fun ⟨⟨a, b⟩, e⟩ => ⟨a, b, ?_⟩⟩
    · have hi := (inI_iff (N := 8) (by decide)).mpr ⟨a, b⟩
      rw [cl_of hi (by decide)] at e
      rw [← (hr.arr (inI_lt hi)).1]; exact e
    · have hi := (inI_iff (N := 8) (by decide)).mpr ⟨a, b⟩
      rw [cl_of hi (by decide), (hr.arr (inI_lt hi)).1]; exact e
end
end CI
