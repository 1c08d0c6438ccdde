section RINV
section
variable {M M' : Mem} {K : RT} {s : SG} {Fr : Mem → Nat → (Nat → Nat → Int64) → Prop}
/-- a byte as its cell holds it -/
def sgB (b : Nat) : Int32 := (nI b).toInt8.toInt32
def RTp (M : Mem) (t : Nat × (Nat → Nat)) : Prop := t.1 ≤ 4000 ∧ gI M 605 4 = nI t.1 ∧ ∀ j, j < t.1 → gI M 608 j = sgB (t.2 j) ∧ t.2 j < 256
def RPg (M : Mem) (s : SG) : Prop := RK M ∧ RPr M 618 619 620 (gPr s).1 (gPr s).2 ∧ RPr M 621 622 623 (gP0 s).1 (gP0 s).2 ∧ ((gPr s).1 ≤ 100 ∧ (gP0 s).1 ≤ 100 ∧ gLb s ≤ 40) ∧ (gI M 605 23 = nI (gPr s).1 ∧ gI M 605 27 = nI (gP0 s).1 ∧ gI M 605 31 = blI (gSl s) ∧ gI M 605 32 = nI (gLb s)) ∧ (∀ i, i < (gPr s).1 → VI (gPr s).1 ((gPr s).2 i)) ∧ ∀ i, i < (gP0 s).1 → VI (gP0 s).1 ((gP0 s).2 i)
def RBt (M : Mem) (st : Nat → Bool) : Prop := ∀ i, i < 100 → gI M 633 i = blI (st i)
def RKp (M : Mem) (kp : Nat → Option DS) : Prop := ∀ k, k < 4 → gI M 640 k = blI (kp k).isSome ∧ ∀ d, kp k = some d → RDs M (64 + k) d ∧ WD d
def RFl (M : Mem) (n : Nat) (c : Nat → Nat → Int64) (Fr : Mem → Nat → (Nat → Nat → Int64) → Prop) : Prop := (gI M 605 33 = 0 ∨ gI M 605 33 = 1) ∧ (gI M 605 33 = 1 → Fr M n c)
def RO (Fr : Mem → Nat → (Nat → Nat → Int64) → Prop) (M : Mem) (s : SG) : Prop := RTp M (gTp s) ∧ RPg M s ∧ RBt M (gSt s) ∧ RWw M (gWw s) ∧ RKp M (gKp s) ∧ RFl M (gPr s).1 (gPr s).2 Fr
/-- the reference's memory stands for s -/
def RI (Fr : Mem → Nat → (Nat → Nat → Int64) → Prop) (M : Mem) (s : SG) : Prop := RO Fr M s ∧ RX M (gPr s).1 (gX s) (gTr s) (gFt s)
def FrOK (Fr : Mem → Nat → (Nat → Nat → Int64) → Prop) : Prop := ∀ (S : Nat → Nat → Prop) M M' n c, FrC S M M' → (∀ a j, S a j → a ≠ 648 ∧ a ≠ 649) → Fr M n c → Fr M' n c
def rPgc (a j : Nat) : Prop := prS a ∨ a = 621 ∨ a = 622 ∨ a = 623 ∨ (a = 605 ∧ (j = 23 ∨ j = 27 ∨ j = 31 ∨ j = 32))
def rKpc (a j : Nat) : Prop := a = 640 ∨ (a = 635 ∧ 780 * 64 ≤ j ∧ j < 780 * 68) ∨ (a = 636 ∧ 768 * 64 ≤ j ∧ j < 768 * 68) ∨ (a = 637 ∧ 56 * 64 ≤ j ∧ j < 56 * 68)
def rOc (a j : Nat) : Prop := (a = 605 ∧ (j = 4 ∨ j = 33)) ∨ a = 608 ∨ rPgc a j ∨ a = 633 ∨ a = 634 ∨ rKpc a j ∨ a = 648 ∨ a = 649
section
variable {S : Nat → Nat → Prop}
theorem RTp.fr {t : Nat × (Nat → Nat)} (hf : FrC S M M') (h1 : ¬ S 605 4) (h2 : ∀ j, ¬ S 608 j) (h : RTp M t) : RTp M' t := ⟨h.1, by rw [hf.i h1]; exact h.2.1, fun j hj => ⟨by rw [hf.i (h2 j)]; exact (h.2.2 j hj).1, (h.2.2 j hj).2⟩⟩
theorem RPg.fr (hf : FrC S M M') (hS : ∀ a j, S a j → ¬ rPgc a j) (h : RPg M s) : RPg M' s := by
  obtain ⟨p1, p2, p3, p4, ⟨p5, p6, p7, p8⟩, p9⟩ := h
  have nn : ∀ a j, rPgc a j → ¬ S a j := fun a j p q => hS a j q p
  refine ⟨p1.fr hf (fun a j z y => hS a j z (Or.inl y)), p2.fr hf (fun j => nn _ _ (by unfold rPgc prS; omega)) (fun j => nn _ _ (by unfold rPgc prS; omega)) (fun j => nn _ _ (by unfold rPgc prS; omega)), p3.fr hf (fun j => nn _ _ (by unfold rPgc prS; omega)) (fun j => nn _ _ (by unfold rPgc prS; omega)) (fun j => nn _ _ (by unfold rPgc prS; omega)), p4, ⟨?_, ?_, ?_, ?_⟩, p9⟩
  · rw [hf.i (nn _ _ (by unfold rPgc; omega))]; exact p5
  · rw [hf.i (nn _ _ (by unfold rPgc; omega))]; exact p6
  · rw [hf.i (nn _ _ (by unfold rPgc; omega))]; exact p7
  · rw [hf.i (nn _ _ (by unfold rPgc; omega))]; exact p8
theorem RBt.fr {st : Nat → Bool} (hf : FrC S M M') (hS : ∀ j, ¬ S 633 j) (h : RBt M st) : RBt M' st := fun i hi => by rw [hf.i (hS i)]; exact h i hi
theorem RWw.fr {ww : Nat → Int64} (hf : FrC S M M') (hS : ∀ j, ¬ S 634 j) (h : RWw M ww) : RWw M' ww := fun i hi => by rw [hf.i (hS i)]; exact h i hi
theorem RDs.fr {c : Nat} {d : DS} (hd : WD d) (hf : FrC S M M') (hS : ∀ a j, S a j → ¬ ((a = 635 ∧ 780 * c ≤ j ∧ j < 780 * c + 780) ∨ (a = 636 ∧ 768 * c ≤ j ∧ j < 768 * c + 768) ∨ (a = 637 ∧ 56 * c ≤ j ∧ j < 56 * c + 56))) (h : RDs M c d) : RDs M' c d := by
  have n : ∀ a j, ((a = 635 ∧ 780 * c ≤ j ∧ j < 780 * c + 780) ∨ (a = 636 ∧ 768 * c ≤ j ∧ j < 768 * c + 768) ∨ (a = 637 ∧ 56 * c ≤ j ∧ j < 56 * c + 56)) → ¬ S a j := fun a j p q => hS a j q p
  exact RDv.cong hd h (fun k hk => ⟨hf.i (n _ _ (by omega)), hf.i (n _ _ (by omega)), hf.i (n _ _ (by omega)), hf.i (n _ _ (by omega)), hf.l (n _ _ (by omega))⟩) (fun k hk => ⟨hf.l (n _ _ (by omega)), hf.d (n _ _ (by omega))⟩) (fun k hk => hf.i (n _ _ (by omega)))
theorem RKp.fr {kp : Nat → Option DS} (hf : FrC S M M') (hS : ∀ a j, S a j → ¬ rKpc a j) (h : RKp M kp) : RKp M' kp := fun k hk => by
  refine ⟨by rw [hf.i (fun z => hS _ _ z (Or.inl rfl))]; exact (h k hk).1, fun d hd => ?_⟩
  obtain ⟨h1, h2⟩ := (h k hk).2 d hd
  refine ⟨RDs.fr h2 hf (fun a j z y => ?_) h1, h2⟩
  have := hS a j z
  unfold rKpc at this
  omega
theorem RFl.fr {n : Nat} {c : Nat → Nat → Int64} (hFr : FrOK Fr) (hf : FrC S M M') (h1 : ¬ S 605 33) (hS : ∀ a j, S a j → a ≠ 648 ∧ a ≠ 649) (h : RFl M n c Fr) : RFl M' n c Fr :=
  ⟨by rw [hf.i h1]; exact h.1, fun z => hFr S M M' n c hf hS (h.2 (by rw [← hf.i h1]; exact z))⟩
theorem RO.fr (hFr : FrOK Fr) (hf : FrC S M M') (hS : ∀ a j, S a j → ¬ rOc a j) (h : RO Fr M s) : RO Fr M' s := by
  obtain ⟨h1, h2, h3, h4, h5, h6⟩ := h
  have nn : ∀ a j, rOc a j → ¬ S a j := fun a j p q => hS a j q p
  exact ⟨h1.fr hf (nn _ _ (by unfold rOc; omega)) (fun j => nn _ _ (by unfold rOc; omega)), h2.fr hf (fun a j z y => hS a j z (Or.inr (Or.inr (Or.inl y)))), h3.fr hf (fun j => nn _ _ (by unfold rOc; omega)), h4.fr hf (fun j => nn _ _ (by unfold rOc; omega)), h5.fr hf (fun a j z y => hS a j z (Or.inr (Or.inr (Or.inr (Or.inr (Or.inr (Or.inl y))))))), h6.fr hFr hf (nn _ _ (by unfold rOc; omega)) (fun a j z => ⟨fun y => hS a j z (by unfold rOc; omega), fun y => hS a j z (by unfold rOc; omega)⟩)⟩
theorem RI.fr (hFr : FrOK Fr) (hf : FrC S M M') (hS : ∀ a j, S a j → ¬ rOc a j ∧ ¬ rXc a j) (h : RI Fr M s) : RI Fr M' s := ⟨h.1.fr hFr hf (fun a j z => (hS a j z).1), h.2.fr hf (fun a j z => (hS a j z).2)⟩
end
theorem RO.run {r : ES × List TE × FT} (h : RO Fr M s) : RO Fr M (wRn s r) := h
theorem stp_rO {a j : Nat} (h : rStpS a j) : ¬ rOc a j := by
  unfold rStpS at h
  unfold rOc rPgc rKpc prS
  omega
theorem RI.prog (h : RI Fr M s) : RProg M (gPr s).1 (gPr s).2 := ⟨h.1.2.1.1, h.1.2.1.2.1, h.1.2.1.2.2.2.1.1, h.1.2.1.2.2.2.2.1.1, h.1.2.1.2.2.2.2.2.1⟩
theorem RI.dat (h : RI Fr M s) : RDc M (gD_ s) ∧ WD (gD_ s) := ⟨h.2.1.1, h.2.2.1.2.2.2.2⟩
/-- the reference's objects -/
def rfS (a _ : Nat) : Prop := 605 ≤ a ∧ a < 650
/-- nothing was thrown -/
theorem thr0 {x : Int32} : FrC (fun a j => a = 605 ∧ j = 2) M (uI M 605 2 x) := FrC_uI ⟨rfl, rfl⟩
theorem thr_rf {x : Int32} : FrC rfS M (uI M 605 2 x) := FrC_uI ⟨by decide, by decide⟩
theorem RI.t (hFr : FrOK Fr) {x : Int32} (h : RI Fr M s) : RI Fr (uI M 605 2 x) s := h.fr hFr thr0 (fun a j z => by unfold rOc rPgc rKpc prS rXc; omega)
/-- data that become others: the list is emptied -/
theorem RX.dat {n : Nat} {x : ES} {tr : List TE} {ft : FT} {S : Nat → Nat → Prop} {d : DS} (hf : FrC S M M') (hS : ∀ a j, S a j → (624 ≤ a ∧ a ≤ 631) ∨ (a = 605 ∧ (j = 2 ∨ j = 59))) (h : RX M n x tr ft) (hD : RDc M' d) (hd : WD d) (h59 : gI M' 605 59 = 0) : RX M' n (d, x.2) [] ft := by
  obtain ⟨⟨E1, E2, E3, E4, E5, E6, E7⟩, ⟨x1, x2, x3, x4, x5⟩, ⟨w, w1, w2, w3⟩, ⟨l1, l2⟩, hT, f1, f2, f3⟩ := h
  have nn : ∀ a j, ¬ ((624 ≤ a ∧ a ≤ 631) ∨ (a = 605 ∧ (j = 2 ∨ j = 59))) → ¬ S a j := fun a j p q => p (hS a j q)
  refine ⟨⟨hD, ?_, ?_, ?_, fun j hj => ?_, ?_, ?_⟩, ⟨x1, x2, x3, x4, hd⟩, ⟨w, w1, ?_, trivial⟩, ⟨h59, by decide⟩, fun t ht => absurd ht (by simp), ?_, ?_, ?_⟩
  · rw [hf.i (nn _ _ (by omega))]; exact E2
  · rw [hf.i (nn _ _ (by omega))]; exact E3
  · rw [hf.i (nn _ _ (by omega))]; exact E4
  · rw [hf.i (nn _ _ (by omega))]; exact E5 j hj
  · rw [hf.l (nn _ _ (by omega))]; exact E6
  · rw [hf.l (nn _ _ (by omega))]; exact E7
  · rw [hf.i (nn _ _ (by omega))]; exact w2
  · rw [hf.i (nn _ _ (by omega))]; exact f1
  · rw [hf.i (nn _ _ (by omega))]; exact f2
  · rw [hf.i (nn _ _ (by omega))]; exact f3
theorem RI.wdat (hFr : FrOK Fr) {S : Nat → Nat → Prop} {d : DS} (hf : FrC S M M') (hS : ∀ a j, S a j → (624 ≤ a ∧ a ≤ 631) ∨ (a = 605 ∧ (j = 2 ∨ j = 59))) (h : RI Fr M s) (hD : RDc M' d) (hd : WD d) (h59 : gI M' 605 59 = 0) : RI Fr M' (wDat s d) :=
  ⟨RO.run (h.1.fr hFr hf (fun a j z => by have := hS a j z; unfold rOc rPgc rKpc prS; omega)), h.2.dat hf hS hD hd h59⟩
theorem RTr.back {w w' : Nat} : ∀ (tr : List TE) (k : Nat), (∀ j, k ≤ j → j < k + tr.length → slN w (j + 1) = slN w' j) → RTr M w (k + 1) tr → RTr M w' k tr := by
  intro tr
  induction tr with
  | nil => intro k _ _; trivial
  | cons t tr ih =>
    intro k hS ⟨a, h⟩
    have e := hS k (Nat.le_refl k) (by rw [List.length_cons]; omega)
    rw [e] at a
    exact ⟨a, ih (k + 1) (fun j j1 j2 => hS j (by omega) (by rw [List.length_cons]; omega)) h⟩
theorem b_run {k : Int32} (hFr : FrOK Fr) (hW : Wf M) (hI : RI Fr M s) (h : ∀ M', Wf M' → FrC rfS M M' → ∀ a s', sRun k s = some (a, s') → RI Fr M' s' → gI M' 605 2 = 0 → K (some (.int a)) M') (h1 : sRun k s = none → ∀ M', Wf M' → FrC rfS M M' → RI Fr M' s → gI M' 605 2 = 1 → K (some (.int 0)) M') : sp_X13_run [.ref 605, .int k] M K := by
  unfold sRun at h h1
  by_cases z : inI k 2001
  · rw [iT_t z] at h
    have e := inI_nI z
    have l := inI_lt z
    conv => arg 1; rw [e]
    refine c_run13 hW (by omega) hI.prog hI.2 hI.1.2.2.2.1 hI.1.2.2.1 (fun M' hW' f hX => ?_)
    refine h M' hW' (thr_rf.tr (f.mono (fun a j z => by unfold rStpS at z; unfold rfS; omega))) _ _ rfl ⟨RO.run ((hI.1.fr hFr thr0 (fun a j z => by unfold rOc rPgc rKpc prS; omega)).fr hFr f (fun a j z => stp_rO z)), hX⟩ ?_
    rw [f.i (by unfold rStpS; omega), gI_uI, if_pos ⟨rfl, rfl⟩]
  · rw [iT_f z] at h1
    refine wX13_run hW (fun {G} hc => ?_)
    rw [in_N (N := 2001) (by decide) (show (2000 : Int64).toInt = _ from rfl)]
    refine ⟨fun _ => h1 rfl _ (thr_rf.wf hW) thr_rf (hI.t hFr) (by rw [gI_uI, if_pos ⟨rfl, rfl⟩]), fun y => absurd y z⟩
theorem b_back (hFr : FrOK Fr) (hW : Wf M) (hI : RI Fr M s) (h : ∀ M', Wf M' → FrC rfS M M' → RI Fr M' (sBack s).2 → gI M' 605 2 = 0 → K (some (.int (sBack s).1)) M') : sp_X13_back [.ref 605] M K := by
  obtain ⟨hO, hX⟩ := hI
  have hX0 := hX
  obtain ⟨hE, hOk, ⟨w, w1, w2, w3⟩, ⟨l1, l2⟩, hT, f1, f2, f3⟩ := hX
  refine wX13_back hW (fun {G} hc => ?_)
  rw [l1, w2]
  cases e : gTr s with
  | nil =>
    refine ⟨fun z => absurd (show nI 0 = 0 from rfl) z, fun _ => ?_⟩
    have es : sBack s = (-1, s) := by unfold sBack; rw [e]
    rw [es] at h
    exact h _ (thr0.wf hW) thr_rf (RI.t hFr ⟨hO, hX0⟩) (by rw [gI_uI, if_pos ⟨rfl, rfl⟩])
  | cons t rest =>
    have es : sBack s = (nI t.1, wRn s (t.2.2, rest, noF)) := by unfold sBack; rw [e]
    rw [es] at h
    rw [e] at w3 l1 l2 hT
    obtain ⟨⟨a1, a2, a3⟩, w4⟩ := w3
    have e0 : slN w 0 = w := by unfold slN; omega
    rw [e0] at a1 a2 a3
    have ht := hT t (List.mem_cons_self ..)
    rw [List.length_cons] at l1 l2
    refine ⟨fun _ => ⟨vpN w1 (by decide), ?_⟩, fun z => absurd ((nI_eq (a := (t :: rest).length) (b := 0) (by rw [List.length_cons]; omega) (by decide)).mp z) (by rw [List.length_cons]; omega)⟩
    rw [nI_clamp (by omega), a1]
    refine c_load13 (thr0.wf hW) (by omega) (fun M1 hW1 fl ld => rX13_back_14_9 hc hW1 ?_)
    have f01 : FrC (fun a j => loS a j ∨ (a = 605 ∧ j = 2)) M M1 := (thr0.mono (fun a j z => Or.inr z)).tr (fl.mono (fun a j z => Or.inl z))
    have g60 : gI M1 605 60 = nI w := by rw [f01.i (by unfold loS; omega)]; exact w2
    have g59 : gI M1 605 59 = nI (rest.length + 1) := by rw [f01.i (by unfold loS; omega)]; exact l1
    have a3' : REs (uI M 605 2 0) w t.2.2 := a3.fr ht.2.2.2.2 ht.2.1 thr0 (fun a j z => by unfold saS; omega)
    have hE1 : REc M1 t.2.2 := a3'.load ht.2.2.2.2 ht.2.1 ld
    rw [g60, g59, show (64 : Int32) = nI 64 from rfl, show (1 : Int32) = nI 1 from rfl, nI_add, pk_sub (by omega), pk_sub (by omega), pk_rem (by omega) (by decide) (by decide)]
    have f2' : FrC (fun a j => a = 605 ∧ (j = 48 ∨ j = 49 ∨ j = 50 ∨ j = 59 ∨ j = 60)) M1 (m_X13_noFault (uI (uI M1 605 60 (nI ((w + 64 - 1) % 64))) 605 59 (nI (rest.length + 1 - 1)))) := by
      unfold m_X13_noFault
      exact ((((FrC_uI (by omega)).tr (FrC_uI (by omega))).tr (FrC_uI (by omega))).tr (FrC_uI (by omega))).tr (FrC_uI (by omega))
    have f02 : FrC (fun a j => loS a j ∨ (a = 605 ∧ (j = 2 ∨ j = 48 ∨ j = 49 ∨ j = 50 ∨ j = 59 ∨ j = 60))) M (m_X13_noFault (uI (uI M1 605 60 (nI ((w + 64 - 1) % 64))) 605 59 (nI (rest.length + 1 - 1)))) := (f01.mono (fun a j z => by rcases z with z | z; exact Or.inl z; exact Or.inr (by omega))).tr (f2'.mono (fun a j z => Or.inr (by omega)))
    refine h _ (f02.wf hW) (f02.mono (fun a j z => by unfold loS at z; unfold rfS; omega)) ⟨RO.run (hO.fr hFr f02 (fun a j z => by unfold loS at z; unfold rOc rPgc rKpc prS; omega)), ?_, ht, ⟨(w + 64 - 1) % 64, Nat.mod_lt _ (by decide), ?_, ?_⟩, ⟨?_, ?_⟩, fun u hu => hT u (List.mem_cons_of_mem _ hu), ?_, ?_, ?_⟩ ?_
    · refine ⟨RDc.same f2' (fun a j z => by omega) hE1.1, ?_, ?_, ?_, fun j hj => ?_, ?_, ?_⟩
      · rw [f2'.i (by omega)]; exact hE1.2.1
      · rw [f2'.i (by omega)]; exact hE1.2.2.1
      · rw [f2'.i (by omega)]; exact hE1.2.2.2.1
      · rw [f2'.i (by omega)]; exact hE1.2.2.2.2.1 j hj
      · rw [f2'.l (by omega)]; exact hE1.2.2.2.2.2.1
      · rw [f2'.l (by omega)]; exact hE1.2.2.2.2.2.2
    · unfold m_X13_noFault
      rw [gI_uI, if_neg (by omega), gI_uI, if_neg (by omega), gI_uI, if_neg (by omega), gI_uI, if_neg (by omega), gI_uI, if_pos ⟨rfl, rfl⟩]
    · refine RTr.fr f02 rest 0 (by omega) (fun u hu => hT u (List.mem_cons_of_mem _ hu)) (fun j j1 j2 a b z => ?_) (RTr.back rest 0 (fun j j1 j2 => by unfold slN; omega) w4)
      have := rSlN_lt (w := (w + 64 - 1) % 64) (k := j)
      unfold loS at z
      unfold saS
      omega
    · unfold m_X13_noFault
      rw [gI_uI, if_neg (by omega), gI_uI, if_neg (by omega), gI_uI, if_neg (by omega), gI_uI, if_pos ⟨rfl, rfl⟩]
      rfl
    · show rest.length ≤ 64
      omega
    · unfold m_X13_noFault
      rw [gI_uI, if_neg (by omega), gI_uI, if_neg (by omega), gI_uI, if_pos ⟨rfl, rfl⟩]
      rfl
    · unfold m_X13_noFault
      rw [gI_uI, if_neg (by omega), gI_uI, if_pos ⟨rfl, rfl⟩]
      rfl
    · unfold m_X13_noFault
      rw [gI_uI, if_pos ⟨rfl, rfl⟩]
      rfl
    · rw [f2'.i (by omega), fl.i (by unfold loS; omega), gI_uI, if_pos ⟨rfl, rfl⟩]
end
end RINV
