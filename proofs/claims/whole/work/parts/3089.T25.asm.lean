section ASM
section
variable {t : Nat → Nat} {n : Nat}
theorem valS_le {o k w : Nat} {r : Nat → Int64} {x : TK} (h : valS t o k r x = .inl w) : w = sT x := by
  cases hv : opT t (letN o k) x with
  | none => rw [valS_n hv] at h; exact (Sum.inl.inj h).symm
  | some v => rw [valS_s hv] at h; exact absurd h (by simp)
theorem inr_fst {α β γ : Type} {a : β} {b : γ} {c : β} {d : γ} (h : (Sum.inr (a, b) : α ⊕ (β × γ)) = .inr (c, d)) : c = a := (congrArg Prod.fst (Sum.inr.inj h)).symm
theorem valS_re {o k p' : Nat} {r r' : Nat → Int64} {x : TK} (h : valS t o k r x = .inr (p', r')) : p' = eT x := by
  cases hv : opT t (letN o k) x with
  | none => rw [valS_n hv] at h; exact absurd h (by simp)
  | some v => rw [valS_s hv] at h; exact inr_fst h
theorem tk_le {p : Nat} (h256 : ∀ j, j < n → t j < 256) (hp : p ≤ n) : p ≤ sT (tok t n p) ∧ sT (tok t n p) ≤ eT (tok t n p) ∧ eT (tok t n p) ≤ n := by
  obtain ⟨a, b⟩ := tok_ok (t := t) (n := n) hp h256
  exact ⟨b, a.1, a.2.1⟩
theorem oneS_le {o k p : Nat} {r : Nat → Int64} (h256 : ∀ j, j < n → t j < 256) (hp : p ≤ n) : (∀ w, oneS t n o k p r = .inl w → w ≤ n) ∧ ∀ p' r', oneS t n o k p r = .inr (p', r') → p' ≤ n := by
  obtain ⟨a, b, c⟩ := tk_le h256 hp
  obtain ⟨d, e, f⟩ := tk_le h256 c
  unfold oneS
  refine ⟨fun w h => ?_, fun p' r' h => ?_⟩
  · split at h
    · split at h
      · have := valS_le h; omega
      · have := Sum.inl.inj h; omega
    · have := valS_le h; omega
  · split at h
    · split at h
      · have := valS_re h; omega
      · exact absurd h (by simp)
    · have := valS_re h; omega
theorem opsS_le {o : Nat} (h256 : ∀ j, j < n → t j < 256) : ∀ (f k p : Nat) (r : Nat → Int64), p ≤ n → (∀ w, opsS t n o f k p r = .inl w → w ≤ n) ∧ ∀ p' r', opsS t n o f k p r = .inr (p', r') → p' ≤ n := by
  intro f
  induction f with
  | zero =>
    intro k p r hp
    refine ⟨fun w h => absurd (show (Sum.inr (p, r) : Nat ⊕ (Nat × (Nat → Int64))) = .inl w from h) (by simp), fun p' r' h => ?_⟩
    have := inr_fst (show (Sum.inr (p, r) : Nat ⊕ (Nat × (Nat → Int64))) = .inr (p', r') from h)
    omega
  | succ f ih =>
    intro k p r hp
    obtain ⟨a, b⟩ := oneS_le (o := o) (k := k) (r := r) h256 hp
    rw [opsS_eq]
    cases hq : oneS t n o k p r with
    | inl w => exact ⟨fun w' h => by rw [← Sum.inl.inj (show (Sum.inl w : Nat ⊕ (Nat × (Nat → Int64))) = .inl w' from h)]; exact a w hq, fun p' r' h => absurd (show (Sum.inl w : Nat ⊕ (Nat × (Nat → Int64))) = .inr (p', r') from h) (by simp)⟩
    | inr q =>
      obtain ⟨q1, q2⟩ := q
      exact ih (k + 1) q1 q2 (b q1 q2 hq)
theorem insS_le {o p : Nat} (h256 : ∀ j, j < n → t j < 256) (hp : p ≤ n) : (∀ w, insS t n o p = .inl w → w ≤ n) ∧ ∀ x r, insS t n o p = .inr (x, r) → sT x ≤ n := by
  obtain ⟨a, b⟩ := opsS_le (o := o) h256 (opL o).length 0 p (row0 o) hp
  unfold insS
  cases hq : opsS t n o (opL o).length 0 p (row0 o) with
  | inl w => exact ⟨fun w' h => by rw [← Sum.inl.inj (show (Sum.inl w : Nat ⊕ (TK × (Nat → Int64))) = .inl w' from h)]; exact a w hq, fun p' r' h => absurd (show (Sum.inl w : Nat ⊕ (TK × (Nat → Int64))) = .inr (p', r') from h) (by simp)⟩
  | inr q =>
    obtain ⟨q1, q2⟩ := q
    have b := b q1 q2 hq
    obtain ⟨c, d, e⟩ := tk_le h256 b
    obtain ⟨c2, d2, e2⟩ := tk_le h256 e
    obtain ⟨c3, d3, e3⟩ := tk_le h256 e2
    refine ⟨fun w h => ?_, fun x r h => ?_⟩
    · have h : mskS t n o q1 q2 = .inl w := h
      unfold mskS at h
      split at h
      · cases hv : nbT t 109 4 (tok t n (eT (tok t n q1))) with
        | none => rw [hv] at h; have := Sum.inl.inj h; omega
        | some v => rw [hv] at h; exact absurd h (by simp)
      · exact absurd h (by simp)
    · have h : mskS t n o q1 q2 = .inr (x, r) := h
      unfold mskS at h
      split at h
      · cases hv : nbT t 109 4 (tok t n (eT (tok t n q1))) with
        | none => rw [hv] at h; exact absurd h (by simp)
        | some v => rw [hv] at h; rw [inr_fst h]; omega
      · rw [inr_fst h]; omega
theorem lin2_le {x : TK} {st : PS} {w : Nat} (h256 : ∀ j, j < n → t j < 256) (hx : sT x ≤ n ∧ eT x ≤ n) (h : lin2 t n x st = .inl w) : w ≤ n := by
  rw [lin2_eq] at h
  have fin : ∀ {z : TK} {s : PS}, sT z ≤ n → endS z s = .inl w → w ≤ n := by
    intro z s hs hz
    unfold endS at hz
    split at hz
    · exact absurd hz (by simp)
    · rw [← Sum.inl.inj hz]; exact hs
  split at h
  · cases hq : ins2 t n x st with
    | inl w' =>
      rw [hq] at h
      rw [← Sum.inl.inj (show (Sum.inl w' : Nat ⊕ (TK × PS)) = .inl w from h)]
      unfold ins2 at hq
      split at hq
      · cases hi : insS t n (woN t x) (eT x) with
        | inl v =>
          rw [hi] at hq
          rw [← Sum.inl.inj (show (Sum.inl v : Nat ⊕ (TK × PS)) = .inl w' from hq)]
          exact (insS_le h256 hx.2).1 v hi
        | inr q => rw [hi] at hq; exact absurd (show (Sum.inr _ : Nat ⊕ (TK × PS)) = .inl w' from hq) (by simp)
      · rw [← Sum.inl.inj hq]; exact hx.1
    | inr q =>
      rw [hq] at h
      refine fin ?_ (show endS q.1 q.2 = .inl w from h)
      unfold ins2 at hq
      split at hq
      · cases hi : insS t n (woN t x) (eT x) with
        | inl v => rw [hi] at hq; exact absurd (show (Sum.inl v : Nat ⊕ (TK × PS)) = .inr q from hq) (by simp)
        | inr r =>
          rw [hi] at hq
          obtain ⟨r1, r2⟩ := r
          have : q = (r1, (pD st + 1, up1 (pC st) (pD st) r2, pB st, pF st, pA st)) := (Sum.inr.inj (show (Sum.inr (r1, (pD st + 1, up1 (pC st) (pD st) r2, pB st, pF st, pA st)) : Nat ⊕ (TK × PS)) = .inr q from hq)).symm
          rw [this]
          exact (insS_le h256 hx.2).2 r1 r2 hi
      · exact absurd hq (by simp)
  · exact fin hx.1 h
theorem linS_le {p : Nat} {st : PS} {w : Nat} (h256 : ∀ j, j < n → t j < 256) (hp : p ≤ n) (h : linS t n p st = .inl w) : w ≤ n := by
  obtain ⟨c, d, e⟩ := tk_le h256 hp
  obtain ⟨c2, d2, e2⟩ := tk_le h256 e
  obtain ⟨c3, d3, e3⟩ := tk_le h256 e2
  unfold linS at h
  split at h
  · split at h
    · exact lin2_le h256 ⟨by omega, e3⟩ h
    · rw [← Sum.inl.inj h]; omega
  · exact lin2_le h256 ⟨by omega, e⟩ h
end
section
variable {M M' : Mem} {K : RT} {t : Nat → Nat} {n : Nat} {s : SG} {Fl : Mem → Nat → (Nat → Nat → Int64) → Prop}
def lnsA (t : Nat → Nat) (n f : Nat) (q : Nat ⊕ (TK × PS)) : Nat ⊕ PS := match q with | .inl w => .inl w | .inr q => if oT q.1 = true then .inr q.2 else lnsS t n f (eT q.1) q.2
theorem lnsS_eq {f p : Nat} {st : PS} : lnsS t n (f + 1) p st = lnsA t n f (linS t n p st) := rfl
def asmA (t : Nat → Nat) (n : Nat) (st : PS) (q : Nat ⊕ (Nat → Nat → Int64)) : Nat ⊕ PS := match q with | .inl w => .inl w | .inr c => .inr (pD st, c, pB st, pF st, pA st)
def asmB (t : Nat → Nat) (n : Nat) (q : Nat ⊕ PS) : Nat ⊕ PS := match q with | .inl w => .inl w | .inr st => asmA t n st (ldsS t n (pB st) (pF st) (pA st) (pD st) 0 (pC st))
theorem asmS_eq : asmS t n = asmB t n (lnsS t n (n + 1) 0 ps0) := rfl
theorem c_translate (hW : Wf M) (hn : n ≤ 4000) (hb : ∀ j, j < n → gI M 4 j = nI (t j) ∧ t j < 256)
    (h1 : ∀ st M', asmS t n = .inr st → Wf M' → Mo rdS M M' → PRG M' 2 (pD st) (pC st) → gI M' 2 1 = nI (pB st) → K (some (.int (-1 : Int32))) M')
    (h0 : ∀ w M', asmS t n = .inl w → w ≤ n → Wf M' → Mo rdS M M' → K (some (.int (nI w))) M') : sp_X7_translate [.ref 1, .int (nI n)] M K := by
  refine wX7_translate hW (fun {G} hc => ?_)
  have h256 : ∀ j, j < n → t j < 256 := fun j hj => (hb j hj).2
  -- behind the lines
  have lead : ∀ (st : PS) (M1 : Mem) (o2 : Option Value), lnsS t n (n + 1) 0 ps0 = .inr st → PI t n st → Mo rdS M M1 → RS1 M1 t n st → sp_X7_setLeads [.ref 1] (uI M1 2 1 (gI M1 1 8)) (fun v M' => RX7_translate_60_6 G K [some (.ref 1), some (.int (nI n)), o2] (v.toList ++ []) M') := by
    intro st M1 o2 e hI hm1 hS
    rw [asmS_eq, e] at h1 h0
    have e1 : ∀ a j, a ≠ 2 → gI (uI M1 2 1 (gI M1 1 8)) a j = gI M1 a j := fun a j ha => (Mo_uI (S := fun b => b = 2) rfl).I ha
    have hm2 : Mo rdS M (uI M1 2 1 (gI M1 1 8)) := hm1.tr (Mo_uI (Or.inr (Or.inl rfl)))
    have hS2 : RS1 (uI M1 2 1 (gI M1 1 8)) t n st := ⟨Wf_uI hS.1, hS.2.1.mo (fun j => e1 4 j (by decide)) (e1 1 3 (by decide)), ⟨by rw [e1 1 8 (by decide)]; exact hS.2.2.1.1, hS.2.2.1.2.1, fun l hl => by rw [e1 5 l (by decide), e1 6 l (by decide)]; exact hS.2.2.1.2.2 l hl⟩, hS.2.2.2.1, by rw [rI_k (by decide)]; exact hS.2.2.2.2.1, hS.2.2.2.2.2⟩
    refine c_setLeads hS2 hI (fun c' M3 e3 hm3 h23 hR3 => rX7_translate_60_6 hc hR3.1 ?_) (fun w M3 e3 hw hW3 hm3 => rX7_translate_60_6 hc hW3 ?_)
    · refine h1 (pD st, c', pB st, pF st, pA st) M3 ?_ hR3.1 (hm2.tr hm3) ⟨hR3.2.2.2.1, hR3.2.2.2.2.1, hR3.2.2.2.2.2⟩ ?_
      · show asmA t n st _ = _
        rw [e3]; rfl
      · rw [h23, rI_eq]; exact hS.2.2.1.1
    · refine h0 w M3 ?_ (by omega) hW3 (hm2.tr hm3)
      show asmA t n st _ = _
      rw [e3]; rfl
  have loop : ∀ f line : Nat, line + f = n + 1 → ∀ p st M1, lnsS t n f p st = lnsS t n (n + 1) 0 ps0 → p ≤ n → PI t n st → Mo rdS M M1 → RS1 M1 t n st → gI M1 1 4 = nI p → gI M1 1 7 = 0 → G 30 [some (.ref 1), some (.int (nI n)), some (.int (nI line))] [] M1 := by
    intro f
    induction f with
    | zero =>
      intro line hl p st M1 e hp hI hm1 hS h4 h7
      exact eX7_translate_30 hc hS.1 ⟨fun _ => lead st M1 _ e.symm hI hm1 hS, fun z => absurd ((nI_ltI (by omega) (by omega)).mpr (by omega)) z⟩
    | succ f ih =>
      intro line hl p st M1 e hp hI hm1 hS h4 h7
      rw [lnsS_eq] at e
      refine eX7_translate_30 hc hS.1 ⟨fun z => absurd ((nI_ltI (by omega) (by omega)).mp z) (by omega), fun _ => ⟨fun z => absurd h7 z, fun _ => ?_⟩⟩
      refine c_readLine hS hp h4 h7 (fun x' st' M2 e2 hm2 hS2 hx2 hr2 => rX7_translate_42_1 hc hS2.1 ⟨fun _ => ?_, fun z => absurd z (by decide)⟩) (fun w M2 e2 hW2 hm2 g6 => rX7_translate_42_1 hc hW2 ⟨fun z => absurd rfl z, fun _ => ?_⟩)
      · rw [e2] at e
        have hI2 := linS_ok hI e2
        rw [nI_1]
        by_cases ov : oT x' = true
        · have e : (Sum.inr st' : Nat ⊕ PS) = lnsS t n (n + 1) 0 ps0 := by
            have : (if oT x' = true then Sum.inr st' else lnsS t n f (eT x') st') = lnsS t n (n + 1) 0 ps0 := e
            rw [if_pos ov] at this
            exact this
          have h7' : ¬ gI M2 1 7 = 0 := by rw [hr2.2.2.2, ov]; decide
          refine eX7_translate_30 hc hS2.1 ⟨fun _ => lead st' M2 _ e.symm hI2 (hm1.tr hm2) hS2, fun _ => ⟨fun _ => lead st' M2 _ e.symm hI2 (hm1.tr hm2) hS2, fun z => absurd z h7'⟩⟩
        · have e : lnsS t n f (eT x') st' = lnsS t n (n + 1) 0 ps0 := by
            have : (if oT x' = true then Sum.inr st' else lnsS t n f (eT x') st') = lnsS t n (n + 1) 0 ps0 := e
            rw [if_neg ov] at this
            exact this
          have ov : oT x' = false := by simpa using ov
          exact ih (line + 1) (by omega) (eT x') st' M2 e hx2.2.1 hI2 (hm1.tr hm2) hS2 hr2.1 (by rw [hr2.2.2.2, ov]; rfl)
      · rw [e2] at e
        rw [g6]
        refine h0 w M2 ?_ (linS_le h256 hp e2) hW2 (hm1.tr hm2)
        rw [asmS_eq, ← e]
        rfl
  generalize hM1 : uI (uI (uI (uI (uI M 2 0 (0 : Int32)) 1 3 (nI n)) 1 4 (0 : Int32)) 1 7 (0 : Int32)) 1 8 (0 : Int32) = M1
  have hm1 : Mo (fun b => b = 1 ∨ b = 2) M M1 := by
    subst hM1
    exact ((((Mo_uI (Or.inr rfl)).tr (Mo_uI (Or.inl rfl))).tr (Mo_uI (Or.inl rfl))).tr (Mo_uI (Or.inl rfl))).tr (Mo_uI (Or.inl rfl))
  refine loop (n + 1) 0 (Nat.zero_add _) 0 ps0 M1 rfl (Nat.zero_le _) PI0 (hm1.mono (fun b hb => by unfold rdS; omega)) ⟨by subst hM1; exact Wf_uI (Wf_uI (Wf_uI (Wf_uI (Wf_uI hW)))), ⟨hn, ?_, fun j hj => ?_⟩, ⟨?_, Nat.zero_le _, fun l hl => absurd hl (Nat.not_lt_zero l)⟩, Nat.zero_le _, ?_, fun i hi => absurd hi (Nat.not_lt_zero i)⟩ ?_ ?_
  · subst hM1; rw [rI_k (by decide), rI_k (by decide), rI_k (by decide), rI_eq]
  · rw [hm1.I (by omega)]; exact hb j hj
  · subst hM1; exact rI_eq
  · subst hM1
    have : ∀ (M : Mem) (k : Nat) (y : Int32), gI (uI M 1 k y) 2 0 = gI M 2 0 := fun M k y => (Mo_uI (S := fun b => b = 1) (M := M) (a := 1) (k := k) (x := y) rfl).I (by decide)
    rw [this, this, this, this, rI_eq]; rfl
  · subst hM1; rw [rI_k (by decide), rI_k (by decide), rI_eq]; rfl
  · subst hM1; rw [rI_k (by decide), rI_eq]
theorem k_assemble {x : Int32} (hFl : FlOK Fl) (hW : Wf M) (hC : CI Fl M s) (h : ∀ M', Wf M' → Mo clsS M M' → CI Fl M' (sAsm x s).2 → K (some (.int (sAsm x s).1)) M') : sp_X12_assemble [.ref 0, .int x] M K := by
  have hC0 := hC
  obtain ⟨⟨c1, ⟨p1, p2, p3, p4, p5, p6, p7, p8⟩, c3, c4, c5, c6⟩, cx⟩ := hC
  unfold sAsm at h
  have hh := c1.1
  have no : ¬ inI x ((gTp s).1 + 1) → K (some (.int (-5000 : Int32))) M := fun z => by rw [iT_f z] at h; exact h M hW Mo.rf hC0
  refine wX12_assemble hW (fun {G} hc => ?_)
  rw [c1.2.1]
  refine ⟨fun z => no (fun y => ((inI_le (by omega)).mp y).1 z), fun a => ⟨fun b => ?_, fun z => no (fun y => z ((inI_le (by omega)).mp y).2)⟩⟩
  have hx : inI x ((gTp s).1 + 1) := (inI_le (by omega)).mpr ⟨a, b⟩
  have hlt := inI_lt hx
  rw [iT_t hx] at h
  conv => rw [inI_nI hx]
  have nr : ∀ b, (rdS b ∨ b = 1) → b ≠ 0 ∧ b ≤ 6 := fun b hb => by unfold rdS at hb; omega
  refine c_translate (t := (gTp s).2) hW (by omega) (fun j hj => c1.2.2 j (by omega)) (fun st M1 e hW1 hm1 hP1 hl1 => rX12_assemble_19_3 hc hW1 ⟨fun _ => ?_, fun z => absurd (by decide) z⟩) (fun w M1 e hw hW1 hm1 => rX12_assemble_19_3 hc hW1 ⟨fun z => absurd z (nI_pos (by omega)), fun _ => ?_⟩)
  · rw [e] at h
    have h : ∀ M', Wf M' → Mo clsS M M' → CI Fl M' (pAsm s st) → K (some (.int (nI (pD st)))) M' := h
    obtain ⟨v1, v2, v3⟩ := asm_ok (show iv x < 2 ^ 31 by omega) e
    have hm2 : Mo (fun b => rdS b ∨ b = 1) M (uI M1 1 0 0) := (hm1.mono (fun b hb => Or.inl hb)).tr (Mo_uI (Or.inr rfl))
    have hmu : Mo (fun b => b = 1) M1 (uI M1 1 0 0) := Mo_uI rfl
    have hP2 : PRG (uI M1 1 0 0) 2 (pD st) (pC st) := hP1.mo hmu (by decide) (by decide)
    have hl2 : gI (uI M1 1 0 0) 2 1 = nI (pB st) := by rw [hmu.I (by decide)]; exact hl1
    have h10 : gI (uI M1 1 0 0) 1 0 = 0 := rI_eq
    have hW2 : Wf (uI M1 1 0 0) := Wf_uI hW1
    generalize uI M1 1 0 0 = M2 at hm2 hP2 hl2 h10 hW2 ⊢
    obtain ⟨q1, q2, q3, q4⟩ := pcopy (M := M2) (p := 447) (q := 2) (by omega) hP2
    have hW3 : Wf (m_X6_copyFrom 447 2 M2) := Wf_m_X6_copyFrom _ _ hW2
    refine ⟨q1, ?_⟩
    generalize m_X6_copyFrom 447 2 M2 = M3 at q2 q3 q4 hW3 ⊢
    have hP3 := hP2.mo q4 (by omega) (by omega)
    obtain ⟨r1, r2, r3, r4⟩ := pcopy (M := M3) (p := 8) (q := 2) (by omega) hP3
    have hW4 : Wf (m_X6_copyFrom 8 2 M3) := Wf_m_X6_copyFrom _ _ hW3
    refine ⟨r1, ?_⟩
    generalize m_X6_copyFrom 8 2 M3 = M4 at r2 r3 r4 hW4 ⊢
    have hm5 : Mo (fun b => b = 0) M4 (uI M4 0 10 0) := Mo_uI rfl
    have hm05 : Mo (fun b => (b ≤ 6 ∨ b = 8 ∨ b = 9) ∨ (b = 447 ∨ b = 448)) M (uI M4 0 10 0) := (((hm2.mono (fun b hb => by have := nr b hb; omega)).tr (q4.mono (fun b hb => by omega))).tr (r4.mono (fun b hb => by omega))).tr (hm5.mono (fun b hb => by have hb : b = 0 := hb; omega))
    have hx5 := cx.mo hW hm05 (fun b hb => by omega)
    have p85 := r2.mo hm5 (by decide) (by decide)
    have p45 := (q2.mo r4 (by omega) (by omega)).mo hm5 (by decide) (by decide)
    refine c_anew (n := pD st) (c := pC st) (Wf_uI hW4) hx5 ⟨p85.2.1, p85.1⟩ (fun M6 hW6 hm6 hst hfl hx6 => rX12_assemble_44_16 hc hW6 ?_)
    have hm : Mo (fun b => ((b ≤ 6 ∨ b = 8 ∨ b = 9) ∨ (b = 447 ∨ b = 448)) ∨ (b = 455 ∨ b = 449 ∨ stpS b)) M M6 := (hm05.mono (fun b hb => Or.inl hb)).tr (hm6.mono (fun b hb => Or.inr hb))
    have nn : ∀ b, (((b ≤ 6 ∨ b = 8 ∨ b = 9) ∨ (b = 447 ∨ b = 448)) ∨ (b = 455 ∨ b = 449 ∨ stpS b)) → b ≤ 449 ∨ b = 455 := fun b hb => by unfold stpS at hb; omega
    have p86 := p85.mo hm6 (by unfold stpS; omega) (by unfold stpS; omega)
    rw [p86.2.1]
    have g0 : ∀ a j, (a ≠ 0 ∧ a ≤ 6) → gI M6 a j = gI M2 a j := fun a j ha => by rw [hm6.I (by unfold stpS; omega), hm5.I (by omega), r4.I (by omega), q4.I (by omega)]
    refine h _ hW6 (hm.mono (fun b hb => by have := nn b hb; unfold clsS; omega)) ⟨⟨⟨Nat.zero_le _, ?_, fun j hj => absurd hj (Nat.not_lt_zero j)⟩, ⟨p86, p45.mo hm6 (by unfold stpS; omega) (by unfold stpS; omega), ?_, ?_, v2, ?_, v3, v3⟩, fun i hi => hst i hi, c4.mo hm (fun z => by have := nn _ z; omega), c5.mo hm (fun z => by have := nn _ z; omega) (fun b hb => by have := nn _ hb; omega), ⟨Or.inl hfl, fun z => by rw [hfl] at z; exact absurd z (by decide)⟩⟩, hx6⟩
    · rw [g0 1 0 (by decide)]; exact h10
    · rw [hm6.I (by unfold stpS; omega), hm5.I (by decide), r3, q4.I (by omega)]; exact hl2
    · rw [hm6.I (by unfold stpS; omega), hm5.I (by decide), r4.I (by omega), q3]; exact hl2
    · rw [hm6.I (by unfold stpS; omega), rI_eq]; rfl
  · rw [e] at h
    have h : ∀ M', Wf M' → Mo clsS M M' → CI Fl M' (wTp s (0, (gTp s).2)) → K (some (.int ((-1 : Int32) - nI w))) M' := h
    have hm2 : Mo (fun b => rdS b ∨ b = 1) M (uI M1 1 0 0) := (hm1.mono (fun b hb => Or.inl hb)).tr (Mo_uI (Or.inr rfl))
    refine h _ (Wf_uI hW1) (hm2.mono (fun b hb => by have := nr b hb; unfold clsS; omega)) ⟨⟨⟨Nat.zero_le _, rI_eq, fun j hj => absurd hj (Nat.not_lt_zero j)⟩, ?_, c3.mo hm2 (fun z => by have := nr _ z; omega), c4.mo hm2 (fun z => by have := nr _ z; omega), c5.mo hm2 (fun z => by have := nr _ z; omega) (fun b hb => by have := nr _ hb; omega), c6.mo hFl hm2 (fun b hb => by have := nr _ hb; omega)⟩, cx.mo hW hm2 (fun b hb => by have := nr _ hb; omega)⟩
    have := CPr.mo (s := s) hm2 (fun z => by have := nr _ z; omega) (fun z => by have := nr _ z; omega) (fun z => by have := nr _ z; omega) (fun z => by have := nr _ z; omega) (fun z => by have := nr _ z; omega) ⟨p1, p2, p3, p4, p5, p6, p7, p8⟩
    exact this
theorem by_f {w : Int32} {s k : Nat} (hs : s = 24 - 8 * k) (hk : k < 4) : ((w.toUInt32 >>> ((nI s).toUInt32 &&& Int32.toUInt32 31)).toInt32) &&& (255 : Int32) = nI (byF w k) := by
  have e : w = nI w.toBitVec.toNat := by
    refine Int32.toBitVec_inj.mp ?_
    show _ = BitVec.ofNat 32 w.toBitVec.toNat
    rw [BitVec.ofNat_toNat, BitVec.setWidth_eq]
  have := ush_i (k := w.toBitVec.toNat) (j := s) w.toBitVec.isLt (by omega)
  rw [← e] at this
  rw [this, show (255 : Int32) = nI (2 ^ 8 - 1) from rfl, nx_and, Nat.and_two_pow_sub_one_eq_mod, hs]
  rfl
theorem c_hold {w : Int32} {hl : Nat} (hW : Wf M) (h4 : hl + 4 ≤ 4000) (h0 : gI M 1 0 = nI hl) (h : ∀ M', Wf M' → Mo (fun b => b = 1 ∨ b = 4) M M' → gI M' 1 0 = nI (hl + 4) → (∀ j, ¬ (hl ≤ j ∧ j < hl + 4) → gI M' 4 j = gI M 4 j) → (∀ k, k < 4 → gI M' 4 (hl + k) = nI (byF w k)) → K none M') : sp_X7_hold [.ref 1, .int w] M K := by
  refine wX7_hold hW (fun {G} hc => ?_)
  have step : ∀ k, k < 4 → ∀ M1, Wf M1 → Mo (fun b => b = 1 ∨ b = 4) M M1 → gI M1 1 0 = nI (hl + k) → (∀ j, ¬ (hl ≤ j ∧ j < hl + 4) → gI M1 4 j = gI M 4 j) → (∀ q, q < k → gI M1 4 (hl + q) = nI (byF w q)) → (∀ M2, Wf M2 → Mo (fun b => b = 1 ∨ b = 4) M M2 → gI M2 1 0 = nI (hl + (k + 1)) → (∀ j, ¬ (hl ≤ j ∧ j < hl + 4) → gI M2 4 j = gI M 4 j) → (∀ q, q < k + 1 → gI M2 4 (hl + q) = nI (byF w q)) → G 3 [some (.ref 1), some (.int w), some (.int (nI (24 - 8 * k) + (-8 : Int32)))] [] M2) → G 3 [some (.ref 1), some (.int w), some (.int (nI (24 - 8 * k)))] [] M1 := by
    intro k hk M1 hW1 hm1 g1 g2 g3 hG
    refine eX7_hold_3 hc hW1 ⟨fun z => absurd z (nI_pos (by omega)), fun _ => ?_⟩
    rw [g1]
    refine ⟨fun z => absurd ((nI_leI (a := 4000) (by decide) (by omega)).mp z) (by omega), fun _ => ⟨vpN (by omega) (by decide), ?_⟩⟩
    rw [by_f rfl hk, nI_clamp (by omega), nI_1]
    have e4 : ∀ (M : Mem) (y : Int32) (j : Nat), gI (uI M 1 0 y) 4 j = gI M 4 j := fun M y j => (Mo_uI (S := fun b => b = 1) (M := M) (a := 1) (k := 0) (x := y) rfl).I (by decide)
    refine hG _ (Wf_uI (Wf_uI hW1)) ((hm1.tr (Mo_uI (Or.inr rfl))).tr (Mo_uI (Or.inl rfl))) rI_eq (fun j hj => ?_) (fun q hq => ?_)
    · rw [e4, rI_k (by omega)]; exact g2 j hj
    · rw [e4]
      by_cases z : q = k
      · rw [z, rI_eq]
      · rw [rI_k (by omega)]; exact g3 q (by omega)
  have a0 : nI (24 - 8 * 0) + (-8 : Int32) = nI (24 - 8 * 1) := by decide
  have a1 : nI (24 - 8 * 1) + (-8 : Int32) = nI (24 - 8 * 2) := by decide
  have a2 : nI (24 - 8 * 2) + (-8 : Int32) = nI (24 - 8 * 3) := by decide
  refine step 0 (by decide) M hW Mo.rf h0 (fun _ _ => rfl) (fun q hq => absurd hq (Nat.not_lt_zero q)) (fun M1 w1 m1 x1 y1 z1 => ?_)
  rw [a0]
  refine step 1 (by decide) M1 w1 m1 x1 y1 z1 (fun M2 w2 m2 x2 y2 z2 => ?_)
  rw [a1]
  refine step 2 (by decide) M2 w2 m2 x2 y2 z2 (fun M3 w3 m3 x3 y3 z3 => ?_)
  rw [a2]
  refine step 3 (by decide) M3 w3 m3 x3 y3 z3 (fun M4 w4 m4 x4 y4 z4 => ?_)
  refine eX7_hold_3 hc w4 ⟨fun _ => h M4 w4 m4 x4 y4 z4, fun z => absurd (by decide) z⟩
theorem k_feed {a b c d e : Int32} (hFl : FlOK Fl) (hW : Wf M) (hC : CI Fl M s) (h : ∀ M', Wf M' → Mo clsS M M' → CI Fl M' (sFeed a b c d e s).2 → K (some (.int (sFeed a b c d e s).1)) M') : sp_X12_feed [.ref 0, .int a, .int b, .int c, .int d, .int e] M K := by
  have hC0 := hC
  obtain ⟨⟨c1, c2, c3, c4, c5, c6⟩, cx⟩ := hC
  have hh := c1.1
  unfold sFeed at h
  generalize hH : (gTp s).1 = H at h hh
  have c10 : gI M 1 0 = nI H := by rw [← hH]; exact c1.2.1
  refine wX12_feed hW (fun {G} hc => ?_)
  rw [c10, show (20 : Int32) = nI 20 from rfl, nI_add, show (4000 : Int32) = nI 4000 from rfl, nI_leI (by omega) (by decide)]
  refine ⟨fun z => ?_, fun z => by rw [if_neg z] at h; exact h M hW Mo.rf hC0⟩
  rw [if_pos z] at h
  refine c_hold hW (by omega) c10 (fun M1 w1 m1 x1 y1 z1 => rX12_feed_18_3 hc w1 ?_)
  refine c_hold w1 (by omega) x1 (fun M2 w2 m2 x2 y2 z2 => rX12_feed_18_7 hc w2 ?_)
  refine c_hold w2 (by omega) x2 (fun M3 w3 m3 x3 y3 z3 => rX12_feed_18_11 hc w3 ?_)
  refine c_hold w3 (by omega) x3 (fun M4 w4 m4 x4 y4 z4 => rX12_feed_18_15 hc w4 ?_)
  refine c_hold w4 (by omega) x4 (fun M5 w5 m5 x5 y5 z5 => rX12_feed_18_19 hc w5 ?_)
  have hm : Mo (fun b => b = 1 ∨ b = 4) M M5 := (((m1.tr m2).tr m3).tr m4).tr m5
  have lt : ∀ w k, byF w k < 256 := fun w k => Nat.mod_lt _ (by decide)
  refine h M5 w5 (hm.mono (fun b hb => by unfold clsS; omega)) ⟨⟨⟨z, x5, fun j hj => ?_⟩, CPr.mo (s := s) hm (by decide) (by decide) (by decide) (by decide) (by decide) c2, c3.mo hm (by decide), c4.mo hm (by decide), c5.mo hm (by decide) (fun b hb => by omega), c6.mo hFl hm (fun b hb => by omega)⟩, cx.mo hW hm (fun b hb => by omega)⟩
  have hj : j < H + 20 := hj
  show gI M5 4 j = nI (if j < H then (gTp s).2 j else if j < H + 4 then byF a (j - H) else if j < H + 8 then byF b (j - H - 4) else if j < H + 12 then byF c (j - H - 8) else if j < H + 16 then byF d (j - H - 12) else byF e (j - H - 16)) ∧ (if j < H then (gTp s).2 j else if j < H + 4 then byF a (j - H) else if j < H + 8 then byF b (j - H - 4) else if j < H + 12 then byF c (j - H - 8) else if j < H + 16 then byF d (j - H - 12) else byF e (j - H - 16)) < 256
  by_cases g0 : j < H
  · rw [if_pos g0, y5 j (by omega), y4 j (by omega), y3 j (by omega), y2 j (by omega), y1 j (by omega)]
    exact c1.2.2 j (by omega)
  rw [if_neg g0]
  by_cases g1 : j < H + 4
  · rw [if_pos g1, y5 j (by omega), y4 j (by omega), y3 j (by omega), y2 j (by omega)]
    have := z1 (j - H) (by omega)
    rw [show H + (j - H) = j by omega] at this
    exact ⟨this, lt _ _⟩
  rw [if_neg g1]
  by_cases g2 : j < H + 8
  · rw [if_pos g2, y5 j (by omega), y4 j (by omega), y3 j (by omega)]
    have := z2 (j - H - 4) (by omega)
    rw [show H + 4 + (j - H - 4) = j by omega] at this
    exact ⟨this, lt _ _⟩
  rw [if_neg g2]
  by_cases g3 : j < H + 12
  · rw [if_pos g3, y5 j (by omega), y4 j (by omega)]
    have := z3 (j - H - 8) (by omega)
    rw [show H + 4 + 4 + (j - H - 8) = j by omega] at this
    exact ⟨this, lt _ _⟩
  rw [if_neg g3]
  by_cases g4 : j < H + 16
  · rw [if_pos g4, y5 j (by omega)]
    have := z4 (j - H - 12) (by omega)
    rw [show H + 4 + 4 + 4 + (j - H - 12) = j by omega] at this
    exact ⟨this, lt _ _⟩
  rw [if_neg g4]
  have := z5 (j - H - 16) (by omega)
  rw [show H + 4 + 4 + 4 + 4 + (j - H - 16) = j by omega] at this
  exact ⟨this, lt _ _⟩
end
end ASM
