section ADV
section
variable {M M' : Mem} {K : RT} {t : Nat → Nat} {n : Nat}
/-- the tape, as the reader has it -/
def RdT (M : Mem) (t : Nat → Nat) (n : Nat) : Prop := n ≤ 4000 ∧ gI M 1 3 = nI n ∧ ∀ j, j < n → gI M 4 j = nI (t j) ∧ t j < 256
theorem byte_f {i : Nat} (hT : RdT M t n) (hi : i < 2 ^ 31) : q_X7_byteAt (nI i) M ∧ f_X7_byteAt (nI i) M = if i < n then nI (t i) else -1 := by
  obtain ⟨a, b, c⟩ := hT
  unfold q_X7_byteAt f_X7_byteAt
  rw [b, nI_clamp (by omega), if_neg (nI_pos (by omega))]
  by_cases h : i < n
  · rw [if_pos h, if_neg (fun z => by have := (nI_leI (by omega) (by omega)).mp z; omega)]
    exact ⟨fun _ _ => vpN (by omega) (by decide), (c i h).1⟩
  · rw [if_neg h, if_pos (nI_le (by omega) (by omega))]
    exact ⟨fun _ z => absurd (nI_le (by omega) (by omega)) z, rfl⟩
theorem isLet_P {b : Nat} (h : b < 2 ^ 31) : P_X7_isLetter (nI b) ↔ isLet b = true := by
  unfold P_X7_isLetter isLet
  rw [show (97 : Int32) = nI 97 from rfl, show (122 : Int32) = nI 122 from rfl, nI_ltI h (by omega), nI_ltI (by omega) h, decide_eq_true_iff]
  omega
theorem isDig_P {b : Nat} (h : b < 2 ^ 31) : P_X7_isDigit (nI b) ↔ isDig b = true := by
  unfold P_X7_isDigit isDig
  rw [show (48 : Int32) = nI 48 from rfl, show (57 : Int32) = nI 57 from rfl, nI_ltI h (by omega), nI_ltI (by omega) h, decide_eq_true_iff]
  omega
theorem isWd_P {b : Nat} (h : b < 2 ^ 31) : P_X7_isOfWord (nI b) ↔ isWd b = true := by
  unfold P_X7_isOfWord isWd
  rw [isLet_P h, isDig_P h, Bool.or_eq_true]
theorem no_let : ¬ P_X7_isLetter (-1) ∧ ¬ P_X7_isDigit (-1) := by
  constructor
  · intro z; exact z.1 (by decide)
  · intro z; exact z.1 (by decide)
theorem RdT.mo (hm : ∀ j, gI M' 4 j = gI M 4 j) (h3 : gI M' 1 3 = gI M 1 3) (hT : RdT M t n) : RdT M' t n := ⟨hT.1, by rw [h3]; exact hT.2.1, fun j hj => by rw [hm]; exact hT.2.2 j hj⟩
/-- only these fields of the reader become others -/
def Fld (F : Nat → Prop) (M M' : Mem) : Prop := Wf M' ∧ Mo (fun b => b = 1) M M' ∧ ∀ j, ¬ F j → gI M' 1 j = gI M 1 j
theorem Fld.rf {F : Nat → Prop} (hW : Wf M) : Fld F M M := ⟨hW, Mo.rf, fun _ _ => rfl⟩
theorem Fld.set {F : Nat → Prop} {k : Nat} {x : Int32} (hk : F k) (h : Fld F M M') : Fld F M (uI M' 1 k x) :=
  ⟨Wf_uI h.1, h.2.1.tr (Mo_uI rfl), fun j hj => by rw [rI_k (show j ≠ k from fun z => hj (z ▸ hk))]; exact h.2.2 j hj⟩
theorem Fld.tr {F : Nat → Prop} {M'' : Mem} (h : Fld F M M') (h' : Fld F M' M'') : Fld F M M'' := ⟨h'.1, h.2.1.tr h'.2.1, fun j hj => (h'.2.2 j hj).trans (h.2.2 j hj)⟩
theorem Fld.mono {F F' : Nat → Prop} (h : Fld F M M') (hs : ∀ j, F j → F' j) : Fld F' M M' := ⟨h.1, h.2.1, fun j hj => h.2.2 j (fun z => hj (hs j z))⟩
theorem RdT.fd {F : Nat → Prop} (h : Fld F M M') (h3 : ¬ F 3) (hT : RdT M t n) : RdT M' t n := hT.mo (fun j => h.2.1.I (by decide)) (h.2.2 3 h3)
theorem noLf_i {b : Nat} : noLf b = true ↔ ¬ b = 10 := by unfold noLf; simp
theorem isBl_i {b : Nat} : isBl b = true ↔ b = 32 := by unfold isBl; simp
theorem c_skipLine {s : Nat} (hW : Wf M) (hT : RdT M t n) (hs : s ≤ n) (h4 : gI M 1 4 = nI s)
    (h : ∀ M', Fld (fun j => j = 4 ∨ j = 7) M M' → (scF t n noLf s < n → gI M' 1 4 = nI (scF t n noLf s + 1) ∧ gI M' 1 7 = gI M 1 7) → (¬ scF t n noLf s < n → gI M' 1 4 = nI (scF t n noLf s) ∧ gI M' 1 7 = 1) → K none M') : sp_X7_skipLine [.ref 1] M K := by
  refine ⟨Nat.le_of_ble_eq_true rfl, fun G hc => ?_⟩
  rw [hW.1] at hc
  have loop : ∀ k p : Nat, n - p = k → p ≤ n → scF t n noLf p = scF t n noLf s → ∀ M1, Fld (fun j => j = 4) M M1 → gI M1 1 4 = nI p → G 0 [some (.ref 1)] [] M1 := by
    have hn := hT.1
    intro k
    have fin : ∀ p, p ≤ n → scF t n noLf p = scF t n noLf s → scF t n noLf p = p → ∀ M1, Fld (fun j => j = 4) M M1 → gI M1 1 4 = nI p → G 38 [some (.ref 1)] [] M1 := by
      intro p hp e1 e2 M1 hf g4
      refine eX7_skipLine_38 hc hf.1 ?_
      have g3 : gI M1 1 3 = nI n := (hT.fd hf (by decide)).2.1
      have es : scF t n noLf s = p := by rw [← e1, e2]
      rw [es] at h
      rw [g3, g4]
      refine ⟨fun z => ?_, fun z => ?_⟩
      · have z := (nI_leI (by omega) (by omega)).mp z
        exact h _ ((hf.mono (fun j hj => Or.inl hj)).set (Or.inr rfl)) (fun y => absurd y (by omega)) (fun _ => ⟨by rw [rI_k (by decide)]; exact g4, rI_eq⟩)
      · have z : p < n := by
          rcases Nat.lt_or_ge p n with y | y
          · exact y
          · exact absurd (nI_le y (by omega)) z
        rw [nI_1]
        exact h _ ((hf.mono (fun j hj => Or.inl hj)).set (Or.inl rfl)) (fun _ => ⟨rI_eq, by rw [rI_k (by decide)]; exact hf.2.2 7 (by decide)⟩) (fun y => absurd z y)
    induction k with
    | zero =>
      intro p hk hp e M1 hf g4
      have e2 : scF t n noLf p = p := scF_n t n _ (fun z => by omega)
      have hT1 := hT.fd hf (by decide)
      refine eX7_skipLine_0 hc hf.1 ?_
      rw [hT1.2.1, g4]
      exact ⟨fun _ => fin p hp e e2 M1 hf g4, fun z => absurd (nI_le (by omega) (by omega)) z⟩
    | succ k ih =>
      intro p hk hp e M1 hf g4
      have hT1 := hT.fd hf (by decide)
      obtain ⟨b1, b2⟩ := hT1.2.2 p (by omega)
      refine eX7_skipLine_0 hc hf.1 ?_
      rw [hT1.2.1, g4, nI_clamp (by omega), b1]
      refine ⟨fun z => absurd ((nI_leI (by omega) (by omega)).mp z) (by omega), fun _ => ⟨vpN (by omega) (by decide), fun z => ?_, fun z => ?_⟩⟩
      · have z : t p = 10 := (nI_eq (b := 10) (by omega) (by decide)).mp z
        exact fin p hp e (scF_n t n _ (fun y => noLf_i.mp y.2 z)) M1 hf g4
      · have z : ¬ t p = 10 := fun y => z (by rw [y]; rfl)
        rw [nI_1]
        refine ih (p + 1) (by omega) (by omega) ?_ _ (hf.set rfl) rI_eq
        rw [← scF_t t n _ (by omega) (noLf_i.mpr z)]
        exact e
  exact loop _ s rfl hs rfl M (Fld.rf hW) h4
/-- behind a token -/
def TkR (x : TK) (M : Mem) : Prop := gI M 1 4 = nI (eT x) ∧ gI M 1 5 = nI (kT x) ∧ gI M 1 6 = nI (sT x) ∧ gI M 1 7 = blI (oT x)
def adF (j : Nat) : Prop := j = 4 ∨ j = 5 ∨ j = 6 ∨ j = 7
theorem nI_char {b : Nat} (h : b < 256) : ((nI b).toUInt32 % 65536).toInt32 = nI b := by
  have : ∀ b ∈ List.range 256, ((nI b).toUInt32 % 65536).toInt32 = nI b := by decide +kernel
  exact this b (List.mem_range.mpr h)
theorem c_advance {p : Nat} (hW : Wf M) (hT : RdT M t n) (hp : p ≤ n) (h4 : gI M 1 4 = nI p) (h7 : gI M 1 7 = 0) (h : ∀ M', Fld adF M M' → TkR (tok t n p) M' → K none M') : sp_X7_advance [.ref 1] M K := by
  have hn := hT.1
  unfold tok at h
  generalize hs : scF t n isBl p = s at h
  have hsn : s ≤ n := by rw [← hs]; exact scF_le t n _ hp
  refine ⟨Nat.le_of_ble_eq_true rfl, fun G hc => ?_⟩
  rw [hW.1] at hc
  -- the token at s
  have part : ∀ M1, Fld adF M M1 → gI M1 1 4 = nI s → gI M1 1 7 = 0 → G 38 [some (.ref 1), none] [] M1 := by
    intro M1 hf g4 g7
    have hT1 := hT.fd hf (by unfold adF; decide)
    have hf2 : Fld adF M (uI M1 1 6 (nI s)) := hf.set (Or.inr (Or.inr (Or.inl rfl)))
    have hT2 := hT.fd hf2 (by unfold adF; decide)
    obtain ⟨q1, q2⟩ := byte_f (i := s) hT2 (by omega)
    obtain ⟨q3, q4⟩ := byte_f (i := s + 1) hT2 (by omega)
    have s4 : gI (uI M1 1 6 (nI s)) 1 4 = nI s := by rw [rI_k (by decide)]; exact g4
    have s6 : gI (uI M1 1 6 (nI s)) 1 6 = nI s := rI_eq
    have s7 : gI (uI M1 1 6 (nI s)) 1 7 = 0 := by rw [rI_k (by decide)]; exact g7
    refine eX7_advance_38 hc hf.1 ?_
    rw [g4]
    refine ⟨q1, fun y1 hy1 => ?_⟩
    rw [q2] at hy1
    generalize uI M1 1 6 (nI s) = M2 at *
    -- the end of a line
    have line : (n ≤ s ∨ (s < n ∧ ¬ isLet (t s) = true ∧ ¬ (isDig (t s) = true ∨ (t s = 45 ∧ isDig (bN t n (s + 1)) = true)) ∧ ¬ (t s = 44 ∨ t s = 58 ∨ t s = 63) ∧ (t s = 10 ∨ t s = 59))) → ∀ o, sp_X7_skipLine [.ref 1] (uI M2 1 5 (101 : Int32)) (fun v M' => RX7_advance_245_4 G K [some (.ref 1), o] (v.toList ++ []) M') := by
      intro hh o
      have hf3 : Fld adF M (uI M2 1 5 101) := hf2.set (Or.inr (Or.inl rfl))
      refine c_skipLine hf3.1 (hT.fd hf3 (by unfold adF; decide)) hsn (by rw [rI_k (by decide)]; exact s4) (fun M4 hf4 e1 e2 => rX7_advance_245_4 hc hf4.1 (h M4 (hf3.tr (hf4.mono (fun j hj => by unfold adF; omega))) ?_))
      have g5 : gI M4 1 5 = nI 101 := by rw [hf4.2.2 5 (by decide)]; exact rI_eq
      have g6 : gI M4 1 6 = nI s := by rw [hf4.2.2 6 (by decide), rI_k (by decide)]; exact s6
      rcases hh with hh | ⟨h1, h2, h3, h5, h6⟩
      · have es : scF t n noLf s = s := scF_n t n _ (fun z => by omega)
        obtain ⟨z1, z2⟩ := e2 (by rw [es]; omega)
        rw [es] at z1
        unfold tokA
        rw [if_pos hh]
        exact ⟨z1, g5, g6, z2⟩
      · unfold tokA
        rw [if_neg (by omega), if_neg h2, if_neg h3, if_neg h5, if_pos h6]
        by_cases z : scF t n noLf s < n
        · rw [if_pos z]
          obtain ⟨z1, z2⟩ := e1 z
          refine ⟨z1, g5, g6, ?_⟩
          rw [z2, rI_k (by decide)]
          exact s7
        · rw [if_neg z]
          obtain ⟨z1, z2⟩ := e2 z
          exact ⟨z1, g5, g6, z2⟩
    by_cases hsl : s < n
    · rw [if_pos hsl] at hy1
      have hb : t s < 256 := (hT2.2.2 s hsl).2
      subst hy1
      rw [isLet_P (by omega), isDig_P (by omega)]
      -- words and numbers
      have more : ∀ (P : Nat → Bool) (pc : Nat) (M3 : Mem) (c : TK) (o : Option Value), (pc = 68 ∧ P = isWd ∨ pc = 152 ∧ P = isDig) → ∀ k q : Nat, n - q = k → q ≤ n → kT c < 256 → sT c = s → eT c = scF t n P q → oT c = false → tokA t n s = c → Fld adF M M3 → gI M3 1 4 = nI q → gI M3 1 5 = nI (kT c) → gI M3 1 6 = nI s → gI M3 1 7 = 0 → G pc [some (.ref 1), o] [] M3 := by
        intro P pc M3 c o hP k
        induction k generalizing M3 with
        | zero =>
          intro q hk hq hkc hsc hec hoc etk hf3 g4 g5 g6 g7
          have hT3 := hT.fd hf3 (by unfold adF; decide)
          have fin : K none M3 := h M3 hf3 (by
            rw [etk]
            refine ⟨?_, g5, by rw [hsc]; exact g6, by rw [hoc]; exact g7⟩
            rw [hec, scF_n t n P (fun z => by omega)]; exact g4)
          rcases hP with ⟨e1, e2⟩ | ⟨e1, e2⟩
          · subst e1
            refine eX7_advance_68 hc hf3.1 ?_
            rw [hT3.2.1, g4]
            exact ⟨fun _ => fin, fun z => absurd (nI_le (by omega) (by omega)) z⟩
          · subst e1
            refine eX7_advance_152 hc hf3.1 ?_
            rw [hT3.2.1, g4]
            exact ⟨fun _ => fin, fun z => absurd (nI_le (by omega) (by omega)) z⟩
        | succ k ih =>
          intro q hk hq hkc hsc hec hoc etk hf3 g4 g5 g6 g7
          have hT3 := hT.fd hf3 (by unfold adF; decide)
          obtain ⟨b1, b2⟩ := hT3.2.2 q (by omega)
          have fin : ¬ P (t q) = true → K none M3 := fun y => h M3 hf3 (by
            rw [etk]
            refine ⟨?_, g5, by rw [hsc]; exact g6, by rw [hoc]; exact g7⟩
            rw [hec, scF_n t n P (fun z => y z.2)]; exact g4)
          have go : P (t q) = true → G pc [some (.ref 1), o] [] (uI M3 1 4 (nI (q + 1))) := fun y =>
            ih _ (q + 1) (by omega) (by omega) hkc hsc (by rw [hec, scF_t t n P (by omega) y]) hoc etk (hf3.set (Or.inl rfl)) rI_eq (by rw [rI_k (by decide)]; exact g5) (by rw [rI_k (by decide)]; exact g6) (by rw [rI_k (by decide)]; exact g7)
          rcases hP with ⟨e1, e2⟩ | ⟨e1, e2⟩
          · subst e1
            subst e2
            refine eX7_advance_68 hc hf3.1 ?_
            rw [hT3.2.1, g4, nI_clamp (by omega), b1, isWd_P (by omega), nI_1]
            exact ⟨fun z => absurd ((nI_leI (by omega) (by omega)).mp z) (by omega), fun _ => ⟨vpN (by omega) (by decide), fin, go⟩⟩
          · subst e1
            subst e2
            refine eX7_advance_152 hc hf3.1 ?_
            rw [hT3.2.1, g4, nI_clamp (by omega), b1, isDig_P (by omega), nI_1]
            exact ⟨fun z => absurd ((nI_leI (by omega) (by omega)).mp z) (by omega), fun _ => ⟨vpN (by omega) (by decide), fin, go⟩⟩
      have num : ¬ isLet (t s) = true → (isDig (t s) = true ∨ (t s = 45 ∧ isDig (bN t n (s + 1)) = true)) → G 152 [some (.ref 1), some (.int (nI (t s)))] [] (uI (uI M2 1 5 (110 : Int32)) 1 4 (nI s + (1 : Int32))) := fun h1 h2 => by
        rw [nI_1]
        refine more isDig 152 _ (110, s, scF t n isDig (s + 1), false) _ (Or.inr ⟨rfl, rfl⟩) _ (s + 1) rfl (by omega) (show (110 : Nat) < 256 by decide) rfl rfl rfl ?_ ((hf2.set (Or.inr (Or.inl rfl))).set (Or.inl rfl)) rI_eq (by rw [rI_k (by decide)]; exact rI_eq) (by rw [rI_k (by decide), rI_k (by decide)]; exact s6) (by rw [rI_k (by decide), rI_k (by decide)]; exact s7)
        unfold tokA
        rw [if_neg (by omega), if_neg h1, if_pos h2]
      have rest : ¬ isLet (t s) = true → ¬ (isDig (t s) = true ∨ (t s = 45 ∧ isDig (bN t n (s + 1)) = true)) → G 191 [some (.ref 1), some (.int (nI (t s)))] [] M2 := fun h1 h2 => by
        refine eX7_advance_191 hc hf2.1 ?_
        rw [nI_char hb, s4, nI_1]
        have e44 : nI (t s) = 44 ↔ t s = 44 := nI_eq (b := 44) (by omega) (by decide)
        have e58 : nI (t s) = 58 ↔ t s = 58 := nI_eq (b := 58) (by omega) (by decide)
        have e63 : nI (t s) = 63 ↔ t s = 63 := nI_eq (b := 63) (by omega) (by decide)
        have e10 : nI (t s) = 10 ↔ t s = 10 := nI_eq (b := 10) (by omega) (by decide)
        have e59 : nI (t s) = 59 ↔ t s = 59 := nI_eq (b := 59) (by omega) (by decide)
        have em : ¬ nI (t s) = -1 := fun z => by
          have : (-1 : Int32) < 0 := by decide
          rw [← z] at this
          exact absurd this (nI_pos (by omega))
        have sg : (t s = 44 ∨ t s = 58 ∨ t s = 63) → K none (uI (uI M2 1 5 (nI (t s))) 1 4 (nI (s + 1))) := fun h3 => h _ ((hf2.set (Or.inr (Or.inl rfl))).set (Or.inl rfl)) (by
          unfold tokA
          rw [if_neg (by omega), if_neg h1, if_neg h2, if_pos h3]
          exact ⟨rI_eq, by rw [rI_k (by decide)]; exact rI_eq, by rw [rI_k (by decide), rI_k (by decide)]; exact s6, by rw [rI_k (by decide), rI_k (by decide)]; exact s7⟩)
        have ch : 0 ≤ nI (t s) ∧ nI (t s) < 65536 := ⟨nI_pos' (by omega), nI_lt (b := 65536) (by omega) (by decide)⟩
        rw [e44, e58, e63, e10, e59]
        refine ⟨fun z => ⟨ch, sg (Or.inl z)⟩, fun n1 => ⟨fun z => ⟨ch, sg (Or.inr (Or.inl z))⟩, fun n2 => ⟨fun n3 => ⟨fun z => absurd z em, fun _ => ⟨fun z => line (Or.inr ⟨hsl, h1, h2, by omega, Or.inl z⟩) _, fun n4 => ⟨fun n5 => ?_, fun z => line (Or.inr ⟨hsl, h1, h2, by omega, Or.inr z⟩) _⟩⟩⟩, fun z => ⟨ch, sg (Or.inr (Or.inr z))⟩⟩⟩⟩
        refine h _ (hf2.set (Or.inr (Or.inl rfl))) ?_
        unfold tokA
        rw [if_neg (by omega), if_neg h1, if_neg h2, if_neg (by omega), if_neg (by omega)]
        exact ⟨by rw [rI_k (by decide)]; exact s4, rI_eq, by rw [rI_k (by decide)]; exact s6, by rw [rI_k (by decide)]; exact s7⟩
      refine ⟨fun h1 => ⟨fun h2 => num h1 (Or.inl h2), fun h2 => ⟨fun h3 => rest h1 (fun z => z.elim h2 (fun w => h3 (by rw [w.1]; rfl))), fun h3 => ?_⟩⟩, fun h1 => ?_⟩
      · have h3 : t s = 45 := (nI_eq (b := 45) (by omega) (by decide)).mp h3
        rw [nI_1]
        refine ⟨q3, ?_⟩
        rw [q4]
        have eb : (P_X7_isDigit (if s + 1 < n then nI (t (s + 1)) else -1)) ↔ isDig (bN t n (s + 1)) = true := by
          unfold bN
          by_cases z : s + 1 < n
          · rw [if_pos z, if_pos z]
            exact isDig_P (by have := (hT2.2.2 (s + 1) z).2; omega)
          · rw [if_neg z, if_neg z]
            exact ⟨fun y => absurd y no_let.2, fun y => absurd y (by decide)⟩
        rw [eb]
        refine ⟨fun z => rest h1 (fun y => y.elim h2 (fun w => z w.2)), fun z => ?_⟩
        rw [← nI_1]
        exact num h1 (Or.inr ⟨h3, z⟩)
      · refine more isWd 68 _ (119, s, scF t n isWd s, false) _ (Or.inl ⟨rfl, rfl⟩) _ s rfl (by omega) (show (119 : Nat) < 256 by decide) rfl rfl rfl ?_ (hf2.set (Or.inr (Or.inl rfl))) (by rw [rI_k (by decide)]; exact s4) rI_eq (by rw [rI_k (by decide)]; exact s6) (by rw [rI_k (by decide)]; exact s7)
        unfold tokA
        rw [if_neg (by omega), if_pos h1]
    · rw [if_neg hsl] at hy1
      subst hy1
      refine ⟨fun _ => ⟨fun z => absurd z no_let.2, fun _ => ⟨fun _ => ?_, fun z => absurd z (by decide)⟩⟩, fun z => absurd z no_let.1⟩
      refine eX7_advance_191 hc hf2.1 ⟨fun z => absurd z (by decide), fun _ => ⟨fun z => absurd z (by decide), fun _ => ⟨fun _ => ⟨fun _ => line (Or.inl (by omega)) _, fun z => absurd rfl z⟩, fun z => absurd z (by decide)⟩⟩⟩
  have loop : ∀ k q : Nat, n - q = k → q ≤ n → scF t n isBl q = s → ∀ M1, Fld adF M M1 → gI M1 1 4 = nI q → gI M1 1 7 = 0 → G 0 [some (.ref 1), none] [] M1 := by
    intro k
    induction k with
    | zero =>
      intro q hk hq e M1 hf g4 g7
      have hT1 := hT.fd hf (by unfold adF; decide)
      have : scF t n isBl q = q := scF_n t n _ (fun z => by omega)
      refine eX7_advance_0 hc hf.1 ?_
      rw [hT1.2.1, g4]
      exact ⟨fun _ => part M1 hf (by rw [g4, ← e, this]) g7, fun z => absurd (nI_le (by omega) (by omega)) z⟩
    | succ k ih =>
      intro q hk hq e M1 hf g4 g7
      have hT1 := hT.fd hf (by unfold adF; decide)
      obtain ⟨b1, b2⟩ := hT1.2.2 q (by omega)
      refine eX7_advance_0 hc hf.1 ?_
      rw [hT1.2.1, g4, nI_clamp (by omega), b1]
      refine ⟨fun z => absurd ((nI_leI (by omega) (by omega)).mp z) (by omega), fun _ => ⟨vpN (by omega) (by decide), fun z => ?_, fun z => ?_⟩⟩
      · have z : ¬ t q = 32 := fun y => z (by rw [y]; rfl)
        have : scF t n isBl q = q := scF_n t n _ (fun y => z (isBl_i.mp y.2))
        exact part M1 hf (by rw [g4, ← e, this]) g7
      · have z : t q = 32 := (nI_eq (b := 32) (by omega) (by decide)).mp z
        rw [nI_1]
        exact ih (q + 1) (by omega) (by omega) (by rw [← e, scF_t t n _ (by omega) (isBl_i.mpr z)]) _ (hf.set (Or.inl rfl)) rI_eq (by rw [rI_k (by decide)]; exact g7)
  exact loop _ p rfl hp hs M (Fld.rf hW) h4 h7
end
end ADV
