section FLOW2
section
variable {M M' : Mem} {K : RT} {n : Nat} {c : Nat → Nat → Int64} {i : Nat}
theorem pas_self {g f : Nat} (hs : sucS n c i i) (hg : FM M i g) (hp : pasS c i g f) : FM M i f := by
  have h0 : cn (c i) 0 ≠ 0 := by
    intro z
    obtain ⟨-, -, h⟩ := hs
    rcases h with ⟨h, -⟩ | ⟨-, -, -, -, h⟩ | ⟨h, -⟩
    · rw [z] at h; exact absurd h (by decide)
    · omega
    · omega
  rcases hp with ⟨a, b⟩ | ⟨-, a, -⟩ | ⟨-, b, -⟩
  · rw [b, ← a]; exact hg
  · exact absurd a h0
  · rw [b]; exact hg
/-- what i has flowed on to the instructions of J -/
def FTo (n : Nat) (c : Nat → Nat → Int64) (i : Nat) (M M' : Mem) (J : Nat → Prop) : Prop := Wf M' ∧ Mo flS M M' ∧ Bo M' ∧ (∀ k f, FM M' k f ↔ FM M k f ∨ (J k ∧ ∃ g, FM M i g ∧ pasS c i g f)) ∧ (∀ k, k < 100 → (gI M' 452 k = 1 ↔ gI M 452 k = 1 ∨ ∃ f, FM M' k f ∧ ¬ FM M k f))
theorem FTo.rf (hW : Wf M) (hB : Bo M) : FTo n c i M M (fun _ => False) := ⟨hW, Mo.rf, hB, fun k f => ⟨Or.inl, fun h => h.elim id (fun z => z.1.elim)⟩, fun k hk => ⟨Or.inl, fun h => h.elim id (fun ⟨f, a, b⟩ => absurd a b)⟩⟩
theorem FTo.cg {J J' : Nat → Prop} (h : FTo n c i M M' J) (e : ∀ k, J k ↔ J' k) : FTo n c i M M' J' := ⟨h.1, h.2.1, h.2.2.1, fun k f => by rw [← e]; exact h.2.2.2.1 k f, h.2.2.2.2⟩
theorem FTo.own {J : Nat → Prop} (h : FTo n c i M M' J) (hJ : ∀ k, J k → sucS n c i k) (f : Nat) : FM M' i f ↔ FM M i f := by
  rw [h.2.2.2.1]
  exact ⟨fun z => z.elim id (fun ⟨a, g, b, d⟩ => pas_self (hJ i a) b d), Or.inl⟩
theorem FTo.tr {J J' : Nat → Prop} {M'' : Mem} (h : FTo n c i M M' J) (hJ : ∀ k, J k → sucS n c i k) (h' : FTo n c i M' M'' J') : FTo n c i M M'' (fun k => J k ∨ J' k) := by
  have ho := h.own hJ
  refine ⟨h'.1, h.2.1.tr h'.2.1, h'.2.2.1, fun k f => ?_, fun k hk => ?_⟩
  · rw [h'.2.2.2.1, h.2.2.2.1]
    constructor
    · rintro ((z | ⟨a, b⟩) | ⟨a, g, b, d⟩)
      · exact Or.inl z
      · exact Or.inr ⟨Or.inl a, b⟩
      · exact Or.inr ⟨Or.inr a, g, (ho g).mp b, d⟩
    · rintro (z | ⟨a | a, g, b, d⟩)
      · exact Or.inl (Or.inl z)
      · exact Or.inl (Or.inr ⟨a, g, b, d⟩)
      · exact Or.inr ⟨a, g, (ho g).mpr b, d⟩
  · rw [h'.2.2.2.2 k hk, h.2.2.2.2 k hk]
    constructor
    · rintro ((z | ⟨f, a, b⟩) | ⟨f, a, b⟩)
      · exact Or.inl z
      · exact Or.inr ⟨f, (h'.2.2.2.1 k f).mpr (Or.inl a), b⟩
      · exact Or.inr ⟨f, a, fun y => b ((h.2.2.2.1 k f).mpr (Or.inl y))⟩
    · rintro (z | ⟨f, a, b⟩)
      · exact Or.inl (Or.inl z)
      · by_cases y : FM M' k f
        · exact Or.inl (Or.inr ⟨f, y, b⟩)
        · exact Or.inr ⟨f, a, y⟩
theorem c_flowTo2 {j : Nat} (hW : Wf M) (hP : PRG M 8 n c) (hV : ∀ k, k < n → VI n (c k)) (hB : Bo M) (hi : i < n) (hr : gI M 451 i = 1) (hj : j < 2 ^ 31) (h : ∀ M', FTo n c i M M' (fun k => k = j ∧ j < n) → K none M') : sp_X1_flowTo [.ref 449, .ref 8, .int (nI i), .int (nI j)] M K := by
  refine c_flowTo hW hP hV hB hi hr hj (fun M' a b d e f => h M' ⟨a, b, d, fun k q => ?_, fun k hk => ?_⟩)
  · rw [e]
    exact ⟨fun z => z.imp id (fun y => ⟨⟨y.1, y.2.1⟩, y.2.2⟩), fun z => z.imp id (fun y => ⟨y.1.1, y.1.2, y.2⟩)⟩
  · rw [f k hk]
    constructor
    · rintro (z | ⟨a, b, d⟩)
      · exact Or.inl z
      · subst a; exact Or.inr d
    · rintro (z | ⟨q, a, b⟩)
      · exact Or.inl z
      · rcases (e k q).mp a with y | ⟨y1, y2, y3⟩
        · exact absurd y b
        · subst y1; exact Or.inr ⟨rfl, y2, q, a, b⟩
theorem sw_flow : ∀ o ∈ List.range 68, (Int32.ofNat (swT.getD o 0) = 5 ↔ o = 59) ∧ (Int32.ofNat (swT.getD o 0) = 6 ↔ o = 65) ∧ (Int32.ofNat (swT.getD o 0) = 7 ↔ o = 60) ∧ (Int32.ofNat (swT.getD o 0) = 8 ↔ o = 61) ∧ (Int32.ofNat (swT.getD o 0) = 9 ↔ o = 62) ∧ (Int32.ofNat (swT.getD o 0) = 10 ↔ o = 63) ∧ (Int32.ofNat (swT.getD o 0) = 11 ↔ o = 64) ∧ (Int32.ofNat (swT.getD o 0) = 12 ↔ o = 66) ∧ (Int32.ofNat (swT.getD o 0) = 13 ↔ o = 67) := by decide +kernel
theorem lead_0 : ∀ o ∈ List.range 68, 0 < leadN o ↔ o = 59 ∨ o = 65 ∨ (60 ≤ o ∧ o ≤ 64) := by decide +kernel
theorem FTo.pr {J : Nat → Prop} (h : FTo n c i M M' J) (hP : PRG M 8 n c) : PRG M' 8 n c := hP.mo h.2.1 (by unfold flS; decide) (by unfold flS; decide)
theorem FTo.re {J : Nat → Prop} (h : FTo n c i M M' J) (hr : gI M 451 i = 1) : gI M' 451 i = 1 := FM.r.mp ((h.2.2.2.1 i 2048).mpr (Or.inl (FM.r.mpr hr)))
theorem c_flowOn (hW : Wf M) (hP : PRG M 8 n c) (hV : ∀ k, k < n → VI n (c k)) (hB : Bo M) (hi : i < n) (hr : gI M 451 i = 1) (h : ∀ M', FTo n c i M M' (sucS n c i) → K none M') : sp_X1_flowOn [.ref 449, .ref 8, .int (nI i)] M K := by
  have hn := hP.1
  obtain ⟨o1, o2⟩ := (hV i hi).o
  have sw := sw_flow _ (List.mem_range.mpr o1)
  have ld := lead_0 _ (List.mem_range.mpr o1)
  have hld := fun z => (hV i hi).ld z (show n < 2 ^ 31 by omega)
  refine wX1_flowOn hW (fun {G} hc => c_opP2 hW (by decide) hP hV hi (rX1_flowOn_0_3 hc hW (isOp_n o1) ?_))
  rw [op_c]
  rw [sw.1, sw.2.1, sw.2.2.1, sw.2.2.2.1, sw.2.2.2.2.1, sw.2.2.2.2.2.1, sw.2.2.2.2.2.2.1, sw.2.2.2.2.2.2.2.1, sw.2.2.2.2.2.2.2.2]
  -- only the lead
  have one : (cn (c i) 0 = 59 ∨ cn (c i) 0 = 65) → sp_X6_lead [.ref 8, .int (nI i)] M (fun v M' => RX1_flowOn_64_5 G K [some (.ref 449), some (.ref 8), some (.int (nI i)), none] (v.toList ++ [.int (nI i), .ref 8, .ref 449]) M') := fun z => by
    have z1 : 0 < leadN (cn (c i) 0) := ld.mpr (by omega)
    refine c_lead hW (by decide) hP hV hi ?_
    rw [if_pos z1]
    refine rX1_flowOn_64_5 hc hW (c_flowTo2 hW hP hV hB hi hr (by have := (hld z1).1; omega) (fun M' hf => rX1_flowOn_64_6 hc hf.1 (h M' (hf.cg (fun k => ?_)))))
    unfold sucS
    constructor
    · rintro ⟨a, b⟩
      exact ⟨hi, by omega, Or.inl ⟨z1, a⟩⟩
    · rintro ⟨-, b, ⟨-, d⟩ | ⟨d1, d2, -⟩ | ⟨d, -⟩⟩
      · exact ⟨d, by omega⟩
      · omega
      · omega
  -- the lead and what follows
  have two : (60 ≤ cn (c i) 0 ∧ cn (c i) 0 ≤ 64) → G 78 [some (.ref 449), some (.ref 8), some (.int (nI i)), none] [] M := fun z => by
    have z1 : 0 < leadN (cn (c i) 0) := ld.mpr (by omega)
    refine eX1_flowOn_78 hc hW (c_lead hW (by decide) hP hV hi ?_)
    rw [if_pos z1]
    refine rX1_flowOn_78_5 hc hW (c_flowTo2 hW hP hV hB hi hr (by have := (hld z1).1; omega) (fun M1 hf1 => rX1_flowOn_78_6 hc hf1.1 ?_))
    rw [nI_1]
    refine c_flowTo2 hf1.1 (hf1.pr hP) hV hf1.2.2.1 hi (hf1.re hr) (by omega) (fun M2 hf2 => rX1_flowOn_78_13 hc hf2.1 (h M2 ((hf1.tr (fun k hk => ?_) hf2).cg (fun k => ?_))))
    · exact ⟨hi, by omega, Or.inl ⟨z1, hk.1⟩⟩
    · unfold sucS
      constructor
      · rintro (⟨a, b⟩ | ⟨a, b⟩)
        · exact ⟨hi, by omega, Or.inl ⟨z1, a⟩⟩
        · exact ⟨hi, by omega, Or.inr (Or.inl ⟨by omega, by omega, by omega, by omega, a⟩)⟩
      · rintro ⟨-, b, ⟨-, d⟩ | ⟨-, -, -, -, d⟩ | ⟨d, -⟩⟩
        · exact Or.inl ⟨d, by omega⟩
        · exact Or.inr ⟨d, by omega⟩
        · omega
  refine ⟨fun z => one (Or.inl z), fun n1 => ⟨fun z => one (Or.inr z), fun n2 => ⟨fun z => two (by omega), fun n3 => ⟨fun z => two (by omega), fun n4 => ⟨fun z => two (by omega), fun n5 => ⟨fun z => two (by omega), fun n6 => ⟨fun z => two (by omega), fun n7 => ⟨fun z => ?_, fun n8 => ⟨fun z => ?_, fun n9 => ?_⟩⟩⟩⟩⟩⟩⟩⟩⟩
  · -- RET
    have loop : ∀ q k : Nat, k + q = n → ∀ M1, FTo n c i M M1 (fun j => j < n ∧ ∃ p, p < k ∧ cn (c p) 0 = 65 ∧ j = p + 1) → G 103 [some (.ref 449), some (.ref 8), some (.int (nI i)), some (.int (nI k))] [] M1 := by
      intro q
      induction q with
      | zero =>
        intro k hk M1 hf
        refine eX1_flowOn_103 hc hf.1 ?_
        rw [(hf.pr hP).2.1]
        refine ⟨fun _ => h M1 (hf.cg (fun j => ?_)), fun y => absurd (nI_le (by omega) (by omega)) y⟩
        unfold sucS
        constructor
        · rintro ⟨a, p, p1, p2, p3⟩
          exact ⟨hi, a, Or.inr (Or.inr ⟨z, p, by omega, p2, p3⟩)⟩
        · rintro ⟨-, b, ⟨d, -⟩ | ⟨-, -, d, -⟩ | ⟨-, p, p1, p2, p3⟩⟩
          · have := ld.mp d; omega
          · exact absurd z d
          · exact ⟨b, p, by omega, p2, p3⟩
      | succ q ih =>
        intro k hk M1 hf
        have hP1 := hf.pr hP
        refine eX1_flowOn_103 hc hf.1 ?_
        rw [hP1.2.1]
        refine ⟨fun y => absurd ((nI_leI (by omega) (by omega)).mp y) (by omega), fun _ => c_opP2 hf.1 (by decide) hP1 hV (by omega) (rX1_flowOn_111_2 hc hf.1 (isOp_n (hV k (by omega)).o.1) ⟨fun y => ?_, fun y => ?_⟩)⟩
        · have y : ¬ cn (c k) 0 = 65 := by omega
          rw [nI_1]
          refine ih (k + 1) (by omega) M1 (hf.cg (fun j => ?_))
          constructor
          · rintro ⟨a, p, p1, p2, p3⟩; exact ⟨a, p, by omega, p2, p3⟩
          · rintro ⟨a, p, p1, p2, p3⟩
            refine ⟨a, p, ?_, p2, p3⟩
            rcases Nat.lt_or_ge p k with w | w
            · exact w
            · exact absurd (by rw [show k = p by omega]; exact p2) y
        · have y : cn (c k) 0 = 65 := by omega
          rw [nI_1]
          refine c_flowTo2 hf.1 hP1 hV hf.2.2.1 hi (hf.re hr) (by omega) (fun M2 hf2 => rX1_flowOn_122_6 hc hf2.1 ?_)
          rw [nI_1]
          refine ih (k + 1) (by omega) M2 ((hf.tr (fun j hj => ?_) hf2).cg (fun j => ?_))
          · obtain ⟨a, p, p1, p2, p3⟩ := hj
            exact ⟨hi, a, Or.inr (Or.inr ⟨z, p, by omega, p2, p3⟩)⟩
          · constructor
            · rintro (⟨a, p, p1, p2, p3⟩ | ⟨a, b⟩)
              · exact ⟨a, p, by omega, p2, p3⟩
              · exact ⟨by omega, k, by omega, y, a⟩
            · rintro ⟨a, p, p1, p2, p3⟩
              by_cases w : p = k
              · subst w; exact Or.inr ⟨p3, by omega⟩
              · exact Or.inl ⟨a, p, by omega, p2, p3⟩
    refine loop n 0 (Nat.zero_add _) M ((FTo.rf hW hB).cg (fun k => ⟨fun y => y.elim, fun ⟨_, p, p1, _⟩ => absurd p1 (Nat.not_lt_zero p)⟩))
  · -- END
    refine h M ((FTo.rf hW hB).cg (fun k => ⟨fun y => y.elim, ?_⟩))
    rintro ⟨-, b, ⟨d, -⟩ | ⟨-, -, -, d, -⟩ | ⟨d, -⟩⟩
    · have := ld.mp d; omega
    · exact d z
    · omega
  · -- what follows
    rw [nI_1]
    refine c_flowTo2 hW hP hV hB hi hr (by omega) (fun M' hf => rX1_flowOn_143_6 hc hf.1 (h M' (hf.cg (fun k => ?_))))
    unfold sucS
    constructor
    · rintro ⟨a, b⟩
      exact ⟨hi, by omega, Or.inr (Or.inl ⟨n1, n2, n8, n9, a⟩)⟩
    · rintro ⟨-, b, ⟨d, -⟩ | ⟨-, -, -, -, d⟩ | ⟨d, -⟩⟩
      · have := ld.mp d; omega
      · exact ⟨d, by omega⟩
      · exact absurd d n8
end
end FLOW2
