section FLOW1
section
variable {M M' : Mem} {K : RT} {n : Nat} {c : Nat → Nat → Int64}
theorem bt_and (a b : Int32) (i : Nat) : bt (a &&& b) i = (bt a i && bt b i) := by unfold bt; rw [Int32.toBitVec_and, BitVec.getLsbD_and]
theorem bt_or (a b : Int32) (i : Nat) : bt (a ||| b) i = (bt a i || bt b i) := by unfold bt; rw [Int32.toBitVec_or, BitVec.getLsbD_or]
theorem bt_not (a : Int32) {i : Nat} (hi : i < 32) : bt (a ^^^ (-1 : Int32)) i = !bt a i := by
  unfold bt
  rw [Int32.toBitVec_xor, BitVec.getLsbD_xor]
  have : (-1 : Int32).toBitVec.getLsbD i = true := by
    have : ∀ i ∈ List.range 32, (-1 : Int32).toBitVec.getLsbD i = true := by decide +kernel
    exact this i (List.mem_range.mpr hi)
  rw [this]; simp
theorem bt_0 (i : Nat) : bt 0 i = false := by unfold bt; exact BitVec.getLsbD_zero
theorem bt_z {w : Int32} : w = 0 ↔ ∀ i, i < 32 → bt w i = false := by
  constructor
  · intro h i _; rw [h]; exact bt_0 i
  · intro h
    apply Int32.toBitVec_inj.mp
    apply BitVec.eq_of_getLsbD_eq
    intro i hi
    rw [show w.toBitVec.getLsbD i = false from h i hi]
    exact (BitVec.getLsbD_zero).symm
theorem bt_new {a b : Int32} : a &&& (b ^^^ (-1 : Int32)) = 0 ↔ ∀ i, i < 32 → bt a i = true → bt b i = true := by
  rw [bt_z]
  constructor
  · intro h i hi ha
    have := h i hi
    rw [bt_and, bt_not _ hi, ha] at this
    simpa using this
  · intro h i hi
    rw [bt_and, bt_not _ hi]
    cases ha : bt a i with
    | false => rfl
    | true => rw [h i hi ha]; rfl
/-- a fact that the cells tell -/
def FM (M : Mem) (i f : Nat) : Prop := (f = 2048 ∧ gI M 451 i = 1) ∨ (f < 2048 ∧ bt (gI M 450 (i * 64 + f / 32)) (f % 32) = true)
def Bo (M : Mem) : Prop := ∀ i, i < 100 → (gI M 451 i = 0 ∨ gI M 451 i = 1) ∧ (gI M 452 i = 0 ∨ gI M 452 i = 1)
/-- FLOW's cells -/
def FlM (M : Mem) (n : Nat) (c : Nat → Nat → Int64) : Prop := Bo M ∧ ∀ i, i < 100 → ∀ f, f ≤ 2048 → (FM M i f ↔ Fa n c i f)
def flS (b : Nat) : Prop := b = 450 ∨ b = 451 ∨ b = 452
theorem FM.cl {i q b : Nat} (hb : b < 32) (hq : q < 64) : FM M i (q * 32 + b) ↔ bt (gI M 450 (i * 64 + q)) b = true := by
  unfold FM
  rw [show (q * 32 + b) / 32 = q by omega, show (q * 32 + b) % 32 = b by omega]
  constructor
  · rintro (⟨h, -⟩ | ⟨-, h⟩)
    · omega
    · exact h
  · intro h; exact Or.inr ⟨by omega, h⟩
theorem FM.r {i : Nat} : FM M i 2048 ↔ gI M 451 i = 1 := ⟨fun h => h.elim (fun z => z.2) (fun z => absurd z.1 (by omega)), fun h => Or.inl ⟨rfl, h⟩⟩
theorem VI.set {r : Nat → Int64} (h : VI n r) (ho : cn r 0 = 0) : (cn r 1 < 8 ∧ r 1 = lN (cn r 1)) ∧ (cn r 2 < 7 ∧ r 2 = lN (cn r 2)) ∧ (1 ≤ cn r 3 ∧ cn r 3 ≤ 32 ∧ r 3 = lN (cn r 3)) := by
  obtain ⟨-, b, -⟩ := h.at ho
  have hl : (opL 0).length = 3 ∧ letN 0 0 = 118 ∧ letN 0 1 = 75 ∧ letN 0 2 = 84 := by decide +kernel
  obtain ⟨l0, l1, l2, l3⟩ := hl
  obtain ⟨v, v1, v2⟩ := (b 0 (by omega)).1 (Or.inl (by rw [l1]; decide))
  obtain ⟨w, w1, w2⟩ := (b 1 (by omega)).2.2.1 l2
  obtain ⟨u, u1, u2, u3⟩ := (b 2 (by omega)).2.2.2.1 l3
  have e1 : cn r 1 = v := cn_lN v2 (by omega)
  have e2 : cn r 2 = w := cn_lN w2 (by omega)
  have e3 : cn r 3 = u := cn_lN u3 (by omega)
  rw [e1, e2, e3]
  exact ⟨⟨v1, v2⟩, ⟨w1, w2⟩, u1, u2, u3⟩
theorem setF_lt {i : Nat} (h : VI n (c i)) (ho : cn (c i) 0 = 0) : setF c i < 2048 := by
  obtain ⟨⟨a, -⟩, ⟨b, -⟩, d, e, -⟩ := h.set ho
  unfold setF; omega
/-- what flows from i into cell q, bit b -/
def inC (M : Mem) (c : Nat → Nat → Int64) (i q b : Nat) : Prop := ∃ g, FM M i g ∧ pasS c i g (q * 32 + b)
theorem c_flowTo {i j : Nat} (hW : Wf M) (hP : PRG M 8 n c) (hV : ∀ k, k < n → VI n (c k)) (hB : Bo M) (hi : i < n) (hr : gI M 451 i = 1) (hj : j < 2 ^ 31)
    (h : ∀ M', Wf M' → Mo flS M M' → Bo M' → (∀ k f, FM M' k f ↔ FM M k f ∨ (k = j ∧ j < n ∧ ∃ g, FM M i g ∧ pasS c i g f)) → (∀ k, k < 100 → (gI M' 452 k = 1 ↔ gI M 452 k = 1 ∨ (k = j ∧ j < n ∧ ∃ f, FM M' j f ∧ ¬ FM M j f))) → K none M') : sp_X1_flowTo [.ref 449, .ref 8, .int (nI i), .int (nI j)] M K := by
  have hn := hP.1
  refine wX1_flowTo hW (fun {G} hc => ⟨fun z => ?_, fun z => h M hW Mo.rf hB (fun k f => ⟨Or.inl, fun y => y.elim id (fun w => ?_)⟩) (fun k hk => ⟨Or.inl, fun y => y.elim id (fun w => ?_)⟩)⟩)
  · have hjn : j < n := by
      unfold P_X6_has at z
      rw [hP.2.1] at z
      rcases Nat.lt_or_ge j n with y | y
      · exact y
      · exact absurd (nI_le y (by omega)) z.2
    rw [nI_clamp (by omega)]
    have vj : vp_in (nI j) 100 := vpN (by omega) (by decide)
    -- the words, one by one
    have main : ∀ s : Bool, (s = true ↔ cn (c i) 0 = 0) → ∀ g0 : Bool, (g0 = true ↔ ¬ gI M 451 j = 1) → ∀ k q : Nat, q + k = 64 → ∀ M1 g, Wf M1 → Mo (fun b => b = 450) M M1 → (∀ p, ¬ (j * 64 ≤ p ∧ p < j * 64 + q) → gI M1 450 p = gI M 450 p) → (∀ p b, p < q → b < 32 → (bt (gI M1 450 (j * 64 + p)) b = true ↔ bt (gI M 450 (j * 64 + p)) b = true ∨ inC M c i p b)) → (g = true ↔ g0 = true ∨ ∃ p b, p < q ∧ b < 32 ∧ inC M c i p b ∧ ¬ bt (gI M 450 (j * 64 + p)) b = true) → ∀ o7 o8, G 46 [some (.ref 449), some (.ref 8), some (.int (nI i)), some (.int (nI j)), some (.int (blI g)), some (.int (blI s)), some (.int (nI q)), o7, o8] [] M1 := by
      intro s hs g0 hg0 k
      induction k with
      | zero =>
        intro q hq M1 g hW1 hm1 ho hd hg o7 o8
        have : q = 64 := by omega
        subst this
        have fin : ∀ M2, Wf M2 → Mo (fun b => b = 451 ∨ b = 452) M1 M2 → (∀ k, gI M2 451 k = if k = j then 1 else gI M 451 k) → (∀ k, gI M2 452 k = if k = j ∧ g = true then 1 else gI M 452 k) → K none M2 := by
          intro M2 hW2 hm2 h1 h2
          have e450 : ∀ p, gI M2 450 p = gI M1 450 p := fun p => hm2.I (by decide)
          have hF : ∀ k f, FM M2 k f ↔ FM M k f ∨ (k = j ∧ j < n ∧ ∃ g, FM M i g ∧ pasS c i g f) := fun k f => by
            by_cases hk : k = j
            · subst hk
              unfold FM
              rw [h1, if_pos rfl, e450]
              constructor
              · rintro (⟨f1, -⟩ | ⟨f1, f2⟩)
                · exact Or.inr ⟨rfl, hjn, 2048, Or.inl ⟨rfl, hr⟩, Or.inl ⟨rfl, f1⟩⟩
                · rw [hd (f / 32) (f % 32) (by omega) (by omega)] at f2
                  rcases f2 with f2 | ⟨g', f2, f3⟩
                  · exact Or.inl (Or.inr ⟨f1, f2⟩)
                  · rw [show f / 32 * 32 + f % 32 = f by omega] at f3
                    exact Or.inr ⟨rfl, hjn, g', f2, f3⟩
              · rintro ((⟨f1, f2⟩ | ⟨f1, f2⟩) | ⟨-, -, g', f2, f3⟩)
                · exact Or.inl ⟨f1, rfl⟩
                · exact Or.inr ⟨f1, (hd (f / 32) (f % 32) (by omega) (by omega)).mpr (Or.inl f2)⟩
                · have hf : f = 2048 ∨ f < 2048 := by
                    rcases f3 with ⟨-, y⟩ | ⟨-, y1, y2⟩ | ⟨y1, y2, -⟩
                    · exact Or.inl y
                    · exact Or.inr (by rw [y2]; exact setF_lt (hV i hi) y1)
                    · exact Or.inr (by omega)
                  rcases hf with hf | hf
                  · exact Or.inl ⟨hf, rfl⟩
                  · exact Or.inr ⟨hf, (hd (f / 32) (f % 32) (by omega) (by omega)).mpr (Or.inr ⟨g', f2, by rw [show f / 32 * 32 + f % 32 = f by omega]; exact f3⟩)⟩
            · have eI : ∀ f, f < 2048 → gI M1 450 (k * 64 + f / 32) = gI M 450 (k * 64 + f / 32) := fun f hf => ho _ (by omega)
              unfold FM
              rw [h1, if_neg hk, e450]
              constructor
              · rintro (⟨f1, f2⟩ | ⟨f1, f2⟩)
                · exact Or.inl (Or.inl ⟨f1, f2⟩)
                · rw [eI f f1] at f2; exact Or.inl (Or.inr ⟨f1, f2⟩)
              · rintro ((⟨f1, f2⟩ | ⟨f1, f2⟩) | ⟨y, -⟩)
                · exact Or.inl ⟨f1, f2⟩
                · rw [← eI f f1] at f2; exact Or.inr ⟨f1, f2⟩
                · exact absurd y hk
          have hG : g = true ↔ ∃ f, FM M2 j f ∧ ¬ FM M j f := by
            rw [hg]
            constructor
            · rintro (y | ⟨p, b, p1, p2, p3, p4⟩)
              · exact ⟨2048, (hF _ _).mpr (Or.inr ⟨rfl, hjn, 2048, FM.r.mpr hr, Or.inl ⟨rfl, rfl⟩⟩), fun w => hg0.mp y (FM.r.mp w)⟩
              · exact ⟨p * 32 + b, (hF _ _).mpr (Or.inr ⟨rfl, hjn, p3⟩), fun w => p4 ((FM.cl p2 p1).mp w)⟩
            · rintro ⟨f, f1, f2⟩
              rcases (hF _ _).mp f1 with y | ⟨-, -, g', y1, y2⟩
              · exact absurd y f2
              · rcases f1 with ⟨z1, z2⟩ | ⟨z1, z2⟩
                · subst z1
                  exact Or.inl (hg0.mpr (fun w => f2 (FM.r.mpr w)))
                · refine Or.inr ⟨f / 32, f % 32, by omega, by omega, ⟨g', y1, by rw [show f / 32 * 32 + f % 32 = f by omega]; exact y2⟩, fun w => f2 (Or.inr ⟨z1, w⟩)⟩
          refine h M2 hW2 ((hm1.mono (fun b hb => Or.inl hb)).tr (hm2.mono (fun b hb => Or.inr hb))) (fun k hk => ⟨?_, ?_⟩) hF (fun k hk => ?_)
          · rw [h1]; split
            · exact Or.inr rfl
            · exact (hB k hk).1
          · rw [h2]; split
            · exact Or.inr rfl
            · exact (hB k hk).2
          · rw [h2, ← hG]
            by_cases y : k = j ∧ g = true
            · rw [if_pos y]; exact ⟨fun _ => Or.inr ⟨y.1, hjn, y.2⟩, fun _ => rfl⟩
            · rw [if_neg y]; exact ⟨Or.inl, fun w => w.elim id (fun w => absurd ⟨w.1, w.2.2⟩ y)⟩
        refine eX1_flowTo_46 hc hW1 ⟨fun _ => ?_, fun y => absurd (by decide) y⟩
        rw [nI_clamp (by omega)]
        have g1 : ∀ k, gI (uI M1 451 j 1) 451 k = if k = j then 1 else gI M 451 k := fun k => by
          by_cases y : k = j
          · rw [if_pos y, y, rI_eq]
          · rw [if_neg y, rI_k y]; exact hm1.I (by decide)
        have g2 : ∀ k, gI (uI M1 451 j 1) 452 k = gI M 452 k := fun k => by
          rw [(Mo_uI (S := fun b => b = 451) (M := M1) (a := 451) (k := j) (x := 1) rfl).I (by decide)]; exact hm1.I (by decide)
        refine ⟨vj, fun y => fin _ (Wf_uI hW1) (Mo_uI (Or.inl rfl)) g1 (fun k => ?_), fun y => ⟨vj, fin _ (Wf_uI (Wf_uI hW1)) ((Mo_uI (Or.inl rfl)).tr (Mo_uI (Or.inr rfl))) (fun k => ?_) (fun k => ?_)⟩⟩
        · have : g = false := blI_0.mp y
          rw [this, if_neg (fun w => absurd w.2 (by decide))]
          exact g2 k
        · rw [(Mo_uI (S := fun b => b = 452) (M := uI M1 451 j 1) (a := 452) (k := j) (x := 1) rfl).I (by decide)]
          exact g1 k
        · have : g = true := by
            cases hgg : g with
            | true => rfl
            | false => exact absurd (by rw [hgg]; rfl) y
          by_cases w : k = j
          · rw [if_pos ⟨w, this⟩, w, rI_eq]
          · rw [if_neg (fun u => w u.1), rI_k w]; exact g2 k
      | succ k ih =>
        intro q hq M1 g hW1 hm1 ho hd hg o7 o8
        -- behind the word that flows
        have put : ∀ w : Int32, (∀ b, b < 32 → (bt w b = true ↔ inC M c i q b)) → ∀ o7 o8, G 99 [some (.ref 449), some (.ref 8), some (.int (nI i)), some (.int (nI j)), some (.int (blI g)), some (.int (blI s)), some (.int (nI q)), o7, o8] [.int w] M1 := by
          intro w hw o7 o8
          have ec : nI j * (64 : Int32) + nI q = nI (j * 64 + q) := by rw [show (64 : Int32) = nI 64 from rfl, pk_mul, nI_add]
          have gc : gI M1 450 (j * 64 + q) = gI M 450 (j * 64 + q) := ho _ (by omega)
          have vc : vp_in (nI (j * 64 + q)) 6400 := vpN (by omega) (by decide)
          refine eX1_flowTo_99 hc hW1 ?_
          rw [ec, nI_clamp (by omega), gc, bt_new, nI_1]
          refine ⟨vc, fun y => ?_, fun y => ⟨vc, vc, ?_⟩⟩
          · refine ih (q + 1) (by omega) M1 g hW1 hm1 (fun p hp => ho p (by omega)) (fun p b hp hb => ?_) ?_ _ _
            · by_cases u : p = q
              · subst u
                rw [gc]
                exact ⟨Or.inl, fun v => v.elim id (fun v => y b hb ((hw b hb).mpr v))⟩
              · exact hd p b (by omega) hb
            · rw [hg]
              constructor
              · rintro (v | ⟨p, b, p1, p2, p3, p4⟩)
                · exact Or.inl v
                · exact Or.inr ⟨p, b, by omega, p2, p3, p4⟩
              · rintro (v | ⟨p, b, p1, p2, p3, p4⟩)
                · exact Or.inl v
                · by_cases u : p = q
                  · subst u
                    exact absurd (y b p2 ((hw b p2).mpr p3)) p4
                  · exact Or.inr ⟨p, b, by omega, p2, p3, p4⟩
          · have := ih (q + 1) (by omega) (uI M1 450 (j * 64 + q) (gI M 450 (j * 64 + q) ||| w)) true (Wf_uI hW1) (hm1.tr (Mo_uI rfl)) (fun p hp => by rw [rI_k (by omega)]; exact ho p (by omega)) (fun p b hp hb => ?_) ?_ (some (.int w)) (some (.int (nI (j * 64 + q))))
            · exact this
            · by_cases u : p = q
              · subst u
                rw [rI_eq, bt_or, Bool.or_eq_true, hw b hb]
              · rw [rI_k (by omega)]
                exact hd p b (by omega) hb
            · refine ⟨fun _ => Or.inr ?_, fun _ => rfl⟩
              obtain ⟨b, hb⟩ := Classical.not_forall.mp y
              obtain ⟨b1, hb⟩ := Classical.not_imp.mp hb
              obtain ⟨b2, b3⟩ := Classical.not_imp.mp hb
              exact ⟨q, b, by omega, b1, (hw b b1).mp b2, b3⟩
        -- the word of i itself
        have ei : nI i * (64 : Int32) + nI q = nI (i * 64 + q) := by rw [show (64 : Int32) = nI 64 from rfl, pk_mul, nI_add]
        have vi : vp_in (nI (i * 64 + q)) 6400 := vpN (by omega) (by decide)
        have gi : gI M1 450 (i * 64 + q) = gI M 450 (i * 64 + q) := ho _ (by omega)
        have own : ¬ (cn (c i) 0 = 0 ∧ q / 8 = cn (c i) 1) → ∀ b, b < 32 → (bt (gI M1 450 (nI (i * 64 + q)).toNatClampNeg) b = true ↔ inC M c i q b) := fun hno b hb => by
          rw [nI_clamp (by omega), gi, ← FM.cl hb (show q < 64 by omega)]
          constructor
          · intro y
            exact ⟨q * 32 + b, y, Or.inr (Or.inr ⟨by omega, rfl, fun u => hno ⟨u.1, by have := u.2; omega⟩⟩)⟩
          · rintro ⟨g', y1, y2⟩
            rcases y2 with ⟨-, y⟩ | ⟨-, u1, u2⟩ | ⟨-, u2, -⟩
            · omega
            · obtain ⟨⟨a, -⟩, ⟨b', -⟩, d, e, -⟩ := (hV i hi).set u1
              refine absurd ⟨u1, ?_⟩ hno
              unfold setF at u2
              omega
            · rw [u2]; exact y1
        refine eX1_flowTo_46 hc hW1 ⟨fun y => absurd ((nI_leI (a := 64) (by decide) (by omega)).mp y) (by omega), fun _ => ⟨fun y => ?_, fun y => ?_⟩⟩
        · have hs0 : ¬ cn (c i) 0 = 0 := fun u => by rw [hs.mpr u] at y; exact absurd y (by decide)
          rw [ei]
          exact ⟨vi, put _ (own (fun u => hs0 u.1)) _ _⟩
        · have hs0 : cn (c i) 0 = 0 := hs.mp (by
            cases hss : s with
            | true => rfl
            | false => exact absurd (by rw [hss]; rfl) y)
          obtain ⟨⟨a1, a2⟩, ⟨b1, b2⟩, d1, e1, f1⟩ := (hV i hi).set hs0
          obtain ⟨x1, x2⟩ := cell_is hP hi (w := 1) (by decide)
          obtain ⟨x3, x4⟩ := cell_is hP hi (w := 2) (by decide)
          obtain ⟨x5, x6⟩ := cell_is hP hi (w := 3) (by decide)
          have eq8 : (nI q / (8 : Int32)) = nI (q / 8) := by
            have : ∀ q ∈ List.range 64, nI q / (8 : Int32) = nI (q / 8) := by decide +kernel
            exact this q (List.mem_range.mpr (by omega))
          have e6 : ((nI q / (8 : Int32)).toInt64 = f_X6_cell 8 (nI i) (1 : Int32) M1) ↔ q / 8 = cn (c i) 1 := by
            have hx : f_X6_cell 8 (nI i) (1 : Int32) M1 = c i 1 := by
              have := (cell_is (hP.mo hm1 (by decide) (by decide)) hi (w := 1) (by decide)).2
              exact this
            rw [hx, a2, eq8, nI_toL (by omega)]
            exact ⟨fun u => lN8_inj (by omega) a1 u, fun u => by rw [u]⟩
          have hP1 := hP.mo hm1 (show ¬ (8 : Nat) = 450 by decide) (show ¬ (8 + 1 : Nat) = 450 by decide)
          rw [e6, ei]
          refine ⟨(cell_is hP1 hi (w := 1) (by decide)).1, fun u => ⟨vi, put _ (own (fun v => u v.2)) _ _⟩, fun u => ?_⟩
          have er : nI q - nI q / (8 : Int32) * (8 : Int32) = nI (q % 8) := by
            rw [eq8, show (8 : Int32) = nI 8 from rfl, pk_mul, pk_sub (by omega)]
            congr 1; omega
          rw [er]
          have y3 := cell_is hP1 hi (w := 2) (by decide)
          have y4 := cell_is hP1 hi (w := 3) (by decide)
          refine ⟨⟨y3.1, fun _ => y4.1⟩, put _ (fun b hb => ?_) _ _⟩
          unfold f_X1_waysOfSet
          rw [show (2 : Int32) = nI 2 from rfl, show (3 : Int32) = nI 3 from rfl, y3.2, y4.2, b2, f1, nI_toL (by omega), lN_toI]
          have e1' : nI (cn (c i) 3) - (1 : Int32) = nI (cn (c i) 3 - 1) := by rw [show (1 : Int32) = nI 1 from rfl, pk_sub d1]
          rw [e1']
          have hin : inC M c i q b ↔ q % 8 = cn (c i) 2 ∧ b = cn (c i) 3 - 1 := by
            constructor
            · rintro ⟨g', u1, u2⟩
              rcases u2 with ⟨-, v⟩ | ⟨-, -, v⟩ | ⟨v1, v2, v3⟩
              · omega
              · unfold setF at v; omega
              · exact absurd ⟨hs0, by omega⟩ v3
            · rintro ⟨v1, v2⟩
              exact ⟨2048, FM.r.mpr hr, Or.inr (Or.inl ⟨rfl, hs0, by unfold setF; omega⟩)⟩
          rw [hin]
          by_cases v : q % 8 = cn (c i) 2
          · rw [if_pos (by rw [v]), shl1_bt (by omega) hb, decide_eq_true_iff]
            exact ⟨fun t => ⟨v, t⟩, fun t => t.2⟩
          · rw [if_neg (fun t => v (lN8_inj (by omega) (by omega) t).symm), bt_0]
            exact ⟨fun t => absurd t (by decide), fun t => absurd t.1 v⟩
    have go : ∀ g0 : Bool, (g0 = true ↔ ¬ gI M 451 j = 1) → G 23 [some (.ref 449), some (.ref 8), some (.int (nI i)), some (.int (nI j)), none, none, none, none, none] [.int (blI g0)] M := fun g0 hg0 => by
      refine eX1_flowTo_23 hc hW (c_opP2 hW (by decide) hP hV hi (rX1_flowTo_23_3 hc hW (isOp_n (hV i hi).o.1) ⟨fun y => ?_, fun y => ?_⟩))
      · exact main false ⟨fun u => absurd u (by decide), fun u => absurd (by rw [u]) y⟩ g0 hg0 64 0 rfl M g0 hW Mo.rf (fun _ _ => rfl) (fun p b hp => absurd hp (Nat.not_lt_zero p)) ⟨Or.inl, fun u => u.elim id (fun ⟨p, b, v, _⟩ => absurd v (Nat.not_lt_zero p))⟩ _ _
      · exact main true ⟨fun _ => by omega, fun _ => rfl⟩ g0 hg0 64 0 rfl M g0 hW Mo.rf (fun _ _ => rfl) (fun p b hp => absurd hp (Nat.not_lt_zero p)) ⟨Or.inl, fun u => u.elim id (fun ⟨p, b, v, _⟩ => absurd v (Nat.not_lt_zero p))⟩ _ _
    refine ⟨vj, fun y => go false ⟨fun u => absurd u (by decide), fun u => ?_⟩, fun y => go true ⟨fun _ => by rw [y]; decide, fun _ => rfl⟩⟩
    exact absurd ((hB j (by omega)).1.elim (fun v => absurd v y) id) u
  · exact absurd w.2.1 (fun y => z (by
      unfold P_X6_has
      rw [hP.2.1]
      exact ⟨nI_pos (by omega), fun q => by have := (nI_leI (by omega) (by omega)).mp q; omega⟩))
  · exact absurd w.2.1 (fun y => z (by
      unfold P_X6_has
      rw [hP.2.1]
      exact ⟨nI_pos (by omega), fun q => by have := (nI_leI (by omega) (by omega)).mp q; omega⟩))
end
end FLOW1
