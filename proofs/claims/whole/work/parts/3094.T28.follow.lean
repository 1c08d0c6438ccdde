section FLOW3
section
variable {M M' : Mem} {K : RT} {n : Nat} {c : Nat → Nat → Int64} {i : Nat}
def Clo (n : Nat) (c : Nat → Nat → Int64) (M : Mem) (i : Nat) : Prop := ∀ k g f, sucS n c i k → FM M i g → pasS c i g f → FM M k f
def FI (n : Nat) (c : Nat → Nat → Int64) (M : Mem) : Prop := Wf M ∧ Bo M ∧ (∀ k f, k < 100 → FM M k f → Fa n c k f) ∧ (0 < n → FM M 0 2048 ∧ ∀ v, v < 8 → FM M 0 (v * 256 + 224)) ∧ (∀ k g, k < 100 → FM M k g → FM M k 2048) ∧ (∀ k, k < n → gI M 452 k = 1 → gI M 451 k = 1) ∧ ∀ k, k < n → FM M k 2048 → gI M 452 k = 0 → Clo n c M k
theorem FM.un {k f : Nat} {x : Int32} {j : Nat} : FM (uI M 452 j x) k f ↔ FM M k f := by
  have e : ∀ a p, a ≠ 452 → gI (uI M 452 j x) a p = gI M a p := fun a p ha => (Mo_uI (S := fun b => b = 452) (M := M) (a := 452) (k := j) (x := x) rfl).I ha
  unfold FM
  rw [e 451 _ (by decide), e 450 _ (by decide)]
/-- one turn of a pass -/
theorem FI.on (hn : n ≤ 100) (hi : i < n) (h : FI n c M) (hr : gI M 451 i = 1) (hf : FTo n c i (uI M 452 i 0) M' (sucS n c i)) : FI n c M' ∧ (∀ k f, FM M k f → FM M' k f) ∧ ∀ k g f, FM M i g → sucS n c i k → pasS c i g f → FM M' k f := by
  obtain ⟨w, hB, hs, hi0, hrh, hgr, hcl⟩ := h
  obtain ⟨f1, f2, f3, f4, f5⟩ := hf
  have up : ∀ k f, FM M k f → FM M' k f := fun k f z => (f4 k f).mpr (Or.inl (FM.un.mpr z))
  have fl : ∀ k g f, FM M i g → sucS n c i k → pasS c i g f → FM M' k f := fun k g f a b d => (f4 k f).mpr (Or.inr ⟨b, g, FM.un.mpr a, d⟩)
  have hr' : FM M i 2048 := FM.r.mpr hr
  have new : ∀ k f, FM M' k f → FM M k f ∨ (sucS n c i k ∧ ∃ g, FM M i g ∧ pasS c i g f) := fun k f z => by
    rcases (f4 k f).mp z with y | ⟨y1, g, y2, y3⟩
    · exact Or.inl (FM.un.mp y)
    · exact Or.inr ⟨y1, g, FM.un.mp y2, y3⟩
  have rh : ∀ k g, k < 100 → FM M' k g → FM M' k 2048 := fun k g hk z => by
    rcases new k g z with y | ⟨y1, -⟩
    · exact up k _ (hrh k g hk y)
    · exact fl k 2048 2048 hr' y1 (Or.inl ⟨rfl, rfl⟩)
  refine ⟨⟨f1, f3, fun k f hk z => ?_, fun z => ⟨up _ _ (hi0 z).1, fun v hv => up _ _ ((hi0 z).2 v hv)⟩, rh, fun k hk z => ?_, fun k hk z y => ?_⟩, up, fl⟩
  · rcases new k f z with y | ⟨y1, g, y2, y3⟩
    · exact hs k f hk y
    · exact Fa.st (hs i g (by omega) y2) y1 y3
  · rcases (f5 k (by omega)).mp z with y | ⟨f, y, -⟩
    · have : gI M 452 k = 1 := by
        by_cases e : k = i
        · subst e; rw [rI_eq] at y; exact absurd y (by decide)
        · rw [rI_k e] at y; exact y
      exact FM.r.mp (up k _ (FM.r.mpr (hgr k hk this)))
    · exact FM.r.mp (rh k f (by omega) y)
  · have hno : ∀ f, FM M' k f → FM M k f := fun f u => by
      by_cases e : FM M k f
      · exact e
      · have := (f5 k (by omega)).mpr (Or.inr ⟨f, u, fun q => e (FM.un.mp q)⟩)
        rw [y] at this; exact absurd this (by decide)
    by_cases e : k = i
    · subst e
      intro j g f a b d
      exact fl j g f (hno g b) a d
    · have hg0 : gI M 452 k = 0 := by
        rcases (hB k (by omega)).2 with u | u
        · exact u
        · have := (f5 k (by omega)).mpr (Or.inl (by rw [rI_k e]; exact u))
          rw [y] at this; exact absurd this (by decide)
      intro j g f a b d
      exact up j f (hcl k hk (hno _ z) hg0 j g f a (hno g b) d)
theorem FI.all (hn : n ≤ 100) (h : FI n c M) (hz : ∀ k, k < n → gI M 452 k = 0) : ∀ d k f, FaD n c d k f → FM M k f := by
  obtain ⟨w, hB, hs, hi0, hrh, hgr, hcl⟩ := h
  intro d
  induction d with
  | zero =>
    intro k f z
    obtain ⟨z1, z2, z3⟩ := z
    subst z2
    rcases z3 with z3 | ⟨v, v1, v2⟩
    · subst z3; exact (hi0 z1).1
    · subst v2; exact (hi0 z1).2 v v1
  | succ d ih =>
    intro k f z
    rcases z with z | ⟨j, g, z1, z2, z3⟩
    · exact ih k f z
    · exact hcl j z2.1 (hrh j g (by have := z2.1; omega) (ih j g z1)) (hz j z2.1) k g f z2 (ih j g z1) z3
theorem c_clear (hW : Wf M) (h : ∀ M', Wf M' → Mo flS M M' → (∀ j, j < 6400 → gI M' 450 j = 0) → (∀ j, j < 100 → gI M' 451 j = 0 ∧ gI M' 452 j = 0) → K none M') : sp_X1_clear [.ref 449] M K := by
  refine wX1_clear hW (fun {G} hc => c_fillI (n := 6400) hW (by decide) (by decide) (rX1_clear_0_3 hc (Wf_bI hW) ?_))
  have h0 : ∀ j, j < 6400 → gI (bI M 450 (fun j => if j < 6400 then (0 : Int32) else gI M 450 j)) 450 j = 0 := fun j hj => by rw [gI_bI, if_pos rfl, if_pos hj]
  have hm0 : Mo flS M (bI M 450 (fun j => if j < 6400 then (0 : Int32) else gI M 450 j)) := Mo_bI (Or.inl rfl)
  have hW0 : Wf (bI M 450 (fun j => if j < 6400 then (0 : Int32) else gI M 450 j)) := Wf_bI hW
  generalize bI M 450 (fun j => if j < 6400 then (0 : Int32) else gI M 450 j) = M0 at h0 hm0 hW0 ⊢
  have loop : ∀ k i : Nat, i + k = 100 → ∀ M1, Wf M1 → Mo flS M M1 → (∀ j, j < 6400 → gI M1 450 j = 0) → (∀ j, j < i → gI M1 451 j = 0 ∧ gI M1 452 j = 0) → G 10 [some (.ref 449), some (.int (nI i))] [] M1 := by
    intro k
    induction k with
    | zero =>
      intro i hi M1 hW1 hm1 h1 h2
      have : i = 100 := by omega
      subst this
      exact eX1_clear_10 hc hW1 ⟨fun _ => h M1 hW1 hm1 h1 h2, fun q => absurd (by decide) q⟩
    | succ k ih =>
      intro i hi M1 hW1 hm1 h1 h2
      refine eX1_clear_10 hc hW1 ⟨fun q => absurd ((nI_leI (a := 100) (by decide) (by omega)).mp q) (by omega), fun _ => ⟨vpN (by omega) (by decide), vpN (by omega) (by decide), ?_⟩⟩
      rw [nI_clamp (by omega), nI_1]
      have e1 : ∀ (M : Mem) (p : Nat), gI (uI M 451 i 0) 450 p = gI M 450 p := fun M p => (Mo_uI (S := fun b => b = 451) (M := M) (a := 451) (k := i) (x := 0) rfl).I (by decide)
      have e2 : ∀ (M : Mem) (p : Nat), gI (uI M 452 i 0) 450 p = gI M 450 p := fun M p => (Mo_uI (S := fun b => b = 452) (M := M) (a := 452) (k := i) (x := 0) rfl).I (by decide)
      have e3 : ∀ (M : Mem) (p : Nat), gI (uI M 452 i 0) 451 p = gI M 451 p := fun M p => (Mo_uI (S := fun b => b = 452) (M := M) (a := 452) (k := i) (x := 0) rfl).I (by decide)
      have e4 : ∀ (M : Mem) (p : Nat), gI (uI M 451 i 0) 452 p = gI M 452 p := fun M p => (Mo_uI (S := fun b => b = 451) (M := M) (a := 451) (k := i) (x := 0) rfl).I (by decide)
      refine ih (i + 1) (by omega) _ (Wf_uI (Wf_uI hW1)) ((hm1.tr (Mo_uI (Or.inr (Or.inl rfl)))).tr (Mo_uI (Or.inr (Or.inr rfl)))) (fun j hj => by rw [e2, e1]; exact h1 j hj) (fun j hj => ?_)
      rw [e3]
      by_cases y : j = i
      · subst y; exact ⟨rI_eq, rI_eq⟩
      · rw [rI_k y, rI_k y, e4]; exact h2 j (by omega)
  exact loop 100 0 rfl M0 hW0 hm0 h0 (fun j hj => absurd hj (Nat.not_lt_zero j))
theorem VI.setAll (hV : ∀ k, k < n → VI n (c k)) : ∀ i, i < n → cn (c i) 0 = 0 → setF c i < 2048 := fun i hi h => setF_lt (hV i hi) h
theorem c_follow (hW : Wf M) (hP : PRG M 8 n c) (hV : ∀ k, k < n → VI n (c k)) (hF : FlC M n c FlM) (h : ∀ M', Wf M' → Mo (fun b => b = 449 ∨ flS b) M M' → gI M' 449 3 = 1 → FlM M' n c → K none M') : sp_X1_follow [.ref 449, .ref 8] M K := by
  have hn := hP.1
  refine wX1_follow hW (fun {G} hc => ⟨fun z => ?_, fun z => ?_⟩)
  · have hm0 : Mo (fun b => b = 449 ∨ flS b) M (uI M 449 3 1) := Mo_uI (Or.inl rfl)
    have h03 : gI (uI M 449 3 1) 449 3 = 1 := rI_eq
    have hW0 : Wf (uI M 449 3 1) := Wf_uI hW
    generalize uI M 449 3 1 = M0 at hm0 h03 hW0 ⊢
    refine c_clear hW0 (fun M1 hW1 hm1 h1 h2 => rX1_follow_8_4 hc hW1 ?_)
    have hm01 : Mo (fun b => b = 449 ∨ flS b) M M1 := hm0.tr (hm1.mono (fun b hb => Or.inr hb))
    have nfl : ¬ flS 449 := by unfold flS; decide
    have h13 : gI M1 449 3 = 1 := by rw [hm1.I nfl]; exact h03
    have hP1 : PRG M1 8 n c := hP.mo hm01 (by unfold flS; decide) (by unfold flS; decide)
    have none1 : ∀ k f, k < 100 → ¬ FM M1 k f := fun k f hk y => by
      rcases y with ⟨-, y⟩ | ⟨y1, y⟩
      · rw [(h2 k hk).1] at y; exact absurd y (by decide)
      · rw [h1 _ (by omega), bt_0] at y; exact absurd y (by decide)
    have hB1 : Bo M1 := fun k hk => ⟨Or.inl (h2 k hk).1, Or.inl (h2 k hk).2⟩
    rw [hP1.2.1]
    refine ⟨fun y => ?_, fun y => ?_⟩
    · have hpos : 0 < n := by
        rcases Nat.eq_zero_or_pos n with w | w
        · rw [w] at y; exact absurd rfl y
        · exact w
      -- the passes
      have done : ∀ M2, FI n c M2 → Mo (fun b => b = 449 ∨ flS b) M M2 → gI M2 449 3 = 1 → (∀ k f, FaD n c 200 k f → FM M2 k f) → K none M2 := fun M2 hI hm2 h3 hd => by
        refine h M2 hI.1 hm2 h3 ⟨hI.2.1, fun k hk f hf => ⟨hI.2.2.1 k f hk, fun u => hd k f (u.bound hn (VI.setAll hV))⟩⟩
      have passes : ∀ q t : Nat, t + q = 201 → ∀ M2 (more : Bool) o4, FI n c M2 → Mo (fun b => b = 449 ∨ flS b) M M2 → gI M2 449 3 = 1 → PRG M2 8 n c → (∀ k f, FaD n c t k f → FM M2 k f) → (more = false → ∀ k, k < n → gI M2 452 k = 0) → G 70 [some (.ref 449), some (.ref 8), some (.int (blI more)), some (.int (nI t)), o4] [] M2 := by
        intro q
        induction q with
        | zero =>
          intro t ht M2 more o4 hI hm2 h3 hP2 hd hno
          have : t = 201 := by omega
          subst this
          have fin := done M2 hI hm2 h3 (fun k f u => hd k f (u.up (by decide)))
          exact eX1_follow_70 hc hI.1 ⟨fun _ => fin, fun _ => ⟨fun _ => fin, fun u => absurd (by decide) u⟩⟩
        | succ q ih =>
          intro t ht M2 more o4 hI hm2 h3 hP2 hd hno
          refine eX1_follow_70 hc hI.1 ⟨fun u => ?_, fun u => ⟨fun v => absurd ((nI_leI (a := 201) (by decide) (by omega)).mp v) (by omega), fun _ => ?_⟩⟩
          · exact done M2 hI hm2 h3 (fun k f => hI.all hn (hno (blI_0.mp u)) 200 k f)
          · -- one pass
            have turn : ∀ r k : Nat, k + r = n → ∀ M3 (mo : Bool), FI n c M3 → Mo (fun b => b = 449 ∨ flS b) M M3 → gI M3 449 3 = 1 → PRG M3 8 n c → (∀ j f, FM M2 j f → FM M3 j f) → (∀ j g f p, j < k → FM M2 j g → sucS n c j p → pasS c j g f → FM M3 p f) → (mo = false → ∀ j, j < k → gI M3 452 j = 0) → G 86 [some (.ref 449), some (.ref 8), some (.int (blI mo)), some (.int (nI t)), some (.int (nI k))] [] M3 := by
              intro r
              induction r with
              | zero =>
                intro k hk M3 mo hI3 hm3 h33 hP3 up fl hno3
                refine eX1_follow_86 hc hI3.1 ?_
                rw [hP3.2.1]
                refine ⟨fun _ => ?_, fun v => absurd (nI_le (by omega) (by omega)) v⟩
                rw [nI_1]
                refine ih (t + 1) (by omega) M3 mo _ hI3 hm3 h33 hP3 (fun j f v => ?_) (fun v j hj => hno3 v j (by omega))
                rcases v with v | ⟨p, g, v1, v2, v3⟩
                · exact up j f (hd j f v)
                · exact fl p g f j (by have := v2.1; omega) (hd p g v1) v2 v3
              | succ r ihr =>
                intro k hk M3 mo hI3 hm3 h33 hP3 up fl hno3
                refine eX1_follow_86 hc hI3.1 ?_
                rw [hP3.2.1, nI_clamp (by omega)]
                refine ⟨fun v => absurd ((nI_leI (by omega) (by omega)).mp v) (by omega), fun _ => ⟨vpN (by omega) (by decide), fun v => ?_, fun v => ?_⟩⟩
                · rw [nI_1]
                  refine ihr (k + 1) (by omega) M3 mo hI3 hm3 h33 hP3 up (fun j g f p hj a b d => ?_) (fun w j hj => ?_)
                  · by_cases e : j = k
                    · subst e
                      have hg := up j g a
                      exact hI3.2.2.2.2.2.2 j (by omega) (hI3.2.2.2.2.1 j g (by omega) hg) v p g f b hg d
                    · exact fl j g f p (by omega) a b d
                  · by_cases e : j = k
                    · subst e; exact v
                    · exact hno3 w j (by omega)
                · have g1 : gI M3 452 k = 1 := ((hI3.2.1 k (by omega)).2).elim (fun w => absurd w v) id
                  have r1 := hI3.2.2.2.2.2.1 k (by omega) g1
                  have hB3 : Bo (uI M3 452 k 0) := fun j hj => by
                    refine ⟨?_, ?_⟩
                    · rw [(Mo_uI (S := fun b => b = 452) (M := M3) (a := 452) (k := k) (x := 0) rfl).I (by decide)]
                      exact (hI3.2.1 j hj).1
                    · by_cases e : j = k
                      · subst e; exact Or.inl rI_eq
                      · rw [rI_k e]; exact (hI3.2.1 j hj).2
                  have r1' : gI (uI M3 452 k 0) 451 k = 1 := by
                    rw [(Mo_uI (S := fun b => b = 452) (M := M3) (a := 452) (k := k) (x := 0) rfl).I (by decide)]; exact r1
                  have hPu : PRG (uI M3 452 k 0) 8 n c := hP3.mo (Mo_uI (S := fun b => b = 452) rfl) (by decide) (by decide)
                  refine ⟨vpN (by omega) (by decide), c_flowOn (Wf_uI hI3.1) hPu hV hB3 (by omega) r1' (fun M4 hf => rX1_follow_105_10 hc hf.1 ?_)⟩
                  obtain ⟨a1, a2, a3⟩ := FI.on hn (show k < n by omega) hI3 r1 hf
                  have hm34 : Mo flS M3 M4 := (Mo_uI (Or.inr (Or.inr rfl))).tr hf.2.1
                  rw [nI_1]
                  refine ihr (k + 1) (by omega) M4 true a1 (hm3.tr (hm34.mono (fun b hb => Or.inr hb))) (by rw [hm34.I nfl]; exact h33) (hf.pr hPu) (fun j f w => a2 j f (up j f w)) (fun j g f p hj a b d => ?_) (fun w => absurd w (by decide))
                  by_cases e : j = k
                  · subst e; exact a3 p g f (up j g a) b d
                  · exact a2 p f (fl j g f p (by omega) a b d)
            exact turn n 0 (Nat.zero_add _) M2 false hI hm2 h3 hP2 (fun _ _ => id) (fun j g f p hj => absurd hj (Nat.not_lt_zero j)) (fun _ j hj => absurd hj (Nat.not_lt_zero j))
      -- the registers of the first instruction are NONE
      have regs : ∀ q r : Nat, r + q = 8 → ∀ M2 o3 o4, Wf M2 → Mo flS M1 M2 → (∀ p, p < 6400 → gI M2 450 p = if p % 8 = 7 ∧ p < 8 * r then 1 else 0) → (∀ j, j < 100 → gI M2 451 j = 0 ∧ gI M2 452 j = 0) → G 27 [some (.ref 449), some (.ref 8), some (.int (nI r)), o3, o4] [] M2 := by
        intro q
        induction q with
        | zero =>
          intro r hr M2 o3 o4 hW2 hm2 g1 g2
          have : r = 8 := by omega
          subst this
          refine eX1_follow_27 hc hW2 ⟨fun _ => ?_, fun u => absurd (by decide) u⟩
          have hm3 : Mo flS M2 (uI (uI M2 451 0 1) 452 0 1) := (Mo_uI (Or.inr (Or.inl rfl))).tr (Mo_uI (Or.inr (Or.inr rfl)))
          have e450 : ∀ p, gI (uI (uI M2 451 0 1) 452 0 1) 450 p = gI M2 450 p := fun p => by
            rw [(Mo_uI (S := fun b => b = 452) (M := uI M2 451 0 1) (a := 452) (k := 0) (x := 1) rfl).I (by decide), (Mo_uI (S := fun b => b = 451) (M := M2) (a := 451) (k := 0) (x := 1) rfl).I (by decide)]
          have e451 : ∀ p, gI (uI (uI M2 451 0 1) 452 0 1) 451 p = if p = 0 then 1 else gI M2 451 p := fun p => by
            rw [(Mo_uI (S := fun b => b = 452) (M := uI M2 451 0 1) (a := 452) (k := 0) (x := 1) rfl).I (by decide)]
            by_cases e : p = 0
            · rw [if_pos e, e, rI_eq]
            · rw [if_neg e, rI_k e]
          have e452 : ∀ p, gI (uI (uI M2 451 0 1) 452 0 1) 452 p = if p = 0 then 1 else gI M2 452 p := fun p => by
            by_cases e : p = 0
            · rw [if_pos e, e, rI_eq]
            · rw [if_neg e, rI_k e, (Mo_uI (S := fun b => b = 451) (M := M2) (a := 451) (k := 0) (x := 1) rfl).I (by decide)]
          have hW3 : Wf (uI (uI M2 451 0 1) 452 0 1) := Wf_uI (Wf_uI hW2)
          generalize uI (uI M2 451 0 1) 452 0 1 = M3 at hm3 e450 e451 e452 hW3 ⊢
          have b1 : ∀ b, b < 32 → (bt (1 : Int32) b = true ↔ b = 0) := fun b hb => by
            have := shl1_bt (k := 0) (i := b) (by decide) hb
            have e : ((1 : Int32) <<< (nI 0 &&& 31)) = 1 := by decide
            rw [e] at this
            rw [this, decide_eq_true_iff]
          have fm : ∀ k f, k < 100 → (FM M3 k f ↔ k = 0 ∧ (f = 2048 ∨ ∃ v, v < 8 ∧ f = v * 256 + 224)) := fun k f hk => by
            unfold FM
            rw [e451, e450]
            constructor
            · rintro (⟨u1, u2⟩ | ⟨u1, u2⟩)
              · by_cases e : k = 0
                · exact ⟨e, Or.inl u1⟩
                · rw [if_neg e, (g2 k hk).1] at u2; exact absurd u2 (by decide)
              · rw [g1 _ (by omega)] at u2
                by_cases e : (k * 64 + f / 32) % 8 = 7 ∧ k * 64 + f / 32 < 8 * 8
                · rw [if_pos e, b1 _ (by omega)] at u2
                  exact ⟨by omega, Or.inr ⟨f / 256, by omega, by omega⟩⟩
                · rw [if_neg e, bt_0] at u2; exact absurd u2 (by decide)
            · rintro ⟨u1, u2 | ⟨v, v1, v2⟩⟩
              · exact Or.inl ⟨u2, if_pos u1⟩
              · refine Or.inr ⟨by omega, ?_⟩
                rw [g1 _ (by omega), if_pos ⟨by omega, by omega⟩, b1 _ (by omega)]
                omega
          have hP3 := hP1.mo (hm2.tr hm3) (by unfold flS; decide) (by unfold flS; decide)
          have hI : FI n c M3 := by
            refine ⟨hW3, fun k hk => ⟨?_, ?_⟩, fun k f hk u => ?_, fun _ => ⟨(fm 0 _ (by decide)).mpr ⟨rfl, Or.inl rfl⟩, fun v hv => (fm 0 _ (by decide)).mpr ⟨rfl, Or.inr ⟨v, hv, rfl⟩⟩⟩, fun k g hk u => ?_, fun k hk u => ?_, fun k hk u v => ?_⟩
            · rw [e451]; split
              · exact Or.inr rfl
              · exact Or.inl (g2 k hk).1
            · rw [e452]; split
              · exact Or.inr rfl
              · exact Or.inl (g2 k hk).2
            · obtain ⟨u1, u2⟩ := (fm k f hk).mp u
              subst u1
              rcases u2 with u2 | ⟨v, v1, v2⟩
              · subst u2; exact Fa.r0 hpos
              · subst v2; exact Fa.w0 hpos v1
            · exact (fm k _ hk).mpr ⟨((fm k g hk).mp u).1, Or.inl rfl⟩
            · rw [e452] at u
              by_cases e : k = 0
              · rw [e451, if_pos e]
              · rw [if_neg e, (g2 k (by omega)).2] at u; exact absurd u (by decide)
            · have e := ((fm k _ (by omega)).mp u).1
              rw [e452, if_pos e] at v
              exact absurd v (by decide)
          have h33 : gI M3 449 3 = 1 := by rw [hm3.I nfl, hm2.I nfl]; exact h13
          refine passes 201 0 rfl M3 true _ hI (hm01.tr ((hm2.tr hm3).mono (fun b hb => Or.inr hb))) h33 hP3 (fun k f u => ?_) (fun u => absurd u (by decide))
          obtain ⟨u1, u2, u3⟩ := u
          exact (fm k f (by omega)).mpr ⟨u2, u3⟩
        | succ q ih =>
          intro r hr M2 o3 o4 hW2 hm2 g1 g2
          have ec : nI r * (8 : Int32) + (7 : Int32) = nI (r * 8 + 7) := by rw [show (8 : Int32) = nI 8 from rfl, show (7 : Int32) = nI 7 from rfl, pk_mul, nI_add]
          refine eX1_follow_27 hc hW2 ⟨fun u => absurd ((nI_leI (a := 8) (by decide) (by omega)).mp u) (by omega), fun _ => ?_⟩
          rw [ec, nI_clamp (by omega), nI_1]
          refine ⟨vpN (by omega) (by decide), ih (r + 1) (by omega) _ _ _ (Wf_uI hW2) (hm2.tr (Mo_uI (Or.inl rfl))) (fun p hp => ?_) (fun j hj => ?_)⟩
          · by_cases e : p = r * 8 + 7
            · rw [e, rI_eq, if_pos ⟨by omega, by omega⟩]
            · rw [rI_k e, g1 p hp]
              by_cases u : p % 8 = 7 ∧ p < 8 * r
              · rw [if_pos u, if_pos ⟨u.1, by omega⟩]
              · rw [if_neg u, if_neg (fun v => u ⟨v.1, by omega⟩)]
          · rw [(Mo_uI (S := fun b => b = 450) (M := M2) (a := 450) (k := r * 8 + 7) (x := 1) rfl).I (by decide), (Mo_uI (S := fun b => b = 450) (M := M2) (a := 450) (k := r * 8 + 7) (x := 1) rfl).I (by decide)]
            exact g2 j hj
      exact regs 8 0 rfl M1 _ _ hW1 Mo.rf (fun p hp => by rw [if_neg (fun u => by omega)]; exact h1 p hp) h2
    · have hz : n = 0 := (nI_eq (b := 0) (by omega) (by decide)).mp y
      refine h M1 hW1 hm01 h13 ⟨hB1, fun k hk f hf => ⟨fun u => absurd u (none1 k f hk), fun u => ?_⟩⟩
      have := u.lt
      omega
  · have h1 : gI M 449 3 = 1 := hF.1.elim (fun w => absurd w z) id
    exact h M hW Mo.rf h1 (hF.2 h1)
end
end FLOW3
