section RSORT
section
variable {M M' : Mem} {K : RT} {n i : Nat} {c : Nat → Nat → Int64}
theorem nI_m1 (j : Nat) : nI (j + 1) + (-1 : Int32) = nI j := by
  rw [← nI_1, Int32.add_assoc, show ((1 : Int32) + -1) = 0 from by decide, Int32.add_zero]
def rRow0S (v a j : Nat) : Prop := (a = 626 ∨ a = 627) ∧ 32 * v ≤ j ∧ j < 32 * v + 32
theorem c_sort13 {v nn : Nat} {k : Int32} {X f : Nat → Int64} (hW : Wf M) (hk : isK k) (v8 : v < 8) (hnn : nn ≤ 32) (hkM : gI M 624 v = k) (hX : LR M 643 644 k nn X) (okX : ∀ j, j < nn → okJ k (X j)) (hf : ∀ j, j < nn → VR k (gL M 626 (32 * v + j)) (gD M 627 (32 * v + j)) (f j)) (okf : ∀ j, j < nn → okJ k (f j)) (h : ∀ M', Wf M' → FrC (rRow0S v) M M' → (∀ j, j < nn → VR k (gL M' 626 (32 * v + j)) (gD M' 627 (32 * v + j)) (sortR (ltJ k) X nn 0 f j)) → K none M') : sp_X13_sort [.ref 605, .int (nI v), .int (nI nn)] M K := by
  refine wX13_sort hW (fun {G} hc => ?_)
  have loop : ∀ q p : Nat, p + q = nn → ∀ (M1 : Mem) (g : Nat → Int64) (o4 : Option Value), Wf M1 → FrC (rRow0S v) M M1 → (∀ j, j < nn → VR k (gL M1 626 (32 * v + j)) (gD M1 627 (32 * v + j)) (g j)) → (∀ j, j < nn → okJ k (g j)) → sortR (ltJ k) X q p g = sortR (ltJ k) X nn 0 f → G 2 [some (.ref 605), some (.int (nI v)), some (.int (nI nn)), some (.int (nI p)), o4] [] M1 := by
    intro q
    induction q with
    | zero =>
      intro p hp M1 g o4 hW1 f1 hg okg hR
      refine eX13_sort_2 hc hW1 ⟨fun _ => h M1 hW1 f1 ?_, fun z => absurd (nI_le (by omega) (by omega)) z⟩
      have e : sortR (ltJ k) X 0 p g = g := rfl
      rw [← hR, e]
      exact hg
    | succ q ih =>
      intro p hp M1 g o4 hW1 f1 hg okg hR
      refine eX13_sort_2 hc hW1 ⟨fun z => absurd ((nI_leI (by omega) (by omega)).mp z) (by omega), fun _ => ?_⟩
      have e : sortR (ltJ k) X (q + 1) p g = sortR (ltJ k) X q (p + 1) (insR (ltJ k) (X p) p g) := rfl
      rw [e] at hR
      obtain ⟨w1, w2⟩ := lane_vp (j := p) (by omega)
      -- the place of X p
      have inner : ∀ j : Nat, j ≤ p → ∀ (M2 : Mem) (g2 : Nat → Int64), Wf M2 → FrC (rRow0S v) M M2 → (∀ j, j < nn → VR k (gL M2 626 (32 * v + j)) (gD M2 627 (32 * v + j)) (g2 j)) → (∀ j, j < nn → okJ k (g2 j)) → insR (ltJ k) (X p) j g2 = insR (ltJ k) (X p) p g → G 10 [some (.ref 605), some (.int (nI v)), some (.int (nI nn)), some (.int (nI p)), some (.int (nI j))] [] M2 := by
        -- X p is laid at j
        have put : ∀ j : Nat, j ≤ p → ∀ (M2 : Mem) (g2 : Nat → Int64), Wf M2 → FrC (rRow0S v) M M2 → (∀ j, j < nn → VR k (gL M2 626 (32 * v + j)) (gD M2 627 (32 * v + j)) (g2 j)) → (∀ j, j < nn → okJ k (g2 j)) → up1 g2 j (X p) = insR (ltJ k) (X p) p g → G 112 [some (.ref 605), some (.int (nI v)), some (.int (nI nn)), some (.int (nI p)), some (.int (nI j))] [] M2 := by
          intro j hj M2 g2 hW2 f2 hg2 ok2 hT
          refine eX13_sort_112 hc hW2 ?_
          have ea : (32 : Int32) * nI v + nI j = nI (32 * v + j) := by rw [show (32 : Int32) = nI 32 from rfl, pk_mul, nI_add]
          unfold q_X13_lay m_X13_lay
          rw [w2, ea, nI_clamp (show 32 * v + j < 2 ^ 31 by omega), nI_1]
          have f3 : FrC (rRow0S v) M2 (uD (uL M2 626 (32 * v + j) (gL M2 643 p)) 627 (32 * v + j) (gD M2 644 p)) := (FrC_uL (by unfold rRow0S; omega)).tr (FrC_uD (by unfold rRow0S; omega))
          refine ⟨w1, w1, ⟨vpN (by omega) (by decide), vpN (by omega) (by decide)⟩, ?_⟩
          refine ih (p + 1) (by omega) _ (up1 g2 j (X p)) _ (f3.wf hW2) (f2.tr f3) (fun t ht => ?_) (fun t ht => ?_) (by rw [hT]; exact hR)
          · unfold up1
            rw [gL_uD, gL_uL, gD_uD, gD_uL]
            by_cases e : t = j
            · rw [if_pos ⟨rfl, by omega⟩, if_pos ⟨rfl, by omega⟩, if_pos e, f2.l (by unfold rRow0S; omega), f2.d (by unfold rRow0S; omega)]
              exact hX p (by omega)
            · rw [if_neg (fun z => e (by omega)), if_neg (fun z => e (by omega)), if_neg e]
              exact hg2 t ht
          · unfold up1
            split
            · exact okX p (by omega)
            · exact ok2 t ht
        intro j
        induction j with
        | zero =>
          intro hj M2 g2 hW2 f2 hg2 ok2 hT
          exact eX13_sort_10 hc hW2 ⟨fun _ => put 0 (by omega) M2 g2 hW2 f2 hg2 ok2 hT, fun z => absurd (by decide) z⟩
        | succ j ih2 =>
          intro hj M2 g2 hW2 f2 hg2 ok2 hT
          have ea : (32 : Int32) * nI v + nI (j + 1) - (1 : Int32) = nI (32 * v + j) := by rw [show (32 : Int32) = nI 32 from rfl, pk_mul, nI_add, show (1 : Int32) = nI 1 from rfl, pk_sub (by omega)]; congr 1
          have eb : (32 : Int32) * nI v + nI (j + 1) = nI (32 * v + (j + 1)) := by rw [show (32 : Int32) = nI 32 from rfl, pk_mul, nI_add]
          have hT' : insR (ltJ k) (X p) (j + 1) g2 = iT (ltJ k (X p) (g2 j)) (insR (ltJ k) (X p) j (up1 g2 (j + 1) (g2 j))) (up1 g2 (j + 1) (X p)) := rfl
          rw [hT'] at hT
          refine eX13_sort_10 hc hW2 ⟨fun z => ?_, fun _ => ?_⟩
          · rw [show (0 : Int32) = nI 0 from rfl, nI_leI (by omega) (by decide)] at z; omega
          · rw [ea, w2, nI_clamp (show v < 2 ^ 31 by omega), nI_clamp (show 32 * v + j < 2 ^ 31 by omega), f2.i (by unfold rRow0S; omega), hkM]
            refine ⟨vpN v8 (by decide), w1, w1, vpN (by omega) (by decide), vpN (by omega) (by decide), ?_⟩
            refine c_order13 hW2 hk (okX p (by omega)) (ok2 j (by omega)) (by rw [f2.l (by unfold rRow0S; omega), f2.d (by unfold rRow0S; omega)]; exact hX p (by omega)) (hg2 j (by omega)) (rX13_sort_15_32 hc hW2 ?_)
            have hlt := (ordS_pos (k := k) (x := X p) (y := g2 j)).2
            refine ⟨fun z => put (j + 1) hj M2 g2 hW2 f2 hg2 ok2 ?_, fun z => ?_⟩
            · rw [iT_f (fun y => by have := hlt.mpr y; rw [i32_lt0] at this; exact this z)] at hT
              exact hT
            · have y : ltJ k (X p) (g2 j) := hlt.mp (by rw [i32_lt0]; exact z)
              rw [iT_t y] at hT
              unfold q_X13_lay m_X13_lay
              rw [ea, eb, nI_m1, nI_clamp (show 32 * v + j < 2 ^ 31 by omega), nI_clamp (show 32 * v + (j + 1) < 2 ^ 31 by omega)]
              have f3 : FrC (rRow0S v) M2 (uD (uL M2 626 (32 * v + (j + 1)) (gL M2 626 (32 * v + j))) 627 (32 * v + (j + 1)) (gD M2 627 (32 * v + j))) := (FrC_uL (by unfold rRow0S; omega)).tr (FrC_uD (by unfold rRow0S; omega))
              refine ⟨vpN (by omega) (by decide), vpN (by omega) (by decide), ⟨vpN (by omega) (by decide), vpN (by omega) (by decide)⟩, ih2 (by omega) _ (up1 g2 (j + 1) (g2 j)) (f3.wf hW2) (f2.tr f3) (fun t ht => ?_) (fun t ht => ?_) hT⟩
              · unfold up1
                rw [gL_uD, gL_uL, gD_uD, gD_uL]
                by_cases e : t = j + 1
                · rw [if_pos ⟨rfl, by omega⟩, if_pos ⟨rfl, by omega⟩, if_pos e]
                  exact hg2 j (by omega)
                · rw [if_neg (fun z => e (by omega)), if_neg (fun z => e (by omega)), if_neg e]
                  exact hg2 t ht
              · unfold up1
                split
                · exact ok2 j (by omega)
                · exact ok2 t ht
      exact inner p (Nat.le_refl p) M1 g hW1 f1 hg okg rfl
  exact loop nn 0 (Nat.zero_add _) M f _ hW FrC.rf hf okf rfl
/-- cells of the halving -/
def rHalS (a j : Nat) : Prop := (a = 605 ∧ (j = 50 ∨ j = 63 ∨ j = 64 ∨ j = 69)) ∨ a = 643 ∨ a = 644
theorem bin1_cd {k : Int32} {x y : Int64} : ((addS k x y).1 = 0 ∨ (addS k x y).1 = 6) := by
  by_cases hr : isRk k
  · rw [addS_r hr]
    show infJ k _ = 0 ∨ infJ k _ = 6
    unfold infJ
    by_cases z : P_X3_isInfinite k (sumJ k x y)
    · rw [iT_t z]; exact Or.inr rfl
    · rw [iT_f z]; exact Or.inl rfl
  · rw [addS_w hr]; exact Or.inl rfl
theorem c_half13 {v nn : Nat} {k : Int32} {X : Nat → Int64} (hW : Wf M) (hk : isK k) (v8 : v < 8) (hnn : 1 ≤ nn ∧ nn ≤ 32) (hkM : gI M 624 v = k) (hlM : gI M 625 v = nI nn) (hX : LR M 643 644 k nn X) (okX : ∀ j, j < nn → okJ k (X j))
    (h0 : (hrun k nn nn X).1 = 0 → ∀ M', Wf M' → FrC (fun a j => rHalS a j ∨ ((a = 626 ∨ a = 627) ∧ j = 32 * v)) M M' → VR k (gL M' 626 (32 * v)) (gD M' 627 (32 * v)) ((hrun k nn nn X).2.2 0) → gI M' 605 69 = 1 → gI M' 605 50 = gI M 605 50 → K (some (.int 0)) M')
    (h1 : (hrun k nn nn X).1 ≠ 0 → ∀ M', Wf M' → FrC rHalS M M' → gI M' 605 50 = nI (hrun k nn nn X).2.1 → K (some (.int (hrun k nn nn X).1)) M') : sp_X13_half [.ref 605, .int (nI v)] M K := by
  refine wX13_half hW (fun {G} hc => ?_)
  rw [nI_clamp (show v < 2 ^ 31 by omega), hlM]
  refine ⟨vpN v8 (by decide), ?_⟩
  have outer : ∀ fu m : Nat, 1 ≤ m → m ≤ fu → m ≤ nn → ∀ (M1 : Mem) (L : Nat → Int64) (o3 o4 : Option Value), Wf M1 → FrC (fun a j => (a = 605 ∧ (j = 63 ∨ j = 64)) ∨ a = 643 ∨ a = 644) M M1 → LR M1 643 644 k nn L → (∀ j, j < nn → okJ k (L j)) → hrun k fu m L = hrun k nn nn X → G 7 [some (.ref 605), some (.int (nI v)), some (.int (nI m)), o3, o4] [] M1 := by
    intro fu
    induction fu with
    | zero => intro m h1 h2; omega
    | succ fu ih =>
      intro m m1 m2 m3 M1 L o3 o4 hW1 f1 hL okL hR
      have e : hrun k (fu + 1) m L = if m ≤ 1 then (0, 0, L) else if (hin k ((m + 1) / 2) (m - (m + 1) / 2) 0 L).1 = 0 then hrun k fu ((m + 1) / 2) (hin k ((m + 1) / 2) (m - (m + 1) / 2) 0 L).2.2 else hin k ((m + 1) / 2) (m - (m + 1) / 2) 0 L := rfl
      rw [e] at hR
      refine eX13_half_7 hc hW1 ⟨fun le => ?_, fun gt => ?_⟩
      · have le : m ≤ 1 := (nI_leI (b := 1) (by omega) (by decide)).mp le
        rw [if_pos le] at hR
        rw [← hR] at h0
        unfold q_X13_lay m_X13_lay
        have ea : (32 : Int32) * nI v = nI (32 * v) := by rw [show (32 : Int32) = nI 32 from rfl, pk_mul]
        rw [ea, nI_clamp (show 32 * v < 2 ^ 31 by omega)]
        have f3 : FrC (fun a j => rHalS a j ∨ ((a = 626 ∨ a = 627) ∧ j = 32 * v)) M1 (uI (uD (uL M1 626 (32 * v) (gL M1 643 0)) 627 (32 * v) (gD M1 644 0)) 605 69 1) := ((FrC_uL (Or.inr ⟨Or.inl rfl, rfl⟩)).tr (FrC_uD (Or.inr ⟨Or.inr rfl, rfl⟩))).tr (FrC_uI (Or.inl (Or.inl ⟨rfl, by omega⟩)))
        refine ⟨⟨vpN (by omega) (by decide), vpN (by omega) (by decide)⟩, h0 rfl _ (f3.wf hW1) ((f1.mono (fun a j z => Or.inl (by unfold rHalS; omega))).tr f3) ?_ ?_ ?_⟩
        · rw [gL_uI, gD_uI, gL_uD, gL_uL, gD_uD, if_pos ⟨rfl, rfl⟩, if_pos ⟨rfl, rfl⟩]
          exact hL 0 (by omega)
        · rw [gI_uI, if_pos ⟨rfl, rfl⟩]
        · rw [gI_uI, if_neg (by decide), gI_uD, gI_uL, f1.i (by omega)]
      · have gt : ¬ m ≤ 1 := fun z => gt ((nI_leI (b := 1) (by omega) (by decide)).mpr z)
        rw [if_neg gt] at hR
        have eh : (nI m + (1 : Int32)) / (2 : Int32) = nI ((m + 1) / 2) := by rw [nI_1, show (2 : Int32) = nI 2 from rfl, pk_div (by omega) (by omega) (by omega)]
        rw [eh]
        have inner : ∀ q p : Nat, p + q = m - (m + 1) / 2 → ∀ (M2 : Mem) (L2 : Nat → Int64), Wf M2 → FrC (fun a j => (a = 605 ∧ (j = 63 ∨ j = 64)) ∨ a = 643 ∨ a = 644) M M2 → LR M2 643 644 k nn L2 → (∀ j, j < nn → okJ k (L2 j)) → hin k ((m + 1) / 2) q p L2 = hin k ((m + 1) / 2) (m - (m + 1) / 2) 0 L → G 21 [some (.ref 605), some (.int (nI v)), some (.int (nI m)), some (.int (nI ((m + 1) / 2))), some (.int (nI p))] [] M2 := by
          intro q
          induction q with
          | zero =>
            intro p hp M2 L2 hW2 f2 hL2 ok2 hI
            have ei : hin k ((m + 1) / 2) 0 p L2 = (0, p, L2) := rfl
            rw [ei] at hI
            rw [← hI] at hR
            refine eX13_half_21 hc hW2 ?_
            rw [pk_sub (by omega)]
            exact ⟨fun _ => ih ((m + 1) / 2) (by omega) (by omega) (by omega) M2 L2 _ _ hW2 f2 hL2 ok2 hR, fun z => absurd (nI_le (by omega) (by omega)) z⟩
          | succ q ih2 =>
            intro p hp M2 L2 hW2 f2 hL2 ok2 hI
            have ei : hin k ((m + 1) / 2) (q + 1) p L2 = if (addS k (L2 p) (L2 (p + (m + 1) / 2))).1 = 0 then hin k ((m + 1) / 2) q (p + 1) (up1 L2 p (addS k (L2 p) (L2 (p + (m + 1) / 2))).2) else ((addS k (L2 p) (L2 (p + (m + 1) / 2))).1, p, L2) := rfl
            rw [ei] at hI
            refine eX13_half_21 hc hW2 ?_
            obtain ⟨w1, w2⟩ := lane_vp (j := p) (by omega)
            obtain ⟨w3, w4⟩ := lane_vp (j := p + (m + 1) / 2) (by omega)
            rw [pk_sub (by omega), nI_add, w2, w4, nI_clamp (show v < 2 ^ 31 by omega), f2.i (by omega), hkM]
            refine ⟨fun z => absurd ((nI_leI (by omega) (by omega)).mp z) (by omega), fun _ => ⟨vpN v8 (by decide), w1, w1, w3, w3, ?_⟩⟩
            refine c_make13 (o := 1) hW2 hk (ok2 p (by omega)) (ok2 _ (by omega)) (hL2 p (by omega)) (hL2 _ (by omega)) (by omega) (fun _ => by omega) (fun M3 hW3 f3 hv3 => rX13_half_29_26 hc hW3 ?_)
            have eb : binS 1 k (L2 p) (L2 (p + (m + 1) / 2)) = addS k (L2 p) (L2 (p + (m + 1) / 2)) := rfl
            rw [eb] at hv3 ⊢
            have hcd := bin1_cd (k := k) (x := L2 p) (y := L2 (p + (m + 1) / 2))
            refine ⟨fun le => ?_, fun gt6 => ?_⟩
            · have z0 : (addS k (L2 p) (L2 (p + (m + 1) / 2))).1 = 0 := hcd.resolve_right (fun y => by rw [y] at le; exact absurd le (by decide))
              rw [if_pos z0] at hI
              rw [w2, nI_1]
              have f4 : FrC (fun a j => (a = 605 ∧ (j = 63 ∨ j = 64)) ∨ a = 643 ∨ a = 644) M2 (uD (uL M3 643 p (gL M3 605 63)) 644 p (gD M3 605 64)) := (f3.mono (fun a j z => Or.inl z)).tr ((FrC_uL (Or.inr (Or.inl rfl))).tr (FrC_uD (Or.inr (Or.inr rfl))))
              refine ⟨w1, w1, ih2 (p + 1) (by omega) _ _ (f4.wf hW2) (f2.tr f4) (fun t ht => ?_) (fun t ht => ?_) hI⟩
              · unfold up1
                rw [gL_uD, gL_uL, gD_uD, gD_uL]
                by_cases e : t = p
                · rw [if_pos ⟨rfl, e⟩, if_pos ⟨rfl, e⟩, if_pos e]
                  exact hv3 z0
                · rw [if_neg (fun z => e z.2), if_neg (fun z => e z.2), if_neg e, f3.l (by unfold rwS; omega), f3.d (by unfold rwS; omega)]
                  exact hL2 t ht
              · unfold up1
                split
                · exact okJ_add z0
                · exact ok2 t ht
            · have z6 : (addS k (L2 p) (L2 (p + (m + 1) / 2))).1 = 6 := hcd.resolve_left (fun y => gt6 (by rw [y]; decide))
              have nz : ¬ (addS k (L2 p) (L2 (p + (m + 1) / 2))).1 = 0 := by rw [z6]; decide
              rw [if_neg nz, z6] at hI
              rw [← hI, if_neg (show ¬ (6 : Int32) = 0 by decide)] at hR
              rw [← hR] at h1
              unfold m_X13_failed
              have f4 : FrC rHalS M (uI M3 605 50 (nI p)) := ((f2.mono (fun a j z => by unfold rHalS; omega)).tr (f3.mono (fun a j z => by unfold rwS at z; unfold rHalS; omega))).tr (FrC_uI (by unfold rHalS; omega))
              exact h1 (show ¬ (6 : Int32) = 0 by decide) _ (f4.wf hW) f4 (by rw [gI_uI, if_pos ⟨rfl, rfl⟩])
        exact inner _ 0 (Nat.zero_add _) M1 L hW1 f1 hL okL rfl
  exact outer nn nn hnn.1 (Nat.le_refl _) (Nat.le_refl _) M X _ _ hW FrC.rf hX okX rfl
end
end RSORT
