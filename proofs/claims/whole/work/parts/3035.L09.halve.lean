section HALVE
theorem infJ_fin {k : Int32} (hk : isRk k) {s : Bool} {n : Nat} (h : n ≤ iN k) (h0 : infJ k (bk k s n) = 0) : finJ k (bk k s n) := by
  refine finJ_bk hk ?_
  rcases Nat.lt_or_ge n (iN k) with q | q
  · exact q
  · unfold infJ at h0
    rw [iT_t ((inf_bk hk h).mpr q)] at h0
    exact absurd h0 (by decide)
theorem low_idem (k : Int32) (z : Int64) : f_X3_lowBits k (f_X3_lowBits k z) = f_X3_lowBits k z := by
  unfold f_X3_lowBits
  by_cases h0 : k = 0
  · simp only [if_pos h0, Int32.toInt32_toInt64, Int8.toInt8_toInt32]
  by_cases h1 : k = 1
  · simp only [if_neg h0, if_pos h1, Int32.toInt32_toInt64, Int16.toInt16_toInt32]
  by_cases h2 : k = 2
  · simp only [if_neg h0, if_neg h1, if_pos h2, Int32.toInt32_toInt64]
    congr 2
    refine UInt32.toNat_inj.mp ?_
    show ((z.toInt32.toUInt32 % 65536) % 65536).toNat = (z.toInt32.toUInt32 % 65536).toNat
    rw [UInt32.toNat_mod, UInt32.toNat_mod]
    exact Nat.mod_mod _ _
  by_cases h3 : k = 3
  · simp only [if_neg h0, if_neg h1, if_neg h2, if_pos h3, Int32.toInt32_toInt64]
  · simp only [if_neg h0, if_neg h1, if_neg h2, if_neg h3]
noncomputable def addS (k : Int32) (x y : Int64) : Int32 × Int64 := iT (isRk k) (reaS 1 k x y) (whoS 1 k x y)
theorem addS_r {k : Int32} {x y : Int64} (h : isRk k) : addS k x y = (infJ k (sumJ k x y), sumJ k x y) := iT_t h
theorem addS_w {k : Int32} {x y : Int64} (h : ¬ isRk k) : addS k x y = (0, f_X3_lowBits k (x + y)) := iT_f h
theorem okJ_add {k : Int32} {x y : Int64} (h0 : (addS k x y).1 = 0) : okJ k (addS k x y).2 := by
  by_cases h : isRk k
  · rw [addS_r h] at h0 ⊢
    exact ⟨fun _ => infJ_fin h pm_le h0, fun q => absurd h q⟩
  · rw [addS_w h]
    exact ⟨fun q => absurd q h, fun _ => low_idem k _⟩
theorem added_f {k : Int32} (hk : isK k) {x y : Int64} : f_X2_added k x y = (addS k x y).2 := by
  unfold f_X2_added
  by_cases h : isRk k
  · rw [iT_t ((isK_real hk).mpr h), addS_r h]; rfl
  · rw [iT_f (fun q => h ((isK_real hk).mp q)), addS_w h]
theorem added_m {k : Int32} (hk : isK k) {x y : Int64} {M : Mem} : m_X2_added k x y M = fM (addS k x y).1 M := by
  unfold m_X2_added
  by_cases h : isRk k
  · rw [iT_t ((isK_real hk).mpr h), addS_r h, rg_fM]
  · rw [iT_f (fun q => h ((isK_real hk).mp q)), addS_w h]; exact fM_0.symm
theorem added_q {k : Int32} (hk : isK k) {x y : Int64} (hx : okJ k x) (hy : okJ k y) : q_X2_added k x y := fun q => ⟨(isK_real hk).mp q, hx.1 ((isK_real hk).mp q), hy.1 ((isK_real hk).mp q)⟩
theorem fM_k {f : Int32} {M : Mem} {a k : Nat} (h : ¬ (a = 404 ∧ k = 9)) : gI (fM f M) a k = gI M a k := by
  unfold fM
  split
  · rfl
  · exact uI_else h
theorem fM_9 {f : Int32} {M : Mem} (h : gI M 404 9 = 0) : gI (fM f M) 404 9 = f := by
  unfold fM
  by_cases q : f = 0
  · rw [if_pos q, h, q]
  · rw [if_neg q, rI_eq]
noncomputable def hin (k : Int32) (h : Nat) : Nat → Nat → (Nat → Int64) → Int32 × Nat × (Nat → Int64)
  | 0, i, L => (0, i, L)
  | j + 1, i, L => if (addS k (L i) (L (i + h))).1 = 0 then hin k h j (i + 1) (up1 L i (addS k (L i) (L (i + h))).2) else ((addS k (L i) (L (i + h))).1, i, L)
noncomputable def hrun (k : Int32) : Nat → Nat → (Nat → Int64) → Int32 × Nat × (Nat → Int64)
  | 0, _, L => (0, 0, L)
  | fu + 1, n, L => if n ≤ 1 then (0, 0, L) else if (hin k ((n + 1) / 2) (n - (n + 1) / 2) 0 L).1 = 0 then hrun k fu ((n + 1) / 2) (hin k ((n + 1) / 2) (n - (n + 1) / 2) 0 L).2.2 else hin k ((n + 1) / 2) (n - (n + 1) / 2) 0 L
theorem c_halve {r0 n : Nat} {k : Int32} {X f : Nat → Int64} {M : Mem} {K : RT} (hW : Wf M) (hr0 : gR M 443 0 = some r0) (kr0 : (Sh r0).1 = 5) (hk : gI M r0 0 = k) (hkK : isK k) (hn : gI M r0 1 = nI n ∧ 1 ≤ n ∧ n ≤ 32) (hX : ∀ j, j < n → gL M 444 j = X j) (hok : ∀ j, j < n → okJ k (X j)) (n1 : ¬ 444 = r0 + 1) (n5 : ¬ r0 = 404) (n9 : ¬ r0 + 1 = 404) (hf0 : gI M 404 9 = 0) (hf : ∀ j, j < n → gL M (r0 + 1) j = f j)
    (h : ∀ M', Wf M' → M4 (fun b => b = 444 ∨ b = r0 + 1) M M' → gR M' = gR M → (∀ j, j < n → gL M' (r0 + 1) j = if (hrun k n n X).1 = 0 then up1 f 0 ((hrun k n n X).2.2 0) j else f j) → gI M' 404 2 = (if (hrun k n n X).1 = 0 then gI M 404 2 else nI (hrun k n n X).2.1) → gI M' 404 3 = (if (hrun k n n X).1 = 0 then 1 else gI M 404 3) → gI M' 404 9 = (hrun k n n X).1 → K none M') : sp_X2_halve [.ref 404] M K := by
  refine ⟨Nat.le_of_ble_eq_true rfl, fun G hc => ?_⟩
  rw [hW.1] at hc
  obtain ⟨hn1, hn2, hn3⟩ := hn
  have outer : ∀ fu c L M1, c ≤ fu → 1 ≤ c → c ≤ n → Wf M1 → M4 (fun b => b = 444) M M1 → gR M1 = gR M → gI M1 = gI M → (∀ q, q < c → gL M1 444 q = L q ∧ okJ k (L q)) → hrun k fu c L = hrun k n n X → ∀ {o3 o4 : Option Value}, G 20 [some (.ref 404), some (.int k), some (.int (nI c)), o3, o4] [] M1 := by
    intro fu
    induction fu with
    | zero => intro c L M1 h1 h2; omega
    | succ fu ih =>
      intro c L M1 h1 h2 h3 hW1 hm1 hR1 hI1 hL he o3 o4
      have he : (if c ≤ 1 then ((0 : Int32), 0, L) else if (hin k ((c + 1) / 2) (c - (c + 1) / 2) 0 L).1 = 0 then hrun k fu ((c + 1) / 2) (hin k ((c + 1) / 2) (c - (c + 1) / 2) 0 L).2.2 else hin k ((c + 1) / 2) (c - (c + 1) / 2) 0 L) = hrun k n n X := he
      have e2 : (nI c + 1) / (2 : Int32) = nI ((c + 1) / 2) := by rw [nI_1]; exact pk_div (by omega) (by decide) (by decide)
      refine eX2_halve_20 hc hW1 ?_
      rw [rR_of ((congrFun (congrFun hR1 443) 0).trans hr0), e2]
      refine ⟨fun q => ?_, fun q => ?_⟩
      · have q : c ≤ 1 := (nI_leI (b := 1) (by omega) (by decide)).mp q
        rw [if_pos q] at he
        rw [← he] at h
        refine h _ (Wf_uI (Wf_uL hW1)) ?_ hR1 (fun j hj => ?_) ?_ ?_ ?_
        · refine ((hm1.mono (fun _ z => Or.inl z)).tr ?_).tr (M4_uI (by decide))
          exact M4_uL (Or.inr rfl)
        · rw [if_pos rfl]
          show gL (uL M1 (r0 + 1) 0 _) (r0 + 1) j = _
          unfold up1
          by_cases e : j = 0
          · subst e; rw [rL_eq, if_pos rfl]; exact (hL 0 (by omega)).1
          · rw [rL_k e, if_neg e, hm1.1.L (show ¬ (r0 + 1 = 404 ∨ r0 + 1 = 444) by omega)]; exact hf j hj
        · rw [if_pos rfl, rI_k (by decide)]; show gI M1 404 2 = _; rw [hI1]
        · rw [if_pos rfl, rI_eq]
        · rw [rI_k (by decide)]; show gI M1 404 9 = _; rw [hI1]; exact hf0
      · have q : ¬ c ≤ 1 := fun z => q ((nI_leI (b := 1) (by omega) (by decide)).mpr z)
        rw [if_neg q] at he
        have inner : ∀ j i L2 M2, i + j = c - (c + 1) / 2 → Wf M2 → M4 (fun b => b = 444) M M2 → gR M2 = gR M → gI M2 = gI M → (∀ q, q < c → gL M2 444 q = L2 q ∧ okJ k (L2 q)) → hin k ((c + 1) / 2) j i L2 = hin k ((c + 1) / 2) (c - (c + 1) / 2) 0 L → G 34 [some (.ref 404), some (.int k), some (.int (nI c)), some (.int (nI ((c + 1) / 2))), some (.int (nI i))] [] M2 := by
          intro j
          induction j with
          | zero =>
            intro i L2 M2 hi hW2 hm2 hR2 hI2 hL2 he2
            have he2 : ((0 : Int32), i, L2) = hin k ((c + 1) / 2) (c - (c + 1) / 2) 0 L := he2
            rw [← he2, if_pos rfl] at he
            refine eX2_halve_34 hc hW2 ?_
            rw [e2, pk_sub (by omega)]
            refine ⟨fun _ => ih ((c + 1) / 2) L2 M2 (by omega) (by omega) (by omega) hW2 hm2 hR2 hI2 (fun q hq => hL2 q (by omega)) he, fun z => absurd ((nI_leI (by omega) (by omega)).mpr (by omega)) z⟩
          | succ j ihj =>
            intro i L2 M2 hi hW2 hm2 hR2 hI2 hL2 he2
            have he2 : (if (addS k (L2 i) (L2 (i + (c + 1) / 2))).1 = 0 then hin k ((c + 1) / 2) j (i + 1) (up1 L2 i (addS k (L2 i) (L2 (i + (c + 1) / 2))).2) else ((addS k (L2 i) (L2 (i + (c + 1) / 2))).1, i, L2)) = hin k ((c + 1) / 2) (c - (c + 1) / 2) 0 L := he2
            refine eX2_halve_34 hc hW2 ?_
            rw [pk_sub (by omega), nI_add, nI_clamp (by omega), nI_clamp (by omega), (hL2 i (by omega)).1, (hL2 (i + (c + 1) / 2) (by omega)).1, added_f hkK, added_m hkK, fM_9 (by rw [hI2]; exact hf0), nI_1 i]
            refine ⟨fun z => absurd ((nI_leI (by omega) (by omega)).mp z) (by omega), fun _ => ⟨vpN (by omega) (by decide), vpN (by omega) (by decide), added_q hkK (hL2 i (by omega)).2 (hL2 (i + (c + 1) / 2) (by omega)).2, vpN (by omega) (by decide), fun z => ?_, fun z => ?_⟩⟩
            · rw [z, fM_0]
              rw [if_pos z] at he2
              refine ihj (i + 1) _ _ (by omega) (Wf_uL hW2) (hm2.tr (M4_uL rfl)) hR2 hI2 (fun q hq => ?_) he2
              unfold up1
              by_cases e : q = i
              · subst e; rw [rL_eq, if_pos rfl]; exact ⟨rfl, okJ_add z⟩
              · rw [rL_k e, if_neg e]; exact hL2 q hq
            · rw [if_neg z] at he2
              rw [← he2, if_neg z] at he
              rw [← he] at h
              refine h _ (Wf_uI (Wf_uL (Wf_fM hW2))) ?_ ?_ (fun q hq => ?_) ?_ ?_ ?_
              · refine ((hm2.mono (fun _ z => Or.inl z)).tr ?_).tr (M4_uI (by decide))
                unfold fM
                rw [if_neg z]
                exact (M4_uI (by decide)).tr (M4_uL (Or.inl rfl))
              · unfold fM; rw [if_neg z]; exact hR2
              · rw [if_neg z]
                unfold fM
                rw [if_neg z]
                show gL (uL _ 444 i _) (r0 + 1) q = _
                rw [rL_a (fun y => n1 y.symm)]
                show gL M2 (r0 + 1) q = _
                rw [hm2.1.L (show ¬ (r0 + 1 = 404 ∨ r0 + 1 = 444) by omega)]
                exact hf q hq
              · rw [if_neg z, rI_eq]
              · rw [if_neg z, rI_k (by decide)]
                have e : gI (fM (addS k (L2 i) (L2 (i + (c + 1) / 2))).1 M2) 404 3 = gI M2 404 3 := fM_k (by decide)
                exact e.trans (congrFun (congrFun hI2 404) 3)
              · rw [rI_k (by decide)]
                exact fM_9 (M := M2) (by rw [hI2]; exact hf0)
        exact inner (c - (c + 1) / 2) 0 L M1 (by omega) hW1 hm1 hR1 hI1 hL rfl
  refine eX2_halve hc hW ?_
  rw [rR_of hr0, hk, hn1]
  exact outer n n X M (Nat.le_refl _) hn2 (Nat.le_refl _) hW M4.rf rfl rfl (fun q hq => ⟨hX q hq, hok q hq⟩) rfl
end HALVE
