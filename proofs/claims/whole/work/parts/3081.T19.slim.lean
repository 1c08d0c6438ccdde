section SLIM
section
variable {M M' : Mem} {K : RT} {X : Mem → Prop} {s : SG} {Fl : Mem → Nat → (Nat → Nat → Int64) → Prop} {p n : Nat} {c : Nat → Nat → Int64}
theorem c_opP2 {i : Nat} (hW : Wf M) (hp : (Sh p).1 = 3) (hP : PRG M p n c) (hV : ∀ j, j < n → VI n (c j)) (hi : i < n) (h : K (some (.ref (100000 + cn (c i) 0))) M) : sp_X6_op [.ref p, .int (nI i)] M K := by
  obtain ⟨hn, h0, hc⟩ := hP
  obtain ⟨o1, o2⟩ := (hV i hi).o
  have e : (nI i * (6 : Int32)) = nI (i * 6) := pk_mul i 6
  have g : gL M (p + 1) (i * 6) = c i 0 := hc i hi 0 (by decide)
  refine wX6_op hW hp ?_
  rw [e, nI_clamp (by omega), g, o2, lN_toI, nI_clamp (by omega)]
  exact ⟨vpN (by omega) (by decide), vpN o1 (by decide), h⟩
theorem cell_is {i w : Nat} (hP : PRG M p n c) (hi : i < n) (hw : w < 6) : q_X6_cell p (nI i) (nI w) M ∧ f_X6_cell p (nI i) (nI w) M = c i w := by
  obtain ⟨hn, h0, hc⟩ := hP
  have e : (nI i * (6 : Int32)) + nI w = nI (i * 6 + w) := by rw [show (6 : Int32) = nI 6 from rfl, pk_mul, nI_add]
  unfold q_X6_cell f_X6_cell
  rw [e, nI_clamp (by omega)]
  exact ⟨vpN (by omega) (by decide), hc i hi w hw⟩
theorem c_lead {i : Nat} (hW : Wf M) (hp : (Sh p).1 = 3) (hP : PRG M p n c) (hV : ∀ j, j < n → VI n (c j)) (hi : i < n) (h : K (some (.int (if 0 < leadN (cn (c i) 0) then nI (ldV (c i)) else -1))) M) : sp_X6_lead [.ref p, .int (nI i)] M K := by
  obtain ⟨o1, o2⟩ := (hV i hi).o
  refine wX6_lead hW hp (fun {G} hc => c_opP2 hW hp hP hV hi (rX6_lead_0_2 hc hW hp (isOp_n o1) (c_leadCell hW o1 (rX6_lead_0_3 hc hW hp ?_))))
  have l3 := leadN_le (o := cn (c i) 0)
  by_cases z : 0 < leadN (cn (c i) 0)
  · rw [if_pos z] at h
    refine ⟨fun w => absurd ((nI_leI (b := 0) (by omega) (by decide)).mp w) (by omega), fun _ => ?_⟩
    obtain ⟨c1, c2⟩ := cell_is hP hi (w := leadN (cn (c i) 0)) (by omega)
    refine ⟨c1, ?_⟩
    have hn := hP.1
    rw [c2, ((hV i hi).ld z (by omega)).2, lN_toI]
    exact h
  · rw [if_neg z] at h
    exact ⟨fun _ => h, fun w => absurd ((nI_leI (b := 0) (by omega) (by decide)).mpr (by omega)) w⟩
theorem c_isLedTo {q : Nat} (hW : Wf M) (hp : (Sh p).1 = 3) (hP : PRG M p n c) (hV : ∀ j, j < n → VI n (c j)) (hq : q < 2 ^ 31) (h : K (some (.int (pI (ledTo n c q)))) M) : sp_X6_isLedTo [.ref p, .int (nI q)] M K := by
  obtain ⟨hn, h0, hcc⟩ := hP
  refine wX6_isLedTo hW hp (fun {G} hc => ?_)
  have loop : ∀ j i : Nat, i + j = n → (∀ k, k < i → ¬ (0 < leadN (cn (c k) 0) ∧ ldV (c k) = q)) → G 2 [some (.ref p), some (.int (nI q)), some (.int (nI i))] [] M := by
    intro j
    induction j with
    | zero =>
      intro i hi hs
      refine eX6_isLedTo_2 hc hW hp ?_
      rw [h0]
      refine ⟨fun _ => ?_, fun z => absurd (nI_le (by omega) (by omega)) z⟩
      rw [pI_f (fun ⟨k, k1, k2⟩ => hs k (by omega) k2)] at h
      exact h
    | succ j ih =>
      intro i hi hs
      refine eX6_isLedTo_2 hc hW hp ?_
      rw [h0]
      refine ⟨fun z => absurd ((nI_leI (by omega) (by omega)).mp z) (by omega), fun _ => c_lead hW hp ⟨hn, h0, hcc⟩ hV (by omega) (rX6_isLedTo_10_2 hc hW hp ?_)⟩
      have next : ¬ (0 < leadN (cn (c i) 0) ∧ ldV (c i) = q) → G 2 [some (.ref p), some (.int (nI q)), some (.int (nI i + (1 : Int32)))] [] M := fun w => by
        rw [nI_1]
        exact ih (i + 1) (by omega) (fun k hk => by
          by_cases y : k = i
          · rw [y]; exact w
          · exact hs k (by omega))
      by_cases z : 0 < leadN (cn (c i) 0)
      · rw [if_pos z]
        have hld := (hV i (by omega)).ld z (by omega)
        rw [nI_eq (by omega) (by omega)]
        refine ⟨fun w => next (fun y => w y.2), fun w => ?_⟩
        rw [pI_t ⟨i, by omega, z, w⟩] at h
        exact h
      · rw [if_neg z]
        refine ⟨fun _ => next (fun y => z y.1), fun w => ?_⟩
        have : (-1 : Int32) < 0 := by decide
        rw [w] at this
        exact absurd this (nI_pos hq)
  exact loop n 0 (by omega) (fun k hk => absurd hk (by omega))
theorem sw_slim : ∀ o ∈ List.range 68, (Int32.ofNat (swT.getD o 0) = 1 ↔ o = 0) ∧ (Int32.ofNat (swT.getD o 0) = 2 ↔ o = 53) ∧ (Int32.ofNat (swT.getD o 0) = 3 ↔ o = 50) ∧ (Int32.ofNat (swT.getD o 0) = 4 ↔ o = 49) := by decide +kernel
theorem c_needless {i : Nat} (hW : Wf M) (hp : (Sh p).1 = 3) (hP : PRG M p n c) (hV : ∀ j, j < n → VI n (c j)) (hi : i < n) (h : K (some (.int (nI (needN n c i)))) M) : sp_X6_needlessAt [.ref p, .int (nI i)] M K := by
  obtain ⟨o1, o2⟩ := (hV i hi).o
  have hn := hP.1
  have h0 := hP.2.1
  refine wX6_needlessAt hW hp (fun {G} hc => c_opP2 hW hp hP hV hi (rX6_needlessAt_0_2 hc hW hp (isOp_n o1) ⟨fun z => ?_, fun z => ?_⟩))
  · have z : ¬ cn (c i) 0 = 59 := by omega
    rw [h0, nI_1]
    unfold needN at h
    rw [if_neg z] at h
    have no : ¬ (i + 1 < n ∧ cn (c (i + 1)) 0 = cn (c i) 0 ∧ c i 1 = c (i + 1) 1 ∧ ¬ ledTo n c (i + 1)) → K (some (.int (0 : Int32))) M := fun y => by rw [iT_f y] at h; exact h
    refine ⟨fun w => no (fun y => by have := (nI_leI (by omega) (by omega)).mp w; omega), fun w => ?_⟩
    have hi1 : i + 1 < n := by
      rcases Nat.lt_or_ge (i + 1) n with y | y
      · exact y
      · exact absurd (nI_le y (by omega)) w
    obtain ⟨a1, a2⟩ := cell_is hP hi (w := 1) (by decide)
    obtain ⟨b1, b2⟩ := cell_is hP hi1 (w := 1) (by decide)
    obtain ⟨a3, a4⟩ := cell_is hP hi (w := 2) (by decide)
    obtain ⟨b3, b4⟩ := cell_is hP hi1 (w := 2) (by decide)
    refine c_opP2 hW hp hP hV hi1 (rX6_needlessAt_40_4 hc hW hp (isOp_n o1) (isOp_n (hV _ hi1).o.1) ⟨fun y => no (fun x => y (by omega)), fun y => ?_⟩)
    have y : cn (c (i + 1)) 0 = cn (c i) 0 := by omega
    rw [nI_1]
    refine ⟨a1, b1, ?_⟩
    rw [show (1 : Int32) = nI 1 from rfl, a2, b2]
    refine ⟨fun x => no (fun t => x t.2.2.1), fun x => c_isLedTo hW hp hP hV (by omega) (rX6_needlessAt_69_4 hc hW hp (isOp_n o1) ⟨fun t => ?_, fun t => no (fun r => t (pI_f r.2.2.2))⟩)⟩
    have t : ¬ ledTo n c (i + 1) := pI_0.mp t
    rw [iT_t ⟨hi1, y, x, t⟩] at h
    have sw := sw_slim _ (List.mem_range.mpr o1)
    rw [op_c]
    rw [sw.1, sw.2.1, sw.2.2.1, sw.2.2.2, nI_1]
    refine ⟨fun r => by rw [if_pos (Or.inl r)] at h; exact h, fun r1 => ⟨fun r => by rw [if_pos (Or.inr (Or.inl r))] at h; exact h, fun r2 => ⟨fun r => by rw [if_pos (Or.inr (Or.inr r))] at h; exact h, fun r3 => ?_⟩⟩⟩
    rw [if_neg (fun q => by omega)] at h
    refine ⟨fun r => ⟨a1, a3, ?_⟩, fun r => by rw [if_neg (fun q => r q.1)] at h; exact h⟩
    rw [show (1 : Int32) = nI 1 from rfl, show (2 : Int32) = nI 2 from rfl, a2, a4]
    refine ⟨fun q => by rw [if_neg (fun v => q v.2.1)] at h; exact h, fun q => ⟨b1, b3, ?_⟩⟩
    rw [b2, b4]
    refine ⟨fun v => by rw [if_neg (fun u => v u.2.2)] at h; exact h, fun v => by rw [if_pos ⟨r, q, v⟩] at h; exact h⟩
  · have z : cn (c i) 0 = 59 := by omega
    unfold needN at h
    rw [if_pos z] at h
    refine c_lead hW hp hP hV hi ?_
    have e1 : 0 < leadN (cn (c i) 0) := by rw [z]; decide
    rw [if_pos e1]
    refine rX6_needlessAt_13_2 hc hW ?_
    have hld := (hV i hi).ld e1 (by omega)
    rw [nI_1, nI_eq (by omega) (by omega)]
    exact ⟨fun w => by rw [if_neg w] at h; exact h, fun w => by rw [if_pos w] at h; exact h⟩
theorem c_remove {i m : Nat} (hW : Wf M) (hp : (Sh p).1 = 3) (hP : PRG M p n c) (hV : ∀ j, j < n → VI n (c j)) (him : i + m ≤ n) (h : ∀ M', Wf M' → Mo (fun b => b = p ∨ b = p + 1) M M' → gI M' p 1 = gI M p 1 → PRG M' p (n - m) (remC c i m) → K none M') : sp_X6_remove [.ref p, .int (nI i), .int (nI m)] M K := by
  obtain ⟨hn, h0, hcc⟩ := hP
  have e1 : (nI i + nI m) * (6 : Int32) = nI ((i + m) * 6) := by rw [nI_add, show (6 : Int32) = nI 6 from rfl, pk_mul]
  have e2 : nI i * (6 : Int32) = nI (i * 6) := pk_mul i 6
  have e3 : nI n * (6 : Int32) - nI ((i + m) * 6) = nI (n * 6 - (i + m) * 6) := by rw [show nI n * (6 : Int32) = nI (n * 6) from pk_mul n 6, pk_sub (by omega)]
  refine wX6_remove hW hp (fun {G} hc => ?_)
  rw [h0, e1, e2, e3, nI_clamp (by omega), nI_clamp (by omega), nI_clamp (by omega), pk_sub (by omega)]
  refine ⟨⟨nI_pos (by omega), nI_pos (by omega), nI_pos (by omega), by omega, by omega⟩, ?_⟩
  generalize hM1 : uI (bL M (p + 1) (va_cpy (gL M (p + 1)) (gL M (p + 1)) ((i + m) * 6) (i * 6) (n * 6 - (i + m) * 6))) p 0 (nI (n - m)) = M1
  have hm1 : Mo (fun b => b = p ∨ b = p + 1) M M1 := by
    subst hM1
    exact (Mo_bL (S := fun b => b = p ∨ b = p + 1) (Or.inr rfl)).tr (Mo_uI (Or.inl rfl))
  have hW1 : Wf M1 := by subst hM1; exact Wf_uI (Wf_bL hW)
  have g1 : gI M1 p 1 = gI M p 1 := by subst hM1; rw [rI_k (by decide)]; rfl
  have hP1 : PRG M1 p (n - m) (fun j => if j < i then c j else c (j + m)) := by
    refine ⟨by omega, by subst hM1; exact rI_eq, fun j hj w hw => ?_⟩
    subst hM1
    show gL (bL M (p + 1) _) (p + 1) (j * 6 + w) = _
    rw [gL_bL, if_pos rfl]
    unfold va_cpy
    show _ = (if j < i then c j else c (j + m)) w
    by_cases y : j < i
    · rw [if_neg (by omega), if_pos y]
      exact hcc j (by omega) w hw
    · rw [if_pos (by omega), if_neg y, ← hcc (j + m) (by omega) w hw]
      congr 1
      omega
  have hV1 : ∀ j, j < n - m → VI n ((fun j => if j < i then c j else c (j + m)) j) := by
    intro j hj
    show VI n (if j < i then c j else c (j + m))
    split
    · exact hV j (by omega)
    · exact hV (j + m) (by omega)
  generalize hc1 : (fun j => if j < i then c j else c (j + m)) = c1 at hP1 hV1
  have ec : remC c i m = fun j => adjR i m (c1 j) := by subst hc1; rfl
  -- one lead after the other
  have loop : ∀ q k : Nat, k + q = n - m → ∀ o3 o5 M2, Wf M2 → Mo (fun b => b = p ∨ b = p + 1) M M2 → gI M2 p 1 = gI M p 1 → PRG M2 p (n - m) (fun j => if j < k then adjR i m (c1 j) else c1 j) → G 45 [some (.ref p), some (.int (nI i)), some (.int (nI m)), o3, some (.int (nI k)), o5] [] M2 := by
    intro q
    induction q with
    | zero =>
      intro k hk o3 o5 M2 hW2 hm2 g2 hP2
      refine eX6_remove_45 hc hW2 hp ?_
      rw [hP2.2.1]
      refine ⟨fun _ => h M2 hW2 hm2 g2 ?_, fun z => absurd (nI_le (by omega) (by omega)) z⟩
      refine ⟨hP2.1, hP2.2.1, fun j hj w hw => ?_⟩
      rw [hP2.2.2 j hj w hw, ec]
      show (if j < k then adjR i m (c1 j) else c1 j) w = _
      rw [if_pos (by omega)]
    | succ q ih =>
      intro k hk o3 o5 M2 hW2 hm2 g2 hP2
      refine eX6_remove_45 hc hW2 hp ?_
      rw [hP2.2.1]
      have ek : (fun j => if j < k then adjR i m (c1 j) else c1 j) k = c1 k := if_neg (Nat.lt_irrefl k)
      obtain ⟨o1, o2⟩ := (hV1 k (by omega)).o
      have hld := fun z => (hV1 k (by omega)).ld z (show n < 2 ^ 31 by omega)
      have opA : ∀ {K : RT}, K (some (.ref (100000 + cn (c1 k) 0))) M2 → sp_X6_op [.ref p, .int (nI k)] M2 K := fun {K} hK => by
        have e : (nI k * (6 : Int32)) = nI (k * 6) := pk_mul k 6
        have g : gL M2 (p + 1) (k * 6) = (fun j => if j < k then adjR i m (c1 j) else c1 j) k 0 := hP2.2.2 k (by omega) 0 (by decide)
        rw [ek] at g
        refine wX6_op hW2 hp ?_
        rw [e, nI_clamp (by omega), g, o2, lN_toI, nI_clamp (by omega)]
        exact ⟨vpN (by omega) (by decide), vpN o1 (by decide), hK⟩
      have l3 := leadN_le (o := cn (c1 k) 0)
      have same : ¬ (0 < leadN (cn (c1 k) 0) ∧ i < ldV (c1 k)) → PRG M2 p (n - m) (fun j => if j < k + 1 then adjR i m (c1 j) else c1 j) := fun z => by
        refine ⟨hP2.1, hP2.2.1, fun j hj w hw => ?_⟩
        rw [hP2.2.2 j hj w hw]
        show (if j < k then adjR i m (c1 j) else c1 j) w = (if j < k + 1 then adjR i m (c1 j) else c1 j) w
        by_cases y : j = k
        · subst y
          rw [if_neg (Nat.lt_irrefl j), if_pos (by omega)]
          exact (if_neg (fun x => z ⟨x.1, x.2.2⟩)).symm
        · by_cases x : j < k
          · rw [if_pos x, if_pos (by omega)]
          · rw [if_neg x, if_neg (by omega)]
      refine ⟨fun z => absurd ((nI_leI (by omega) (by omega)).mp z) (by omega), fun _ => ?_⟩
      refine wX6_lead hW2 hp (fun {G2} hc2 => opA (rX6_lead_0_2 hc2 hW2 hp (isOp_n o1) (c_leadCell hW2 o1 (rX6_lead_0_3 hc2 hW2 hp ⟨fun z => ?_, fun z => ?_⟩))))
      · have z : ¬ 0 < leadN (cn (c1 k) 0) := fun y => absurd ((nI_leI (b := 0) (by omega) (by decide)).mp z) (by omega)
        refine rX6_remove_54_2 hc hW2 hp ⟨fun _ => ?_, fun y => absurd ?_ y⟩
        · rw [nI_1]
          exact ih (k + 1) (by omega) _ _ M2 hW2 hm2 g2 (same (fun y => z y.1))
        · rw [Int32.le_iff_toInt_le, nI_toInt (by omega)]
          have : (-1 : Int32).toInt = -1 := rfl
          omega
      · have z : 0 < leadN (cn (c1 k) 0) := by
          rcases Nat.eq_zero_or_pos (leadN (cn (c1 k) 0)) with y | y
          · rw [y] at z; exact absurd (by decide) z
          · exact y
        have hl := hld z
        obtain ⟨b1, b2⟩ := cell_is hP2 (i := k) (w := leadN (cn (c1 k) 0)) (by omega) (by omega)
        have b2 : f_X6_cell p (nI k) (nI (leadN (cn (c1 k) 0))) M2 = (fun j => if j < k then adjR i m (c1 j) else c1 j) k (leadN (cn (c1 k) 0)) := b2
        rw [ek] at b2
        refine ⟨b1, ?_⟩
        rw [b2, hl.2, lN_toI]
        refine rX6_remove_54_2 hc hW2 hp ⟨fun y => ?_, fun y => ?_⟩
        · have y := (nI_leI (by omega) (by omega)).mp y
          rw [nI_1]
          exact ih (k + 1) (by omega) _ _ M2 hW2 hm2 g2 (same (fun x => by omega))
        · have y : i < ldV (c1 k) := by
            rcases Nat.lt_or_ge i (ldV (c1 k)) with x | x
            · exact x
            · exact absurd (nI_le x (by omega)) y
          refine opA (rX6_remove_68_4 hc hW2 hp hp (isOp_n o1) (c_leadCell hW2 o1 (rX6_remove_68_5 hc hW2 hp hp ?_)))
          have ew : nI k * (6 : Int32) + nI (leadN (cn (c1 k) 0)) = nI (k * 6 + leadN (cn (c1 k) 0)) := by rw [show (6 : Int32) = nI 6 from rfl, pk_mul, nI_add]
          have emx : (f_J9_max_7cf53 (nI i) (nI (ldV (c1 k)) - nI m)).toInt64 = lN (max i (ldV (c1 k) - m)) := by
            by_cases x : m ≤ ldV (c1 k)
            · rw [pk_sub x]
              have : f_J9_max_7cf53 (nI i) (nI (ldV (c1 k) - m)) = nI (max i (ldV (c1 k) - m)) := by
                unfold f_J9_max_7cf53
                by_cases t : i < ldV (c1 k) - m
                · rw [if_pos ((nI_ltI (by omega) (by omega)).mpr t), Nat.max_eq_right (by omega)]
                · rw [if_neg (fun r => t ((nI_ltI (by omega) (by omega)).mp r)), Nat.max_eq_left (by omega)]
              rw [this, nI_toL (by omega)]
            · have : f_J9_max_7cf53 (nI i) (nI (ldV (c1 k)) - nI m) = nI i := by
                unfold f_J9_max_7cf53
                rw [if_neg]
                intro r
                rw [Int32.lt_iff_toInt_lt, nI_toInt (by omega)] at r
                have e : (nI (ldV (c1 k)) - nI m) = iI ((ldV (c1 k) : Int) - m) := by
                  rw [← iI_sub, iI_nat, iI_nat]
                rw [e, iI_toInt (by omega) (by omega)] at r
                omega
              rw [this, nI_toL (by omega)]
              congr 1
              omega
          refine ⟨?_, ?_⟩
          · unfold q_X6_write
            rw [ew]
            exact vpN (by omega) (by decide)
          · unfold m_X6_write
            rw [ew, nI_clamp (by omega), emx, nI_1]
            refine ih (k + 1) (by omega) _ _ _ (Wf_uL hW2) (hm2.tr (Mo_uL (Or.inr rfl))) g2 ⟨hP2.1, hP2.2.1, fun j hj w hw => ?_⟩
            show gL (uL M2 (p + 1) (k * 6 + leadN (cn (c1 k) 0)) (lN (max i (ldV (c1 k) - m)))) (p + 1) (j * 6 + w) = (if j < k + 1 then adjR i m (c1 j) else c1 j) w
            by_cases x : j = k
            · subst x
              rw [if_pos (by omega)]
              unfold adjR
              by_cases t : w = leadN (cn (c1 j) 0)
              · rw [if_pos ⟨z, t, y⟩, t]
                exact rL_eq
              · rw [if_neg (fun r => t r.2.1), rL_k (by omega), hP2.2.2 j hj w hw, ek]
            · rw [rL_k (by omega), hP2.2.2 j hj w hw]
              show (if j < k then adjR i m (c1 j) else c1 j) w = _
              by_cases t : j < k
              · rw [if_pos t, if_pos (by omega)]
              · rw [if_neg t, if_neg (by omega)]
  refine loop (n - m) 0 (by omega) _ _ M1 hW1 hm1 g1 ?_
  refine ⟨hP1.1, hP1.2.1, fun j hj w hw => ?_⟩
  rw [hP1.2.2 j hj w hw]
  exact (congrFun (if_neg (Nat.not_lt_zero j)) w).symm
theorem c_slimAll (hW : Wf M) (hp : (Sh p).1 = 3) (hP : PRG M p n c) (hV : ∀ j, j < n → VI n (c j)) (h : ∀ M', Wf M' → Mo (fun b => b = p ∨ b = p + 1) M M' → gI M' p 1 = gI M p 1 → PRG M' p (slimN n c).1 (slimN n c).2 → K (some (.int (nI (n - (slimN n c).1)))) M') : sp_X6_slimAll [.ref p] M K := by
  refine wX6_slimAll hW hp (fun {G} hc => ?_)
  rw [hP.2.1]
  have loop : ∀ j t : Nat, t + j = 10000 → ∀ n1 c1 i o4 M1, n1 ≤ n → i ≤ n1 → slimF j n1 c1 i = slimN n c → (∀ j, j < n1 → VI n1 (c1 j)) → Wf M1 → Mo (fun b => b = p ∨ b = p + 1) M M1 → gI M1 p 1 = gI M p 1 → PRG M1 p n1 c1 → G 9 [some (.ref p), some (.int (nI n)), some (.int (nI i)), some (.int (nI t)), o4] [] M1 := by
    have hn := hP.1
    intro j
    induction j with
    | zero =>
      intro t ht n1 c1 i o4 M1 hn1 hi he hV1 hW1 hm1 g1 hP1
      have fin : K (some (.int (nI n - nI n1))) M1 := by
        rw [pk_sub hn1]
        have : n1 = (slimN n c).1 := by rw [← he]; rfl
        have e2 : c1 = (slimN n c).2 := by rw [← he]; rfl
        have := h M1 hW1 hm1 g1 (by rw [← he]; exact hP1)
        rw [← he] at this
        exact this
      refine eX6_slimAll_9 hc hW1 hp ?_
      rw [hP1.2.1]
      refine ⟨fun _ => fin, fun _ => ⟨fun _ => fin, fun z => absurd ?_ z⟩⟩
      have : t = 10000 := by omega
      rw [this]
      decide
    | succ j ih =>
      intro t ht n1 c1 i o4 M1 hn1 hi he hV1 hW1 hm1 g1 hP1
      refine eX6_slimAll_9 hc hW1 hp ?_
      rw [hP1.2.1]
      have e1 : slimF (j + 1) n1 c1 i = if i < n1 then (if needN n1 c1 i = 0 then slimF j n1 c1 (i + 1) else slimF j (n1 - needN n1 c1 i) (remC c1 i (needN n1 c1 i)) 0) else (n1, c1) := rfl
      rw [e1] at he
      refine ⟨fun z => ?_, fun z => ⟨fun y => absurd ((nI_leI (a := 10000) (by decide) (by omega)).mp y) (by omega), fun _ => ?_⟩⟩
      · have z := (nI_leI (by omega) (by omega)).mp z
        rw [if_neg (by omega)] at he
        rw [pk_sub hn1]
        have := h M1 hW1 hm1 g1 (by rw [← he]; exact hP1)
        rw [← he] at this
        exact this
      · have z : i < n1 := by
          rcases Nat.lt_or_ge i n1 with x | x
          · exact x
          · exact absurd (nI_le x (by omega)) z
        rw [if_pos z] at he
        have hm := need_le (c := c1) z
        refine c_needless hW1 hp hP1 hV1 z (rX6_slimAll_24_2 hc hW1 hp ⟨fun y => ?_, fun y => ?_⟩)
        · have y : needN n1 c1 i ≠ 0 := fun x => y (by rw [x]; rfl)
          rw [if_neg y] at he
          refine c_remove hW1 hp hP1 hV1 hm.2 (fun M2 hW2 hm2 g2 hP2 => rX6_slimAll_42_3 hc hW2 hp ?_)
          rw [nI_1]
          exact ih (t + 1) (by omega) _ _ 0 _ M2 (by omega) (by omega) he (VI.rem (by omega) hm.2 hV1) hW2 (hm1.tr hm2) (g2.trans g1) hP2
        · have y : needN n1 c1 i = 0 := (nI_eq (b := 0) (by omega) (by decide)).mp y
          rw [if_pos y] at he
          rw [nI_1, nI_1]
          exact ih (t + 1) (by omega) _ _ (i + 1) _ M1 hn1 (by omega) he hV1 hW1 hm1 g1 hP1
  exact loop 10000 0 rfl n c 0 _ M (Nat.le_refl _) (Nat.zero_le _) rfl hV hW Mo.rf rfl hP
theorem k_slim (hFl : FlOK Fl) (hW : Wf M) (hC : CI Fl M s) (h : ∀ M', Wf M' → Mo clsS M M' → CI Fl M' (sSlim s).2 → K (some (.int (sSlim s).1)) M') : sp_X12_slim [.ref 0] M K := by
  obtain ⟨⟨c1, ⟨p1, p2, p3, p4, p5, p6, p7, p8⟩, c3, c4, c5, c6⟩, cx⟩ := hC
  have hn := p1.1
  have ok := slimF_ok 10000 _ _ 0 (show (gPr s).1 < 2 ^ 31 by omega) p7
  have ok : (slimN (gPr s).1 (gPr s).2).1 ≤ (gPr s).1 ∧ ∀ j, j < (slimN (gPr s).1 (gPr s).2).1 → VI (slimN (gPr s).1 (gPr s).2).1 ((slimN (gPr s).1 (gPr s).2).2 j) := ok
  unfold sSlim at h
  refine wX12_slim hW (fun {G} hc => c_slimAll hW (by decide) p1 p7 (fun M1 hW1 hm1 g1 hP1 => ?_))
  have fin : ∀ M2 : Mem, Wf M2 → Mo (fun b => b = 0) M1 M2 → gI M2 0 10 = blI (gSl s || decide ((slimN (gPr s).1 (gPr s).2).1 < (gPr s).1)) → sp_X12_startAnew [.ref 0] M2 (fun v M' => RX12_slim_17_1 G K [some (.ref 0), some (.int (nI ((gPr s).1 - (slimN (gPr s).1 (gPr s).2).1)))] (v.toList ++ []) M') := by
    intro M2 hW2 hm2 g2
    have hm : Mo (fun b => b = 0 ∨ b = 8 ∨ b = 9) M M2 := (hm1.mono (fun b hb => Or.inr hb)).tr (hm2.mono (fun b hb => Or.inl hb))
    have hx2 := cx.mo hW hm (fun b hb => by omega)
    have p81 := hP1.mo hm2 (by decide) (by decide)
    refine c_anew (n := (slimN (gPr s).1 (gPr s).2).1) (c := (slimN (gPr s).1 (gPr s).2).2) hW2 hx2 ⟨p81.2.1, p81.1⟩ (fun M3 hW3 hm3 hst hfl hx3 => rX12_slim_17_1 hc hW3 ?_)
    have hm' : Mo (fun b => (b = 0 ∨ b = 8 ∨ b = 9) ∨ (b = 455 ∨ b = 449 ∨ stpS b)) M M3 := (hm.mono (fun b hb => Or.inl hb)).tr (hm3.mono (fun b hb => Or.inr hb))
    have nn : ∀ b, ((b = 0 ∨ b = 8 ∨ b = 9) ∨ (b = 455 ∨ b = 449 ∨ stpS b)) → b = 0 ∨ (7 ≤ b ∧ b ≤ 446) ∨ b = 455 ∨ b = 449 := fun b hb => by unfold stpS at hb; omega
    refine h _ hW3 (hm'.mono (fun b hb => by have := nn b hb; unfold clsS; omega)) ⟨⟨c1.mo hm' (fun z => by have := nn _ z; omega) (fun z => by have := nn _ z; omega), ⟨p81.mo hm3 (by unfold stpS; omega) (by unfold stpS; omega), p2.mo hm' (fun z => by have := nn _ z; omega) (fun z => by have := nn _ z; omega), ?_, ?_, p5, ?_, ok.2, p8⟩, fun i hi => hst i hi, c4.mo hm' (fun z => by have := nn _ z; omega), c5.mo hm' (fun z => by have := nn _ z; omega) (fun b hb => by have := nn _ hb; omega), ⟨Or.inl hfl, fun z => by rw [hfl] at z; exact absurd z (by decide)⟩⟩, hx3⟩
    · rw [hm3.I (by unfold stpS; omega), hm2.I (by decide), g1]; exact p3
    · rw [hm'.I (fun z => by have := nn _ z; omega)]; exact p4
    · rw [hm3.I (by unfold stpS; omega), g2]; rfl
  refine rX12_slim_0_2 hc hW1 ⟨fun z => fin M1 hW1 Mo.rf ?_, fun z => fin _ (Wf_uI hW1) (Mo_uI rfl) ?_⟩
  · have z := (nI_leI (b := 0) (by omega) (by decide)).mp z
    have : decide ((slimN (gPr s).1 (gPr s).2).1 < (gPr s).1) = false := decide_eq_false (by omega)
    rw [this, Bool.or_false, hm1.I (by decide)]
    exact p6
  · have z : (slimN (gPr s).1 (gPr s).2).1 < (gPr s).1 := by
      rcases Nat.lt_or_ge (slimN (gPr s).1 (gPr s).2).1 (gPr s).1 with y | y
      · exact y
      · exact absurd ((nI_leI (b := 0) (by omega) (by decide)).mpr (by omega)) z
    have : decide ((slimN (gPr s).1 (gPr s).2).1 < (gPr s).1) = true := decide_eq_true z
    rw [this, Bool.or_true, rI_eq]
    rfl
end
end SLIM
