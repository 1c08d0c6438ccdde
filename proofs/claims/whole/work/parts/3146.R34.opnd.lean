section ROPND
section
variable {M M' : Mem} {K : RT} {t : Nat → Nat} {n : Nat} {x : TK} {st : PS}
/-- the reference stands at token x, no fault yet -/
def RAt (M : Mem) (t : Nat → Nat) (n : Nat) (x : TK) : Prop := Wf M ∧ RdR M t n ∧ TkOK t n x ∧ TkX x M ∧ gI M 605 10 = -1
theorem RAt.fr {S : Nat → Nat → Prop} (hf : FrC S M M') (h1 : ∀ j, S 605 j → ¬ (5 ≤ j ∧ j ≤ 10)) (h2 : ∀ j, ¬ S 608 j) (h : RAt M t n x) : RAt M' t n x :=
  ⟨hf.wf h.1, h.2.1.fr hf (fun z => h1 5 z (by decide)) h2, h.2.2.1, h.2.2.2.1.fr hf (fun j a b z => h1 j z (by omega)), by rw [hf.i (fun z => h1 10 z (by decide))]; exact h.2.2.2.2⟩
theorem wr13 (h : RAt M t n x) : m_X13_wrong (gI M 605 7) M = uI M 605 10 (nI (sT x)) := by
  unfold m_X13_wrong
  rw [h.2.2.2.2, if_neg (by decide), h.2.2.2.1.2.1]
def fpS (a j : Nat) : Prop := a = 605 ∧ j = 10
theorem fp_f {y : Int32} : FrC fpS M (uI M 605 10 y) := FrC_uI ⟨rfl, rfl⟩
theorem fp_g {y : Int32} : gI (uI M 605 10 y) 605 10 = y := by rw [gI_uI, if_pos ⟨rfl, rfl⟩]
/-- the next token -/
theorem c_nx13 {S : Nat → Nat → Prop} (h0 : RAt M t n x) (hf : FrC S M M') (h1 : ∀ j, S 605 j → ¬ (5 ≤ j ∧ j ≤ 10)) (h2 : ∀ j, ¬ S 608 j) (hk : kT x ≠ 98) (hk1 : kT x ≠ 101) (h : ∀ M'', FrC tkS M' M'' → RAt M'' t n (tok t n (eT x)) → eT x ≤ sT (tok t n (eT x)) → K none M'') : sp_X13_next [.ref 605] M' K := by
  have g := h0.fr hf h1 h2
  have ho : oT x = false := kT_no g.2.2.1 rfl hk1
  refine c_next13 g.1 g.2.1 g.2.2.1.2.1 (g.2.2.2.1.2.2.1 hk) (by rw [g.2.2.2.1.2.2.2, ho]; rfl) (fun M'' hW'' f tx => ?_)
  obtain ⟨a, b⟩ := tok_ok (t := t) (n := n) (p := eT x) g.2.2.1.2.1 (fun j hj => (g.2.1.2.2 j hj).2)
  exact h M'' f ⟨hW'', g.2.1.tk f, a, tx, by rw [f.i (by unfold tkS; omega)]; exact g.2.2.2.2⟩ b
theorem sg48 : ∀ b ∈ List.range 256, ∀ m ∈ List.range 9, ((¬ sgB b < 48 ∧ ¬ (48 : Int32) + nI m ≤ sgB b) ↔ (48 ≤ b ∧ b < 48 + m)) := by decide +kernel
theorem c_numbered13 {ch m : Nat} (h0 : RAt M t n x) (hch : ch < 128) (hm : m < 9) (hno : nbT t ch m x = none → K (some (.int (0 : Int32))) (uI M 605 10 (nI (sT x)))) (hyes : ∀ v M', nbT t ch m x = some (lN v) → v < m → FrC tkS M M' → RAt M' t n (tok t n (eT x)) → K (some (.int (nI v))) M') : sp_X13_numbered [.ref 605, .int (nI ch), .int (nI m)] M K := by
  obtain ⟨hW, hT, hx, hr, h10⟩ := h0
  have h0 : RAt M t n x := ⟨hW, hT, hx, hr, h10⟩
  have hn := hT.1
  have hen := hx.2.1
  have h7 : gI M 605 7 = nI (sT x) := hr.2.1
  refine wX13_numbered hW (fun {G} hc => ?_)
  have no : ¬ (kT x = 119 ∧ eT x - sT x = 2 ∧ t (sT x) = ch ∧ 48 ≤ t (sT x + 1) ∧ t (sT x + 1) < 48 + m) → G 72 [some (.ref 605), some (.int (nI ch)), some (.int (nI m)), none, none] [.int 0] M := fun z => by
    refine eX13_numbered_72 hc hW ⟨fun y => absurd rfl y, fun _ => ?_⟩
    rw [wr13 h0]
    exact hno (if_neg z)
  rw [s_word hx hr]
  refine ⟨fun z => no (fun y => z y.1), fun hk => ?_⟩
  have h8 : gI M 605 8 = nI (eT x) := hr.2.2.1 (by omega)
  obtain ⟨w1, w2, w3⟩ := hx.2.2.1 hk
  have el : gI M 605 8 - gI M 605 7 = 2 ↔ eT x - sT x = 2 := by rw [h8, h7, pk_sub hx.1]; exact nI_eq (b := 2) (by omega) (by decide)
  rw [el, h7]
  refine ⟨fun z => no (fun y => z y.2.1), fun h2 => ?_⟩
  obtain ⟨d1, d2⟩ := hT.2.2 (sT x) w1
  obtain ⟨d3, d4⟩ := hT.2.2 (sT x + 1) (by omega)
  rw [nI_1, nI_clamp (by omega), nI_clamp (by omega), d1, d3, sg_eq d2 hch]
  have tb := sg48 (t (sT x + 1)) (List.mem_range.mpr d4) m (List.mem_range.mpr hm)
  refine ⟨vpN (by omega) (by decide), fun z => no (fun y => z y.2.2.1), fun h3 => ⟨vpN (by omega) (by decide), fun z => no (fun y => (tb.mpr y.2.2.2).1 z), fun z1 => ⟨vpN (by omega) (by decide), fun z => no (fun y => (tb.mpr y.2.2.2).2 z), fun z2 => ?_⟩⟩⟩
  have h4 := tb.mp ⟨z1, z2⟩
  have hv : nbT t ch m x = some (lN (t (sT x + 1) - 48)) := if_pos ⟨hk, h2, h3, h4⟩
  refine eX13_numbered_72 hc hW ⟨fun _ => ?_, fun y => absurd y (by decide)⟩
  rw [h7, nI_1, nI_clamp (by omega), d3, sg_lo (by omega), show (48 : Int32) = nI 48 from rfl, pk_sub (by omega)]
  refine ⟨vpN (by omega) (by decide), fun y1 hy => c_nx13 h0 FrC.rf (fun j z => z.elim) (fun j z => z.elim) (by omega) (by omega) (S := fun _ _ => False) (fun M2 f2 h2 _ => rX13_numbered_87_11 hc h2.1 ?_)⟩
  rw [hy]
  exact hyes _ M2 hv (by omega) f2 h2
theorem kn_tab : ∀ b ∈ List.range 256, f_X13_kindNamed (sgB b) = if kdN b < 7 then nI (kdN b) else -1 := by decide +kernel
def dwS (c a j : Nat) : Prop := (a = 610 ∧ j = c) ∨ tkS a j
theorem c_kindO13 {c : Nat} (h0 : RAt M t n x) (hcc : c < 400) (hno : kdT t x = none → K none (uI M 605 10 (nI (sT x)))) (hyes : ∀ v M', kdT t x = some v → FrC (dwS c) M M' → gL M' 610 c = v → RAt M' t n (tok t n (eT x)) → K none M') : sp_X13_kindOperand [.ref 605, .int (nI c)] M K := by
  obtain ⟨hW, hT, hx, hr, h10⟩ := h0
  have h0 : RAt M t n x := ⟨hW, hT, hx, hr, h10⟩
  have hn := hT.1
  have hen := hx.2.1
  have h7 : gI M 605 7 = nI (sT x) := hr.2.1
  refine wX13_kindOperand hW (fun {G} hc => ?_)
  have no : ¬ (kT x = 119 ∧ eT x - sT x = 1 ∧ kdN (t (sT x)) < 7) → G 36 [some (.ref 605), some (.int (nI c)), none] [.int (-1)] M := fun z => by
    refine eX13_kindOperand_36 hc hW ⟨fun y => absurd y (by decide), fun _ => ?_⟩
    rw [wr13 h0]
    exact hno (if_neg z)
  rw [s_word hx hr]
  refine ⟨fun z => no (fun y => z y.1), fun hk => ?_⟩
  have h8 : gI M 605 8 = nI (eT x) := hr.2.2.1 (by omega)
  obtain ⟨w1, w2, w3⟩ := hx.2.2.1 hk
  have el : gI M 605 8 - gI M 605 7 = 1 ↔ eT x - sT x = 1 := by rw [h8, h7, pk_sub hx.1]; exact nI_eq (b := 1) (by omega) (by decide)
  rw [el, h7]
  refine ⟨fun z => no (fun y => z y.2.1), fun h2 => ⟨vpN (by omega) (by decide), ?_⟩⟩
  obtain ⟨d1, d2⟩ := hT.2.2 (sT x) w1
  rw [nI_clamp (by omega), d1, kn_tab _ (List.mem_range.mpr d2)]
  by_cases h3 : kdN (t (sT x)) < 7
  · rw [if_pos h3]
    have hv : kdT t x = some (lN (kdN (t (sT x)))) := if_pos ⟨hk, h2, h3⟩
    refine eX13_kindOperand_36 hc hW ⟨fun _ => ?_, fun y => absurd (nI_pos' (by omega)) y⟩
    rw [nI_clamp (by omega), nI_toL (by omega)]
    have f1 : FrC (fun a j => a = 610 ∧ j = c) M (uL M 610 c (lN (kdN (t (sT x))))) := FrC_uL ⟨rfl, rfl⟩
    refine ⟨vpN hcc (by decide), c_nx13 h0 f1 (fun j z => by omega) (fun j z => by omega) (by omega) (by omega) (fun M2 f2 h2 _ => rX13_kindOperand_50_7 hc h2.1 ?_)⟩
    refine hyes _ M2 hv ((f1.mono (fun a j z => Or.inl z)).tr (f2.mono (fun a j z => Or.inr z))) ?_ h2
    rw [f2.l (by unfold tkS; omega), gL_uL, if_pos ⟨rfl, rfl⟩]
  · rw [if_neg h3]
    exact no (fun y => h3 y.2.2)
/-- which numbers an instruction takes -/
def nmR (t : Nat → Nat) (o : Nat) (x : TK) : Option Int64 := if o = 0 then nmT t 1 32 x else if o = 50 then nmT t 0 4294967295 x else if o = 53 then nmT t (-9223372036854775807) 9223372036854775807 x else nmT t 0 31 x
theorem in_I {a lo hi : Int} (ha : -9223372036854775808 < a ∧ a < 9223372036854775808) (hl : -9223372036854775808 < lo ∧ lo < 9223372036854775808) (hh : -9223372036854775808 < hi ∧ hi < 9223372036854775808) : P_X13_in (Int64.ofInt a) (Int64.ofInt lo) (Int64.ofInt hi) ↔ lo ≤ a ∧ a ≤ hi := by
  have e : ∀ z : Int, (-9223372036854775808 < z ∧ z < 9223372036854775808) → (Int64.ofInt z).toInt = z := fun z hz => Int64.toInt_ofInt_of_le (by omega) (by omega)
  unfold P_X13_in
  rw [Int64.lt_iff_toInt_lt, Int64.lt_iff_toInt_lt, e _ ha, e _ hl, e _ hh]
  omega
theorem dg10 {v b : Nat} (hb : 48 ≤ b) (hb2 : b < 128) : (10 : Int64) * lN v + (nI b).toInt64 - 48 = lN (v * 10 + (b - 48)) := by
  rw [nI_toL (by omega), Int64.mul_comm]
  have e : lN b = lN (b - 48) + lN 48 := by rw [wb_ad]; congr 1; omega
  rw [e, ← Int64.add_assoc, lN_m10]
  show lN (v * 10 + (b - 48)) + 48 - 48 = _
  rw [Int64.add_sub_cancel]
theorem c_numO13 {c o : Nat} (h0 : RAt M t n x) (hcc : c < 400) (ho : o < 68) (hno : nmR t o x = none → K none (uI M 605 10 (nI (sT x)))) (hyes : ∀ v M', nmR t o x = some v → FrC (dwS c) M M' → gL M' 610 c = v → RAt M' t n (tok t n (eT x)) → K none M') : sp_X13_numberOperand [.ref 605, .int (nI c), .int (nI o)] M K := by
  obtain ⟨hW, hT, hx, hr, h10⟩ := h0
  have h0 : RAt M t n x := ⟨hW, hT, hx, hr, h10⟩
  have hn := hT.1
  have hen := hx.2.1
  have h7 : gI M 605 7 = nI (sT x) := hr.2.1
  refine wX13_numberOperand hW (fun {G} hc => ?_)
  rw [s_num hx hr]
  refine ⟨fun hk => ?_, fun z => ?_⟩
  rotate_left
  · rw [wr13 h0]
    refine hno ?_
    unfold nmR nmT
    simp only [z, false_and, if_false]
    simp
  have h8 : gI M 605 8 = nI (eT x) := hr.2.2.1 (by omega)
  obtain ⟨w1, w2, w3, w4⟩ := hx.2.2.2.1 hk
  obtain ⟨d1, d2, d3, d4⟩ := nm_dig hx hk
  obtain ⟨b1, b2⟩ := hT.2.2 (sT x) w1
  have wrong : ∀ (o2 o3 o4 o7 : Option Value) (x5 : Int64), nmR t o x = none → G 198 [some (.ref 605), some (.int (nI c)), o2, o3, o4, some (.long x5), none, o7] [.int 0] M := fun o2 o3 o4 o7 x5 z =>
    eX13_numberOperand_198 hc hW ⟨fun y => absurd rfl y, fun _ => by rw [wr13 h0]; exact hno z⟩
  have right : ∀ (o2 o3 o4 o7 : Option Value) (v : Int64), nmR t o x = some v → G 198 [some (.ref 605), some (.int (nI c)), o2, o3, o4, some (.long v), none, o7] [.int 1] M := fun o2 o3 o4 o7 v z => by
    refine eX13_numberOperand_198 hc hW ⟨fun _ => ?_, fun y => absurd y (by decide)⟩
    rw [nI_clamp (by omega)]
    have f1 : FrC (fun a j => a = 610 ∧ j = c) M (uL M 610 c v) := FrC_uL ⟨rfl, rfl⟩
    refine ⟨vpN hcc (by decide), c_nx13 h0 f1 (fun j z => by omega) (fun j z => by omega) (by omega) (by omega) (fun M2 f2 h2 _ => rX13_numberOperand_214_6 hc h2.1 ?_)⟩
    refine hyes v M2 z ((f1.mono (fun a j z => Or.inl z)).tr (f2.mono (fun a j z => Or.inr z))) ?_ h2
    rw [f2.l (by unfold tkS; omega), gL_uL, if_pos ⟨rfl, rfl⟩]
  -- the value is judged
  have judge : ∀ (o3 o5 o6 o7 : Option Value) (s0 : Int64), (eT x - nfT t x ≤ 18 → s0 = Int64.ofInt (nmV t x)) → G 121 [some (.ref 605), some (.int (nI c)), some (.int (nI o)), o3, some (.int (nI (nfT t x))), o5, o6, o7] [.long s0] M := by
    intro o3 o5 o6 o7 s0 hs0
    refine eX13_numberOperand_121 hc hW ?_
    have e18 : (18 : Int32) < gI M 605 8 - nI (nfT t x) ↔ 18 < eT x - nfT t x := by rw [h8, pk_sub (by omega)]; exact nI_ltI (a := 18) (by decide) (by omega)
    have i0 : (nI o = 0) ↔ o = 0 := nI_eq (b := 0) (by omega) (by decide)
    have i50 : (nI o = 50) ↔ o = 50 := nI_eq (b := 50) (by omega) (by decide)
    have i53 : (nI o = 53) ↔ o = 53 := nI_eq (b := 53) (by omega) (by decide)
    rw [e18, i0, i50, i53]
    refine ⟨fun z => wrong _ _ _ _ _ ?_, fun z => ?_⟩
    · unfold nmR nmT
      simp only [show ¬ eT x - nfT t x ≤ 18 by omega, false_and, and_false, if_false]
      simp
    · have hlen : eT x - nfT t x ≤ 18 := by omega
      have hlt : dgV t (eT x - nfT t x) (nfT t x) 0 < 10 ^ 18 := by
        have := dgV_lt (t := t) (eT x - nfT t x) (nfT t x) 0 0 (fun i a c => by have := d4 i a (by omega); unfold isDig at this; have := of_decide_eq_true this; omega) (by decide)
        exact Nat.lt_of_lt_of_le this (Nat.pow_le_pow_right (by decide) (by omega))
      have hV : -(10 : Int) ^ 18 < nmV t x ∧ nmV t x < (10 : Int) ^ 18 := by unfold nmV; split <;> omega
      rw [hs0 hlen]
      have cond : ∀ lo hi : Int, nmT t lo hi x = if lo ≤ nmV t x ∧ nmV t x ≤ hi then some (Int64.ofInt (nmV t x)) else none := fun lo hi => by
        unfold nmT
        by_cases g : lo ≤ nmV t x ∧ nmV t x ≤ hi
        · rw [if_pos g, if_pos ⟨hk, hlen, g⟩]
        · rw [if_neg g, if_neg (fun w => g w.2.2)]
      have iN : P_X13_in (Int64.ofInt (nmV t x)) 0 31 ↔ (0 : Int) ≤ nmV t x ∧ nmV t x ≤ 31 := in_I (lo := 0) (hi := 31) (by omega) (by decide) (by decide)
      have iU : P_X13_in (Int64.ofInt (nmV t x)) 0 4294967295 ↔ (0 : Int) ≤ nmV t x ∧ nmV t x ≤ 4294967295 := in_I (lo := 0) (hi := 4294967295) (by omega) (by decide) (by decide)
      have iT : P_X13_in (Int64.ofInt (nmV t x)) 1 32 ↔ (1 : Int) ≤ nmV t x ∧ nmV t x ≤ 32 := in_I (lo := 1) (hi := 32) (by omega) (by decide) (by decide)
      rw [iN, iU, iT]
      refine ⟨fun n0 => ⟨fun n50 => ⟨fun y53 => right _ _ _ _ _ ?_, fun n53 => ⟨fun g => wrong _ _ _ _ _ ?_, fun g => right _ _ _ _ _ ?_⟩⟩, fun y50 => ⟨fun g => wrong _ _ _ _ _ ?_, fun g => right _ _ _ _ _ ?_⟩⟩, fun y0 => ⟨fun g => wrong _ _ _ _ _ ?_, fun g => right _ _ _ _ _ ?_⟩⟩
      · unfold nmR; rw [if_neg n0, if_neg n50, if_pos y53, cond, if_pos (by omega)]
      · unfold nmR; rw [if_neg n0, if_neg n50, if_neg n53, cond, if_neg g]
      · unfold nmR; rw [if_neg n0, if_neg n50, if_neg n53, cond, if_pos g]
      · unfold nmR; rw [if_neg n0, if_pos y50, cond, if_neg g]
      · unfold nmR; rw [if_neg n0, if_pos y50, cond, if_pos g]
      · unfold nmR; rw [if_pos y0, cond, if_neg g]
      · unfold nmR; rw [if_pos y0, cond, if_pos g]
  -- the digits
  have digits : ∀ s0 : Int32, (s0 = 0 ↔ isNeg t x = false) → ∀ j q : Nat, q + j = eT x → nfT t x ≤ q → q ≤ nfT t x + 18 → ∀ v, dgV t j q v = dgV t (eT x - nfT t x) (nfT t x) 0 → G 63 [some (.ref 605), some (.int (nI c)), some (.int (nI o)), some (.int s0), some (.int (nI (nfT t x))), some (.long (lN v)), none, some (.int (nI q))] [] M := by
    intro s0 hs0 j
    have fin : ∀ (q v : Nat), (eT x - nfT t x ≤ 18 → v = dgV t (eT x - nfT t x) (nfT t x) 0) → (s0 = 0 → G 121 [some (.ref 605), some (.int (nI c)), some (.int (nI o)), some (.int s0), some (.int (nI (nfT t x))), some (.long (lN v)), none, some (.int (nI q))] [.long (lN v)] M) ∧ (¬ s0 = 0 → G 121 [some (.ref 605), some (.int (nI c)), some (.int (nI o)), some (.int s0), some (.int (nI (nfT t x))), some (.long (lN v)), none, some (.int (nI q))] [.long (-lN v)] M) := by
      intro q v hv
      refine ⟨fun y => judge _ _ _ _ _ (fun hl => ?_), fun y => judge _ _ _ _ _ (fun hl => ?_)⟩
      · have y := hs0.mp y
        unfold nmV
        rw [y, ← hv hl]; rfl
      · have y : isNeg t x = true := by
          cases g : isNeg t x with
          | true => rfl
          | false => exact absurd (hs0.mpr g) y
        unfold nmV
        rw [y, ← hv hl, if_pos rfl, Int64.ofInt_neg]; rfl
    induction j with
    | zero =>
      intro q hq hq2 hq3 v hv
      have hq : q = eT x := by omega
      have hv : v = dgV t (eT x - nfT t x) (nfT t x) 0 := hv
      refine eX13_numberOperand_63 hc hW ⟨fun _ => fin q v (fun _ => hv), fun z => absurd ?_ z⟩
      rw [h8]; exact nI_le (by omega) (by omega)
    | succ j ih =>
      intro q hq hq2 hq3 v hv
      refine eX13_numberOperand_63 hc hW ?_
      have e1 : nI (nfT t x) + 18 = nI (nfT t x + 18) := nI_add _ 18
      rw [h8, nI_leI (by omega) (by omega), e1, nI_leI (by omega) (by omega)]
      refine ⟨fun z => absurd z (by omega), fun _ => ⟨fun z => fin q v (fun hl => ?_), fun z => ⟨vpN (by omega) (by decide), fun y1 hy => ?_⟩⟩⟩
      · omega
      · have hd := d4 q hq2 (by omega)
        unfold isDig at hd
        have hd := of_decide_eq_true hd
        rw [nI_clamp (by omega), (hT.2.2 q (by omega)).1, sg_lo (by omega), dg10 hd.1 (by omega)] at hy
        rw [hy, nI_1]
        exact ih (q + 1) (by omega) (by omega) (by omega) _ hv
  rw [h7, nI_clamp (by omega), b1]
  have e45 : sgB (t (sT x)) = 45 ↔ t (sT x) = 45 := sg_eq (v := 45) b2 (by decide)
  have hneg : isNeg t x = true ↔ t (sT x) = 45 := by unfold isNeg; exact decide_eq_true_iff
  rw [e45]
  refine ⟨vpN (by omega) (by decide), fun y => eX13_numberOperand_36 hc hW ?_, fun y => eX13_numberOperand_36 hc hW ?_⟩
  · have y2 : isNeg t x = false := by
      cases g : isNeg t x with
      | true => exact absurd (hneg.mp g) y
      | false => rfl
    have ef : nfT t x = sT x := by unfold nfT; rw [y2]; rfl
    have st := digits 0 ⟨fun _ => y2, fun _ => rfl⟩ (eT x - nfT t x) (nfT t x) (by omega) (Nat.le_refl _) (by omega) 0 rfl
    rw [ef] at st
    rw [h7]
    exact ⟨fun _ => st, fun g => absurd rfl g⟩
  · have y2 : isNeg t x = true := hneg.mpr y
    have ef : nfT t x = sT x + 1 := by unfold nfT; rw [if_pos y2]
    have st := digits 1 ⟨fun u => absurd u (by decide), fun u => by rw [y2] at u; exact absurd u (by decide)⟩ (eT x - nfT t x) (nfT t x) (by omega) (Nat.le_refl _) (by omega) 0 rfl
    rw [ef] at st
    rw [h7, nI_1]
    exact ⟨fun g => absurd g (by decide), fun _ => st⟩
end
end ROPND
