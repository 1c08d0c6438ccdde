section EXEC
/-- a program object: n instructions of six cells -/
def PRG (M : Mem) (p n : Nat) (c : Nat → Nat → Int64) : Prop := n ≤ 100 ∧ gI M p 0 = nI n ∧ ∀ i, i < n → ∀ w, w < 6 → gL M (p + 1) (i * 6 + w) = c i w
/-- what an operand with this letter can be, with n instructions -/
def okOp (n L : Nat) (x : Int64) : Prop := (97 ≤ L ∧ L ≤ 122 ∨ L = 65 ∨ L = 83 → ∃ v, v < 8 ∧ x = lN v) ∧ (L = 77 → ∃ v, v < 4 ∧ x = lN v) ∧ (L = 75 → ∃ v, v < 7 ∧ x = lN v) ∧ (L = 84 → ∃ v, 1 ≤ v ∧ v ≤ 32 ∧ x = lN v) ∧ (L = 80 → ∃ v, v < 32 ∧ x = lN v) ∧ (L = 85 → ∃ v, v ≤ 4294967295 ∧ x = lN v) ∧ (L = 76 → ∃ v, v ≤ n ∧ x = lN v)
def VI (n : Nat) (c : Nat → Int64) : Prop := ∃ o, o < 68 ∧ c 0 = lN o ∧ (∀ k, k < (opL o).length → okOp n (letN o k) (c (k + 1))) ∧ (∀ k, (opL o).length ≤ k → k < 4 → c (k + 1) = -1) ∧ (c 5 = -1 ∨ (mkT.getD o 0 = 1 ∧ ∃ v, v < 4 ∧ c 5 = lN v))
theorem VI.o {n : Nat} {c : Nat → Int64} (h : VI n c) : cn c 0 < 68 ∧ c 0 = lN (cn c 0) := by
  obtain ⟨o, o1, o2, -⟩ := h
  have e : cn c 0 = o := cn_lN o2 (by omega)
  rw [e]
  exact ⟨o1, o2⟩
theorem VI.at {n : Nat} {c : Nat → Int64} (h : VI n c) {o : Nat} (ho : cn c 0 = o) : o < 68 ∧ (∀ k, k < (opL o).length → okOp n (letN o k) (c (k + 1))) ∧ (c 5 = -1 ∨ (mkT.getD o 0 = 1 ∧ ∃ v, v < 4 ∧ c 5 = lN v)) := by
  obtain ⟨o', o1, o2, o3, o4, o5⟩ := h
  have e : cn c 0 = o' := cn_lN o2 (by omega)
  rw [e] at ho
  subst ho
  exact ⟨o1, o3, o5⟩
theorem VI.vc {n : Nat} {c : Nat → Int64} (h : VI n c) : VC (cn c 0) c := by
  obtain ⟨h1, h2, h3⟩ := h.at rfl
  refine ⟨fun k hk => ⟨(h2 k hk).1, (h2 k hk).2.1⟩, ?_⟩
  rcases h3 with h3 | h3
  · exact Or.inl h3
  · exact Or.inr h3.2
theorem let_x : letN 0 1 = 75 ∧ letN 0 2 = 84 ∧ (opL 0).length = 3 ∧ letN 44 2 = 80 ∧ (opL 44).length = 3 ∧ letN 45 1 = 80 ∧ (opL 45).length = 3 := by decide +kernel
theorem VI.vx {n : Nat} {c : Nat → Int64} (h : VI n c) : VX (cn c 0) c := by
  obtain ⟨h1, h2, h3⟩ := h.at rfl
  obtain ⟨l1, l2, l3, l4, l5, l6, l7⟩ := let_x
  refine ⟨fun z => ?_, fun z => ?_, fun z => ?_⟩
  · rw [z] at h2
    obtain ⟨v, v1, v2⟩ := (h2 1 (by omega)).2.2.1 l1
    obtain ⟨w, w1, w2, w3⟩ := (h2 2 (by omega)).2.2.2.1 l2
    exact ⟨⟨v, v1, v2⟩, w, w1, w2, w3⟩
  · rw [z] at h2
    exact (h2 2 (by omega)).2.2.2.2.1 l4
  · rw [z] at h2
    exact (h2 1 (by omega)).2.2.2.2.1 l6
/-- the target of an instruction -/
def tgX (c : Nat → Int64) : Nat × Nat := (tgN (cn c 0), ((c (if cn c 0 = 27 ∨ cn c 0 = 29 then 2 else 1)).toInt32 &&& 7).toNatClampNeg)
theorem tgX_8 (c : Nat → Int64) : (tgX c).2 < 8 ∧ (c (if cn c 0 = 27 ∨ cn c 0 = 29 then 2 else 1)).toInt32 &&& 7 = nI (tgX c).2 := by
  obtain ⟨v, v1, v2⟩ := and7' ((c (if cn c 0 = 27 ∨ cn c 0 = 29 then 2 else 1)).toInt32)
  have e : (tgX c).2 = v := by
    show ((c _).toInt32 &&& 7).toNatClampNeg = v
    rw [v2, nI_clamp (by omega)]
  rw [e]
  exact ⟨v1, v2⟩
theorem tgX_v {c : Nat → Int64} {v : Nat} (hv : v < 8) (h : c (if cn c 0 = 27 ∨ cn c 0 = 29 then 2 else 1) = lN v) : (tgX c).2 = v := by
  show ((c _).toInt32 &&& 7).toNatClampNeg = v
  rw [h, lN_toI, and7 hv, nI_clamp (by omega)]
theorem tgN_all : ∀ o ∈ List.range 68, (tgN o < 65536 ∧ (46 ≤ o → o ≤ 50 → tgN o = 77 ∧ letN o 0 = 77 ∧ 0 < (opL o).length)) ∧ (51 ≤ o → o ≤ 58 ∨ (60 ≤ o ∧ o ≤ 64) → tgN o = 83 ∧ letN o 0 = 83 ∧ 0 < (opL o).length) ∧ (o < 46 → (tgN o = 86 ∧ (letN o 0 ≤ 122 ∧ 97 ≤ letN o 0) ∨ tgN o = 77 ∧ letN o 0 = 77 ∨ tgN o = 83 ∧ letN o 0 = 83) ∧ 0 < (opL o).length ∧ ¬ (o = 27 ∨ o = 29) ∨ (o = 27 ∨ o = 29) ∧ tgN o = 65 ∧ letN o 1 = 65 ∧ 1 < (opL o).length) := by decide +kernel
/-- for lanes' instructions the two targets are one -/
theorem VI.tg {n : Nat} {c : Nat → Int64} (h : VI n c) (ho : cn c 0 < 46) : tgX c = (tgN (cn c 0), tgQ (cn c 0) c) ∧ (tgN (cn c 0) = 77 → tgQ (cn c 0) c < 4) := by
  obtain ⟨h1, h2, h3⟩ := h.at rfl
  have t := (tgN_all (cn c 0) (List.mem_range.mpr (by omega))).2.2 ho
  have key : (∃ v, v < 8 ∧ c (if cn c 0 = 27 ∨ cn c 0 = 29 then 2 else 1) = lN v) ∧ (tgN (cn c 0) = 77 → ∃ v, v < 4 ∧ c (if cn c 0 = 27 ∨ cn c 0 = 29 then 2 else 1) = lN v) := by
    rcases t with ⟨t1, t2, t3⟩ | ⟨t1, t2, t3, t4⟩
    · rw [if_neg t3]
      have k := h2 0 t2
      rcases t1 with ⟨a, b⟩ | ⟨a, b⟩ | ⟨a, b⟩
      · exact ⟨k.1 (Or.inl ⟨b.2, b.1⟩), fun z => absurd (a.symm.trans z) (by decide)⟩
      · obtain ⟨v, v1, v2⟩ := k.2.1 b
        exact ⟨⟨v, by omega, v2⟩, fun _ => ⟨v, v1, v2⟩⟩
      · exact ⟨k.1 (Or.inr (Or.inr b)), fun z => absurd (a.symm.trans z) (by decide)⟩
    · rw [if_pos t1]
      exact ⟨(h2 1 t4).1 (Or.inr (Or.inl t3)), fun z => absurd (t2.symm.trans z) (by decide)⟩
  obtain ⟨⟨v, v1, v2⟩, k2⟩ := key
  have e1 := tgX_v v1 v2
  have e2 : tgQ (cn c 0) c = v := by
    unfold tgQ
    by_cases q : cn c 0 = 27 ∨ cn c 0 = 29
    · rw [if_pos q] at v2 ⊢; exact cn_lN v2 (by omega)
    · rw [if_neg q] at v2 ⊢; exact cn_lN v2 (by omega)
  refine ⟨?_, fun z => ?_⟩
  · rw [e2]
    exact Prod.ext rfl e1
  · obtain ⟨w, w1, w2⟩ := k2 z
    rw [v2] at w2
    have := (l6_eq (by omega) (by omega)).mp w2
    omega
/-- masks -/
def ffU (w : Int32) : Nat → Nat → Int64
  | 0, _ => -1
  | j + 1, i => if bt w i = true then lN i else ffU w j (i + 1)
def maD (o : Nat) (c : Nat → Int64) (d : DS) : DS :=
  if o = 46 then setM d (cn c 1) (dm d (cn c 2) &&& dm d (cn c 3)) else if o = 47 then setM d (cn c 1) (dm d (cn c 2) ||| dm d (cn c 3)) else if o = 48 then setM d (cn c 1) (dm d (cn c 2) ^^^ dm d (cn c 3))
  else if o = 49 then setM d (cn c 1) (dm d (cn c 2) ^^^ (-1 : Int32)) else if o = 50 then setM d (cn c 1) (c 2).toInt32 else if o = 51 then setS d (cn c 1) (lN (cntW (dm d (cn c 2)))) else setS d (cn c 1) (ffU (dm d (cn c 2)) 32 0)
/-- scalars: fault and data -/
def scD (o : Nat) (c : Nat → Int64) (d : DS) : Int32 × DS :=
  if o = 53 then (0, setS d (cn c 1) (c 2)) else if o = 54 then (0, setS d (cn c 1) (dsc d (cn c 2) + dsc d (cn c 3))) else if o = 55 then (0, setS d (cn c 1) (dsc d (cn c 2) - dsc d (cn c 3))) else if o = 56 then (0, setS d (cn c 1) (dsc d (cn c 2) * dsc d (cn c 3)))
  else if dsc d (cn c 3) = 0 then (5, d) else if o = 57 then (0, setS d (cn c 1) (dsc d (cn c 2) / dsc d (cn c 3))) else (0, setS d (cn c 1) (dsc d (cn c 2) - dsc d (cn c 2) / dsc d (cn c 3) * dsc d (cn c 3)))
/-- the state behind a step -/
def adv (n : Nat) (x : ES) (d : DS) (pc k : Nat) (cf : Nat → Nat) (wr : Nat) (fin : Bool) : ES := (d, pc, k, cf, eSt x + 1, eLn x + lN wr, fin || decide (n ≤ pc))
def jS (o : Nat) (a b : Int64) : Prop := (o = 60 ∧ a = b) ∨ (o = 61 ∧ a ≠ b) ∨ (o = 62 ∧ a < b) ∨ (o = 63 ∧ a ≤ b)
/-- what leads elsewhere: fault, PC, calls, whether it ends, data -/
noncomputable def leX (o : Nat) (c : Nat → Int64) (x : ES) : Int32 × Nat × Nat × (Nat → Nat) × Bool × DS :=
  if o = 59 then (0, cn c 1, eK x, eCf x, false, eD x)
  else if o ≤ 63 then (0, iT (jS o (dsc (eD x) (cn c 1)) (dsc (eD x) (cn c 2))) (cn c 3) (ePc x + 1), eK x, eCf x, false, eD x)
  else if o = 64 then (0, if dsc (eD x) (cn c 1) - 1 = 0 then ePc x + 1 else cn c 2, eK x, eCf x, false, setS (eD x) (cn c 1) (dsc (eD x) (cn c 1) - 1))
  else if o = 65 then (if eK x < 16 then (0, cn c 1, eK x + 1, up1 (eCf x) (eK x) (ePc x + 1), false, eD x) else (7, ePc x, eK x, eCf x, false, eD x))
  else if o = 66 then (if eK x = 0 then (0, ePc x + 1, 0, eCf x, true, eD x) else (0, eCf x (eK x - 1), eK x - 1, eCf x, false, eD x))
  else (0, ePc x + 1, eK x, eCf x, true, eD x)
/-- an instruction: fault, lane, lanes done, the state behind -/
noncomputable def exX (n : Nat) (c : Nat → Int64) (x : ES) : Int32 × Int32 × Nat × ES :=
  if cn c 0 < 46 then ((insD (cn c 0) c (eD x)).1, (insD (cn c 0) c (eD x)).2.1, (insD (cn c 0) c (eD x)).2.2.1, if (insD (cn c 0) c (eD x)).1 = 0 then adv n x (insD (cn c 0) c (eD x)).2.2.2 (ePc x + 1) (eK x) (eCf x) (insD (cn c 0) c (eD x)).2.2.1 false else ((insD (cn c 0) c (eD x)).2.2.2, x.2))
  else if cn c 0 < 53 then (0, -1, 0, adv n x (maD (cn c 0) c (eD x)) (ePc x + 1) (eK x) (eCf x) 0 false)
  else if cn c 0 < 59 then ((scD (cn c 0) c (eD x)).1, -1, 0, if (scD (cn c 0) c (eD x)).1 = 0 then adv n x (scD (cn c 0) c (eD x)).2 (ePc x + 1) (eK x) (eCf x) 0 false else x)
  else ((leX (cn c 0) c x).1, -1, 0, if (leX (cn c 0) c x).1 = 0 then adv n x (leX (cn c 0) c x).2.2.2.2.2 (leX (cn c 0) c x).2.1 (leX (cn c 0) c x).2.2.1 (leX (cn c 0) c x).2.2.2.1 0 (leX (cn c 0) c x).2.2.2.2.1 else x)
/-- states as they can be -/
def EOk (n : Nat) (x : ES) : Prop := ePc x ≤ n ∧ eK x ≤ 16 ∧ (∀ j, j < eK x → eCf x j ≤ n) ∧ (eEn x = false → ePc x < n) ∧ WD (eD x)
theorem c_opP {p n i : Nat} {c : Nat → Nat → Int64} {o : Nat} {M : Mem} {K : RT} (hW : Wf M) (hp : (Sh p).1 = 3) (hP : PRG M p n c) (hi : i < n) (ho : c i 0 = lN o) (ho68 : o < 68) (h : K (some (.ref (100000 + o))) M) : sp_X6_op [.ref p, .int (nI i)] M K := by
  have e : (nI i * (6 : Int32)) = nI (i * 6) := pk_mul i 6
  have n100 := hP.1
  refine wX6_op hW hp ⟨?_, ?_, ?_⟩
  · rw [e]; exact vpN (by omega) (by decide)
  · rw [e, nI_clamp (by omega)]
    rw [show gL M (p + 1) (i * 6) = c i 0 from hP.2.2 i hi 0 (by decide), ho, lN_toI]
    exact vpN ho68 (by decide)
  · rw [e, nI_clamp (by omega)]
    rw [show gL M (p + 1) (i * 6) = c i 0 from hP.2.2 i hi 0 (by decide), ho, lN_toI, nI_clamp (by omega)]
    exact h
theorem PRG.mo {S : Nat → Prop} {M M' : Mem} {p n : Nat} {c : Nat → Nat → Int64} (h : Mo S M M') (h1 : ¬ S p) (h2 : ¬ S (p + 1)) (hP : PRG M p n c) : PRG M' p n c :=
  ⟨hP.1, (h.I h1).trans hP.2.1, fun i hi w hw => (h.L h2).trans (hP.2.2 i hi w hw)⟩
end EXEC
