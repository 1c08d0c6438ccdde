section TEXTS
def isLet (b : Nat) : Bool := decide (97 ≤ b ∧ b ≤ 122)
def isDig (b : Nat) : Bool := decide (48 ≤ b ∧ b ≤ 57)
def isWd (b : Nat) : Bool := isLet b || isDig b
def isBl (b : Nat) : Bool := decide (b = 32)
def noLf (b : Nat) : Bool := !decide (b = 10)
section
variable (t : Nat → Nat) (n : Nat)
/-- the byte at i, 256 without -/
def bN (i : Nat) : Nat := if i < n then t i else 256
def scG (P : Nat → Bool) : Nat → Nat → Nat
  | 0, p => p
  | f + 1, p => if p < n ∧ P (t p) = true then scG P f (p + 1) else p
/-- behind all that have P, from p on -/
def scF (P : Nat → Bool) (p : Nat) : Nat := scG t n P (n - p) p
theorem scF_eq (P : Nat → Bool) (p : Nat) : scF t n P p = if p < n ∧ P (t p) = true then scF t n P (p + 1) else p := by
  unfold scF
  by_cases h : p < n
  · obtain ⟨k, hk⟩ : ∃ k, n - p = k + 1 := ⟨n - p - 1, by omega⟩
    rw [hk, show n - (p + 1) = k by omega]
    rfl
  · rw [show n - p = 0 by omega, if_neg (fun z => h z.1)]
    rfl
theorem scF_t (P : Nat → Bool) {p : Nat} (h1 : p < n) (h2 : P (t p) = true) : scF t n P p = scF t n P (p + 1) := by rw [scF_eq, if_pos ⟨h1, h2⟩]
theorem scF_n (P : Nat → Bool) {p : Nat} (h : ¬ (p < n ∧ P (t p) = true)) : scF t n P p = p := by rw [scF_eq, if_neg h]
theorem scF_spec (P : Nat → Bool) : ∀ (k p : Nat), n - p = k → p ≤ scF t n P p ∧ (scF t n P p ≤ n ∨ scF t n P p = p) ∧ (∀ i, p ≤ i → i < scF t n P p → i < n ∧ P (t i) = true) ∧ ¬ (scF t n P p < n ∧ P (t (scF t n P p)) = true) := by
  intro k
  induction k with
  | zero =>
    intro p hp
    rw [scF_n t n P (p := p) (fun z => by omega)]
    exact ⟨Nat.le_refl _, Or.inr rfl, fun i h1 h2 => by omega, fun z => by omega⟩
  | succ k ih =>
    intro p hp
    by_cases h : P (t p) = true
    · rw [scF_t t n P (by omega) h]
      obtain ⟨a, b, c, d⟩ := ih (p + 1) (by omega)
      refine ⟨by omega, Or.inl (by omega), fun i h1 h2 => ?_, d⟩
      by_cases w : i = p
      · subst w; exact ⟨by omega, h⟩
      · exact c i (by omega) h2
    · rw [scF_n t n P (fun z => h z.2)]
      exact ⟨Nat.le_refl _, Or.inr rfl, fun i h1 h2 => by omega, fun z => h z.2⟩
theorem scF_ge (P : Nat → Bool) (p : Nat) : p ≤ scF t n P p := (scF_spec t n P _ p rfl).1
theorem scF_le (P : Nat → Bool) {p : Nat} (h : p ≤ n) : scF t n P p ≤ n := by have := (scF_spec t n P _ p rfl).2.1; omega
theorem scF_in (P : Nat → Bool) {p i : Nat} (h1 : p ≤ i) (h2 : i < scF t n P p) : i < n ∧ P (t i) = true := (scF_spec t n P _ p rfl).2.2.1 i h1 h2
/-- a token: what it is, where it begins, where it ends, whether the text is over -/
abbrev TK : Type := Nat × Nat × Nat × Bool
def kT (x : TK) : Nat := x.1
def sT (x : TK) : Nat := x.2.1
def eT (x : TK) : Nat := x.2.2.1
def oT (x : TK) : Bool := x.2.2.2
def tokA (s : Nat) : TK :=
  if n ≤ s then (101, s, s, true)
  else if isLet (t s) = true then (119, s, scF t n isWd s, false)
  else if isDig (t s) = true ∨ (t s = 45 ∧ isDig (bN t n (s + 1)) = true) then (110, s, scF t n isDig (s + 1), false)
  else if t s = 44 ∨ t s = 58 ∨ t s = 63 then (t s, s, s + 1, false)
  else if t s = 10 ∨ t s = 59 then (if scF t n noLf s < n then (101, s, scF t n noLf s + 1, false) else (101, s, scF t n noLf s, true))
  else (98, s, s, false)
def tok (p : Nat) : TK := tokA t n (scF t n isBl p)
/-- a name of that letter and a number below m -/
def nbT (ch m : Nat) (x : TK) : Option Int64 := if kT x = 119 ∧ eT x - sT x = 2 ∧ t (sT x) = ch ∧ 48 ≤ t (sT x + 1) ∧ t (sT x + 1) < 48 + m then some (lN (t (sT x + 1) - 48)) else none
def kdN (b : Nat) : Nat := if b = 98 then 0 else if b = 104 then 1 else if b = 99 then 2 else if b = 105 then 3 else if b = 108 then 4 else if b = 102 then 5 else if b = 100 then 6 else 7
def kdT (x : TK) : Option Int64 := if kT x = 119 ∧ eT x - sT x = 1 ∧ kdN (t (sT x)) < 7 then some (lN (kdN (t (sT x)))) else none
def dgV : Nat → Nat → Nat → Nat
  | 0, _, v => v
  | f + 1, p, v => dgV f (p + 1) (v * 10 + (t p - 48))
def isNeg (x : TK) : Bool := decide (t (sT x) = 45)
def nfT (x : TK) : Nat := if isNeg t x = true then sT x + 1 else sT x
/-- the number that is told -/
def nmV (x : TK) : Int := if isNeg t x = true then -(dgV t (eT x - nfT t x) (nfT t x) 0 : Int) else dgV t (eT x - nfT t x) (nfT t x) 0
def nmT (lo hi : Int) (x : TK) : Option Int64 := if kT x = 110 ∧ eT x - nfT t x ≤ 18 ∧ lo ≤ nmV t x ∧ nmV t x ≤ hi then some (Int64.ofInt (nmV t x)) else none
/-- an operand with that letter; for L its place in the text -/
def opT (L : Nat) (x : TK) : Option Int64 :=
  if L = 77 then nbT t 109 4 x else if L = 83 then nbT t 115 8 x else if L = 65 then nbT t 97 8 x else if L = 75 then kdT t x
  else if L = 76 then (if kT x = 119 ∧ eT x - sT x ≤ 12 then some (lN (sT x)) else none)
  else if L = 84 then nmT t 1 32 x else if L = 80 then nmT t 0 31 x else if L = 85 then nmT t 0 4294967295 x else if L = 78 then nmT t (-9223372036854775807) 9223372036854775807 x else nbT t 118 8 x
def wdL (o : Nat) : List Nat := tI (100200 + wIx.getD o 0)
def wdM (x : TK) (l : List Nat) : Bool := decide (l.length = eT x - sT x) && (List.range l.length).all (fun i => decide (t (sT x + i) = l.getD i 0))
def woF (x : TK) : Nat → Nat → Nat
  | 0, o => o
  | f + 1, o => if wdM t x (wdL o) = true then o else woF x f (o + 1)
/-- the number of the instruction with that WORD; 68 if there is none -/
def woN (x : TK) : Nat := woF t x 68 0
/-- are the words at a and b the same -/
def likW (a b : Nat) : Bool := decide (scF t n isWd a - a = scF t n isWd b - b) && (List.range (scF t n isWd a - a)).all (fun i => decide (t (a + i) = t (b + i)))
def lkF (lf : Nat → Nat) (p : Nat) : Nat → Nat → Option Nat
  | 0, _ => none
  | f + 1, l => if likW t n (lf l) p = true then some l else lkF lf p f (l + 1)
def lkS (lb : Nat) (lf : Nat → Nat) (p : Nat) : Option Nat := lkF t n lf p lb 0
/-- what was read: instructions, labels -/
abbrev PS : Type := Nat × (Nat → Nat → Int64) × Nat × (Nat → Nat) × (Nat → Nat)
def pD (x : PS) : Nat := x.1
def pC (x : PS) : Nat → Nat → Int64 := x.2.1
def pB (x : PS) : Nat := x.2.2.1
def pF (x : PS) : Nat → Nat := x.2.2.2.1
def pA (x : PS) : Nat → Nat := x.2.2.2.2
/-- the value of operand k, at token x: the fault's place, or what follows -/
def valA (k : Nat) (r : Nat → Int64) (x : TK) (q : Option Int64) : Nat ⊕ (Nat × (Nat → Int64)) := match q with | none => .inl (sT x) | some v => .inr (eT x, up1 r (k + 1) v)
def valS (o k : Nat) (r : Nat → Int64) (x : TK) : Nat ⊕ (Nat × (Nat → Int64)) := valA k r x (opT t (letN o k) x)
def oneS (o k : Nat) (p : Nat) (r : Nat → Int64) : Nat ⊕ (Nat × (Nat → Int64)) :=
  if 0 < k then (if kT (tok t n p) = 44 then valS t o k r (tok t n (eT (tok t n p))) else .inl (sT (tok t n p))) else valS t o k r (tok t n p)
def opsS (o : Nat) : Nat → Nat → Nat → (Nat → Int64) → Nat ⊕ (Nat × (Nat → Int64))
  | 0, _, p, r => .inr (p, r)
  | f + 1, k, p, r => match oneS t n o k p r with | .inl w => .inl w | .inr q => opsS o f (k + 1) q.1 q.2
/-- the rest of an instruction: the mask; which token follows -/
def mskS (o : Nat) (p : Nat) (r : Nat → Int64) : Nat ⊕ (TK × (Nat → Int64)) :=
  if mkT.getD o 0 = 1 ∧ kT (tok t n p) = 63 then (match nbT t 109 4 (tok t n (eT (tok t n p))) with | none => .inl (sT (tok t n (eT (tok t n p)))) | some v => .inr (tok t n (eT (tok t n (eT (tok t n p)))), up1 r 5 v))
  else .inr (tok t n p, r)
def row0 (o : Nat) : Nat → Int64 := up1 (fun _ => -1) 0 (lN o)
def insA (o : Nat) (q : Nat ⊕ (Nat × (Nat → Int64))) : Nat ⊕ (TK × (Nat → Int64)) := match q with | .inl w => .inl w | .inr q => mskS t n o q.1 q.2
def insS (o : Nat) (p : Nat) : Nat ⊕ (TK × (Nat → Int64)) := insA t n o (opsS t n o (opL o).length 0 p (row0 o))
def endS (x : TK) (st : PS) : Nat ⊕ (TK × PS) := if kT x = 101 then .inr (x, st) else .inl (sT x)
def lin2 (x : TK) (st : PS) : Nat ⊕ (TK × PS) :=
  if kT x = 119 then (if woN t x < 68 ∧ pD st ≠ 100 then (match insS t n (woN t x) (eT x) with | .inl w => .inl w | .inr q => endS q.1 (pD st + 1, up1 (pC st) (pD st) q.2, pB st, pF st, pA st)) else .inl (sT x))
  else endS x st
def linS (p : Nat) (st : PS) : Nat ⊕ (TK × PS) :=
  if kT (tok t n p) = 119 ∧ bN t n (scF t n isBl (eT (tok t n p))) = 58 then
    (if eT (tok t n p) - sT (tok t n p) ≤ 12 ∧ pB st ≠ 40 ∧ lkS t n (pB st) (pF st) (sT (tok t n p)) = none
     then lin2 t n (tok t n (eT (tok t n (eT (tok t n p))))) (pD st, pC st, pB st + 1, up1 (pF st) (pB st) (sT (tok t n p)), up1 (pA st) (pB st) (pD st)) else .inl (sT (tok t n p)))
  else lin2 t n (tok t n p) st
def lnsS : Nat → Nat → PS → Nat ⊕ PS
  | 0, _, st => .inr st
  | f + 1, p, st => match linS t n p st with | .inl w => .inl w | .inr q => if oT q.1 = true then .inr q.2 else lnsS f (eT q.1) q.2
def ldsS (lb : Nat) (lf la : Nat → Nat) : Nat → Nat → (Nat → Nat → Int64) → Nat ⊕ (Nat → Nat → Int64)
  | 0, _, c => .inr c
  | f + 1, i, c => if 0 < leadN (cn (c i) 0) then (match lkS t n lb lf (ldV (c i)) with | none => .inl (ldV (c i)) | some l => ldsS lb lf la f (i + 1) (up1 c i (up1 (c i) (leadN (cn (c i) 0)) (lN (la l))))) else ldsS lb lf la f (i + 1) c
def ps0 : PS := (0, fun _ _ => 0, 0, fun _ => 0, fun _ => 0)
def asmS : Nat ⊕ PS := match lnsS t n (n + 1) 0 ps0 with | .inl w => .inl w | .inr st => match ldsS t n (pB st) (pF st) (pA st) (pD st) 0 (pC st) with | .inl w => .inl w | .inr c => .inr (pD st, c, pB st, pF st, pA st)
end
def pAsm (s : SG) (st : PS) : SG := bgn ((0, (gTp s).2), (pD st, pC st), (pD st, pC st), pB st, false, noSt, gWw s, gKp s, gRn s)
noncomputable def sAsm (x : Int32) (s : SG) : Int32 × SG :=
  iT (inI x ((gTp s).1 + 1)) (match asmS (gTp s).2 (iv x) with
    | .inl w => ((-1 : Int32) - nI w, wTp s (0, (gTp s).2))
    | .inr st => (nI (pD st), pAsm s st)) (-5000, s)
def byF (w : Int32) (k : Nat) : Nat := w.toBitVec.toNat / 2 ^ (24 - 8 * k) % 256
def sFeed (a b c d e : Int32) (s : SG) : Int32 × SG :=
  if (gTp s).1 + 20 ≤ 4000 then (1, wTp s ((gTp s).1 + 20, fun i => if i < (gTp s).1 then (gTp s).2 i else if i < (gTp s).1 + 4 then byF a (i - (gTp s).1) else if i < (gTp s).1 + 8 then byF b (i - (gTp s).1 - 4) else if i < (gTp s).1 + 12 then byF c (i - (gTp s).1 - 8) else if i < (gTp s).1 + 16 then byF d (i - (gTp s).1 - 12) else byF e (i - (gTp s).1 - 16))) else (0, s)
-- what holds of what is read
section
variable {t : Nat → Nat} {n : Nat}
def okOpT (t : Nat → Nat) (n L : Nat) (x : Int64) : Prop := (L ≠ 76 → okOp 0 L x) ∧ (L = 76 → ∃ v, v < n ∧ x = lN v ∧ scF t n isWd v - v ≤ 12)
def RowOK (t : Nat → Nat) (n : Nat) (r : Nat → Int64) : Prop := ∃ o, o < 68 ∧ r 0 = lN o ∧ (∀ k, k < (opL o).length → okOpT t n (letN o k) (r (k + 1))) ∧ (∀ k, (opL o).length ≤ k → k < 4 → r (k + 1) = -1) ∧ (r 5 = -1 ∨ (mkT.getD o 0 = 1 ∧ ∃ v, v < 4 ∧ r 5 = lN v))
def PI (t : Nat → Nat) (n : Nat) (st : PS) : Prop := pD st ≤ 100 ∧ pB st ≤ 40 ∧ (∀ l, l < pB st → pF st l < n ∧ scF t n isWd (pF st l) - pF st l ≤ 12 ∧ pA st l ≤ pD st) ∧ ∀ i, i < pD st → RowOK t n (pC st i)
theorem nbT_ok {ch m : Nat} {x : TK} {v : Int64} (h : nbT t ch m x = some v) : ∃ q, q < m ∧ v = lN q := by
  unfold nbT at h
  split at h
  · rename_i g
    refine ⟨t (sT x + 1) - 48, by omega, (Option.some.inj h).symm⟩
  · exact absurd h (by simp)
theorem kdT_ok {x : TK} {v : Int64} (h : kdT t x = some v) : ∃ q, q < 7 ∧ v = lN q := by
  unfold kdT at h
  split at h
  · rename_i g
    exact ⟨_, g.2.2, (Option.some.inj h).symm⟩
  · exact absurd h (by simp)
theorem nmT_ok {lo hi : Int} {x : TK} {v : Int64} (h0 : 0 ≤ lo) (h : nmT t lo hi x = some v) : ∃ q : Nat, lo ≤ q ∧ (q : Int) ≤ hi ∧ v = lN q := by
  unfold nmT at h
  split at h
  · rename_i g
    refine ⟨(nmV t x).toNat, by omega, by omega, ?_⟩
    rw [← Option.some.inj h]
    have : ((nmV t x).toNat : Int) = nmV t x := by omega
    conv => lhs; rw [← this]
    rfl
  · exact absurd h (by simp)
theorem opT_ok {L : Nat} {x : TK} {v : Int64} (hL : L < 128) (hx : kT x = 119 → sT x < n ∧ eT x = scF t n isWd (sT x)) (h : opT t L x = some v) : okOpT t n L v := by
  unfold opT at h
  unfold okOpT okOp
  split at h
  · rename_i g
    obtain ⟨q, q1, q2⟩ := nbT_ok h
    subst g
    exact ⟨fun _ => ⟨fun z => absurd z (by omega), fun _ => ⟨q, q1, q2⟩, fun z => absurd z (by decide), fun z => absurd z (by decide), fun z => absurd z (by decide), fun z => absurd z (by decide), fun z => absurd z (by decide)⟩, fun z => absurd z (by decide)⟩
  · split at h
    · rename_i g
      obtain ⟨q, q1, q2⟩ := nbT_ok h
      subst g
      exact ⟨fun _ => ⟨fun _ => ⟨q, q1, q2⟩, fun z => absurd z (by decide), fun z => absurd z (by decide), fun z => absurd z (by decide), fun z => absurd z (by decide), fun z => absurd z (by decide), fun z => absurd z (by decide)⟩, fun z => absurd z (by decide)⟩
    · split at h
      · rename_i g
        obtain ⟨q, q1, q2⟩ := nbT_ok h
        subst g
        exact ⟨fun _ => ⟨fun _ => ⟨q, q1, q2⟩, fun z => absurd z (by decide), fun z => absurd z (by decide), fun z => absurd z (by decide), fun z => absurd z (by decide), fun z => absurd z (by decide), fun z => absurd z (by decide)⟩, fun z => absurd z (by decide)⟩
      · split at h
        · rename_i g
          obtain ⟨q, q1, q2⟩ := kdT_ok h
          subst g
          exact ⟨fun _ => ⟨fun z => absurd z (by omega), fun z => absurd z (by decide), fun _ => ⟨q, q1, q2⟩, fun z => absurd z (by decide), fun z => absurd z (by decide), fun z => absurd z (by decide), fun z => absurd z (by decide)⟩, fun z => absurd z (by decide)⟩
        · split at h
          · rename_i g
            split at h
            · rename_i g2
              obtain ⟨y1, y2⟩ := hx g2.1
              refine ⟨fun z => absurd g z, fun _ => ⟨sT x, y1, (Option.some.inj h).symm, by rw [← y2]; exact g2.2⟩⟩
            · exact absurd h (by simp)
          · split at h
            · rename_i g
              obtain ⟨q, q1, q2, q3⟩ := nmT_ok (by decide) h
              subst g
              exact ⟨fun _ => ⟨fun z => absurd z (by omega), fun z => absurd z (by decide), fun z => absurd z (by decide), fun _ => ⟨q, by omega, by omega, q3⟩, fun z => absurd z (by decide), fun z => absurd z (by decide), fun z => absurd z (by decide)⟩, fun z => absurd z (by decide)⟩
            · split at h
              · rename_i g
                obtain ⟨q, q1, q2, q3⟩ := nmT_ok (by decide) h
                subst g
                exact ⟨fun _ => ⟨fun z => absurd z (by omega), fun z => absurd z (by decide), fun z => absurd z (by decide), fun z => absurd z (by decide), fun _ => ⟨q, by omega, q3⟩, fun z => absurd z (by decide), fun z => absurd z (by decide)⟩, fun z => absurd z (by decide)⟩
              · split at h
                · rename_i g
                  obtain ⟨q, q1, q2, q3⟩ := nmT_ok (by decide) h
                  subst g
                  exact ⟨fun _ => ⟨fun z => absurd z (by omega), fun z => absurd z (by decide), fun z => absurd z (by decide), fun z => absurd z (by decide), fun z => absurd z (by decide), fun _ => ⟨q, by omega, q3⟩, fun z => absurd z (by decide)⟩, fun z => absurd z (by decide)⟩
                · split at h
                  · rename_i g
                    subst g
                    exact ⟨fun _ => ⟨fun z => absurd z (by omega), fun z => absurd z (by decide), fun z => absurd z (by decide), fun z => absurd z (by decide), fun z => absurd z (by decide), fun z => absurd z (by decide), fun z => absurd z (by decide)⟩, fun z => absurd z (by decide)⟩
                  · obtain ⟨q, q1, q2⟩ := nbT_ok h
                    exact ⟨fun _ => ⟨fun _ => ⟨q, q1, q2⟩, fun z => absurd z (by omega), fun z => absurd z (by omega), fun z => absurd z (by omega), fun z => absurd z (by omega), fun z => absurd z (by omega), fun z => absurd z (by omega)⟩, fun z => absurd z (by omega)⟩
theorem tok_w {p : Nat} : kT (tok t n p) = 119 → sT (tok t n p) < n ∧ eT (tok t n p) = scF t n isWd (sT (tok t n p)) := by
  unfold tok tokA
  generalize scF t n isBl p = s
  intro h
  split at h <;> rename_i g1
  · have h : (101 : Nat) = 119 := h
    omega
  · rw [if_neg g1]
    split at h <;> rename_i g2
    · rw [if_pos g2]; exact ⟨by show s < n; omega, rfl⟩
    · exfalso
      split at h
      · have h : (110 : Nat) = 119 := h
        omega
      · split at h
        · rename_i g; have : t s = 119 := h; omega
        · split at h
          · split at h
            · have h : (101 : Nat) = 119 := h
              omega
            · have h : (101 : Nat) = 119 := h
              omega
          · have h : (98 : Nat) = 119 := h
            omega
theorem valS_n {o k : Nat} {r : Nat → Int64} {x : TK} (hv : opT t (letN o k) x = none) : valS t o k r x = .inl (sT x) := by
  unfold valS
  rw [hv]
  rfl
theorem valS_s {o k : Nat} {r : Nat → Int64} {x : TK} {v : Int64} (hv : opT t (letN o k) x = some v) : valS t o k r x = .inr (eT x, up1 r (k + 1) v) := by
  unfold valS
  rw [hv]
  rfl
theorem inr_snd {α β γ : Type} {a : β} {b : γ} {c : β} {d : γ} (h : (Sum.inr (a, b) : α ⊕ (β × γ)) = .inr (c, d)) : d = b := (congrArg Prod.snd (Sum.inr.inj h)).symm
theorem valS_ok {o k : Nat} {r r' : Nat → Int64} {x : TK} {p' : Nat} (ho : o < 68) (hx : kT x = 119 → sT x < n ∧ eT x = scF t n isWd (sT x)) (h : valS t o k r x = .inr (p', r')) : ∃ v, okOpT t n (letN o k) v ∧ r' = up1 r (k + 1) v := by
  cases hv : opT t (letN o k) x with
  | none => rw [valS_n hv] at h; exact absurd h (by simp)
  | some v =>
    rw [valS_s hv] at h
    exact ⟨v, opT_ok (letN_lt ho) hx hv, inr_snd h⟩
theorem oneS_ok {o k p : Nat} {r r' : Nat → Int64} {p' : Nat} (ho : o < 68) (h : oneS t n o k p r = .inr (p', r')) : ∃ v, okOpT t n (letN o k) v ∧ r' = up1 r (k + 1) v := by
  unfold oneS at h
  split at h
  · split at h
    · exact valS_ok ho tok_w h
    · exact absurd h (by simp)
  · exact valS_ok ho tok_w h
theorem opsS_ok {o : Nat} (ho : o < 68) : ∀ (f k p : Nat) (r : Nat → Int64) (p' : Nat) (r' : Nat → Int64), opsS t n o f k p r = .inr (p', r') → (∀ j, k + f ≤ j → r' (j + 1) = r (j + 1)) ∧ r' 0 = r 0 ∧ (∀ j, j < k → r' (j + 1) = r (j + 1)) ∧ ∀ j, k ≤ j → j < k + f → okOpT t n (letN o j) (r' (j + 1)) := by
  intro f
  induction f with
  | zero =>
    intro k p r p' r' h
    have h : (Sum.inr (p, r) : Nat ⊕ (Nat × (Nat → Int64))) = .inr (p', r') := h
    have := congrArg Prod.snd (Sum.inr.inj h)
    have e : r = r' := this
    subst e
    exact ⟨fun _ _ => rfl, rfl, fun _ _ => rfl, fun j h1 h2 => by omega⟩
  | succ f ih =>
    intro k p r p' r' h
    unfold opsS at h
    split at h
    · exact absurd h (by simp)
    · rename_i q hq
      obtain ⟨q1, q2⟩ := q
      obtain ⟨v, v1, v2⟩ := oneS_ok ho hq
      obtain ⟨a, b, c, d⟩ := ih (k + 1) q1 q2 p' r' h
      subst v2
      have u : ∀ j, j ≠ k + 1 → up1 r (k + 1) v j = r j := fun j hj => up1_ne hj
      refine ⟨fun j hj => by rw [a j (by omega), u _ (by omega)], by rw [b, u _ (by omega)], fun j hj => by rw [c j (by omega), u _ (by omega)], fun j h1 h2 => ?_⟩
      by_cases w : j = k
      · subst w
        rw [c j (by omega), up1_eq]
        exact v1
      · exact d j (by omega) (by omega)
theorem insS_ok {o p : Nat} {x : TK} {r : Nat → Int64} (ho : o < 68) (h : insS t n o p = .inr (x, r)) : RowOK t n r := by
  unfold insS at h
  cases hq : opsS t n o (opL o).length 0 p (row0 o) with
  | inl w => rw [hq] at h; exact absurd (show (Sum.inl w : Nat ⊕ (TK × (Nat → Int64))) = .inr (x, r) from h) (by simp)
  | inr q =>
    rw [hq] at h
    obtain ⟨q1, q2⟩ := q
    obtain ⟨a, b, c, d⟩ := opsS_ok ho _ _ _ _ _ _ hq
    have len := opLen4 ho
    have r0 : ∀ j, row0 o (j + 1) = -1 := fun j => up1_ne (by omega)
    have e0 : q2 0 = lN o := by rw [b]; exact up1_eq
    have base : ∀ y, (y = -1 ∨ (mkT.getD o 0 = 1 ∧ ∃ v, v < 4 ∧ y = lN v)) → RowOK t n (up1 q2 5 y) := fun y hy => by
      refine ⟨o, ho, by rw [up1_ne (by decide)]; exact e0, fun k hk => ?_, fun k hk hk4 => ?_, by rw [up1_eq]; exact hy⟩
      · rw [up1_ne (by omega)]; exact d k (Nat.zero_le _) (by omega)
      · rw [up1_ne (by omega), a k (by omega)]; exact r0 k
    have e5 : q2 5 = -1 := by rw [a 4 (by omega)]; exact r0 4
    have same : up1 q2 5 (-1) = q2 := by
      funext j
      by_cases w : j = 5
      · subst w; rw [up1_eq, e5]
      · rw [up1_ne w]
    have h : mskS t n o q1 q2 = .inr (x, r) := h
    unfold mskS at h
    split at h
    · rename_i g
      cases hv : nbT t 109 4 (tok t n (eT (tok t n q1))) with
      | none => rw [hv] at h; exact absurd h (by simp)
      | some v =>
        rw [hv] at h
        have := congrArg Prod.snd (Sum.inr.inj h)
        have e : up1 q2 5 v = r := this
        rw [← e]
        obtain ⟨w, w1, w2⟩ := nbT_ok hv
        exact base v (Or.inr ⟨g.1, w, w1, w2⟩)
    · have := congrArg Prod.snd (Sum.inr.inj h)
      have e : q2 = r := this
      rw [← e, ← same]
      exact base _ (Or.inl rfl)
theorem woF_lt {x : TK} : ∀ (f o : Nat), woF t x f o ≤ o + f := by
  intro f
  induction f with
  | zero => intro o; exact Nat.le_refl _
  | succ f ih =>
    intro o
    unfold woF
    split
    · omega
    · have := ih (o + 1); omega
theorem PI.row {st : PS} {r : Nat → Int64} (h : PI t n st) (hd : pD st ≠ 100) (hr : RowOK t n r) : PI t n (pD st + 1, up1 (pC st) (pD st) r, pB st, pF st, pA st) := by
  obtain ⟨a, b, c, d⟩ := h
  refine ⟨by show pD st + 1 ≤ 100; omega, b, fun l hl => ?_, fun i hi => ?_⟩
  · obtain ⟨c1, c2, c3⟩ := c l hl
    exact ⟨c1, c2, by show pA st l ≤ pD st + 1; omega⟩
  · show RowOK t n (up1 (pC st) (pD st) r i)
    by_cases w : i = pD st
    · subst w; rw [up1_eq]; exact hr
    · rw [up1_ne w]
      have hi : i < pD st + 1 := hi
      exact d i (by omega)
theorem lin2_ok {x y : TK} {st st' : PS} (hI : PI t n st) (h : lin2 t n x st = .inr (y, st')) : PI t n st' := by
  unfold lin2 at h
  have fin : ∀ {z : TK} {s : PS}, PI t n s → endS z s = .inr (y, st') → PI t n st' := by
    intro z s hs hz
    unfold endS at hz
    split at hz
    · have := congrArg Prod.snd (Sum.inr.inj hz)
      have e : s = st' := this
      rw [← e]; exact hs
    · exact absurd hz (by simp)
  split at h
  · split at h
    · rename_i g
      split at h
      · exact absurd h (by simp)
      · rename_i q hq
        exact fin (hI.row g.2 (insS_ok g.1 hq)) h
    · exact absurd h (by simp)
  · exact fin hI h
theorem PI.lab {st : PS} {p : Nat} (h : PI t n st) (hb : pB st ≠ 40) (hp : p < n ∧ scF t n isWd p - p ≤ 12) : PI t n (pD st, pC st, pB st + 1, up1 (pF st) (pB st) p, up1 (pA st) (pB st) (pD st)) := by
  obtain ⟨a, b, c, d⟩ := h
  refine ⟨a, by show pB st + 1 ≤ 40; omega, fun l hl => ?_, d⟩
  have hl : l < pB st + 1 := hl
  show up1 (pF st) (pB st) p l < n ∧ scF t n isWd (up1 (pF st) (pB st) p l) - up1 (pF st) (pB st) p l ≤ 12 ∧ up1 (pA st) (pB st) (pD st) l ≤ pD st
  by_cases w : l = pB st
  · subst w; rw [up1_eq, up1_eq]; exact ⟨hp.1, hp.2, Nat.le_refl _⟩
  · rw [up1_ne w, up1_ne w]
    exact c l (by omega)
theorem linS_ok {p : Nat} {y : TK} {st st' : PS} (hI : PI t n st) (h : linS t n p st = .inr (y, st')) : PI t n st' := by
  unfold linS at h
  split at h
  · rename_i g
    obtain ⟨w1, w2⟩ := tok_w g.1
    split at h
    · rename_i g2
      exact lin2_ok (hI.lab g2.2.1 ⟨w1, by rw [← w2]; exact g2.1⟩) h
    · exact absurd h (by simp)
  · exact lin2_ok hI h
theorem lnsS_ok : ∀ (f p : Nat) (st st' : PS), PI t n st → lnsS t n f p st = .inr st' → PI t n st' := by
  intro f
  induction f with
  | zero =>
    intro p st st' hI h
    have h : (Sum.inr st : Nat ⊕ PS) = .inr st' := h
    rw [← Sum.inr.inj h]; exact hI
  | succ f ih =>
    intro p st st' hI h
    unfold lnsS at h
    split at h
    · exact absurd h (by simp)
    · rename_i q hq
      have hI' := linS_ok hI hq
      split at h
      · rw [← Sum.inr.inj h]; exact hI'
      · exact ih _ _ _ hI' h
theorem lkF_lt {lf : Nat → Nat} {p l : Nat} : ∀ (f i : Nat), lkF t n lf p f i = some l → i ≤ l ∧ l < i + f := by
  intro f
  induction f with
  | zero => intro i h; exact absurd h (by simp [lkF])
  | succ f ih =>
    intro i h
    unfold lkF at h
    split at h
    · have := Option.some.inj h; omega
    · have := ih (i + 1) h; omega
/-- the leads, once they are set -/
theorem RowOK.set {r : Nat → Int64} {d v : Nat} (h : RowOK t n r) (hn : n < 2 ^ 31) (hv : v ≤ d) : VI d (if 0 < leadN (cn r 0) then up1 r (leadN (cn r 0)) (lN v) else r) := by
  obtain ⟨o, p1, p2, p3, p4, p5⟩ := h
  have eo : cn r 0 = o := cn_lN p2 (by omega)
  have l3 := leadN_le (o := o)
  have ll := lead_let _ (List.mem_range.mpr p1)
  have len := opLen4 p1
  rw [eo]
  have oth : ∀ k, k < (opL o).length → letN o k ≠ 76 → okOp d (letN o k) (r (k + 1)) := fun k hk z => by
    obtain ⟨a1, a2, a3, a4, a5, a6, a7⟩ := (p3 k hk).1 z
    exact ⟨a1, a2, a3, a4, a5, a6, fun y => absurd y z⟩
  split
  · rename_i hl
    have ne : ∀ j, j ≠ leadN o → up1 r (leadN o) (lN v) j = r j := fun j hj => up1_ne hj
    refine ⟨o, p1, by rw [ne 0 (by omega)]; exact p2, fun k hk => ?_, fun k hk hk4 => ?_, by rw [ne 5 (by omega)]; exact p5⟩
    · by_cases z : letN o k = 76
      · have := ll.2 k (List.mem_range.mpr (by omega)) hk z
        rw [← this, up1_eq, z]
        exact ⟨fun z => absurd z (by omega), fun z => absurd z (by decide), fun z => absurd z (by decide), fun z => absurd z (by decide), fun z => absurd z (by decide), fun z => absurd z (by decide), fun _ => ⟨v, hv, rfl⟩⟩
      · rw [ne (k + 1) (fun y => z (by have := (ll.1 hl).2; rw [← y] at this; exact this))]
        exact oth k hk z
    · rw [ne (k + 1) (fun y => by have := (ll.1 hl).1; rw [← y] at this; omega)]
      exact p4 k hk hk4
  · rename_i hl
    refine ⟨o, p1, p2, fun k hk => ?_, p4, p5⟩
    exact oth k hk (fun z => hl (by have := ll.2 k (List.mem_range.mpr (by omega)) hk z; omega))
theorem ldsS_ok {lb d : Nat} {lf la : Nat → Nat} (hn : n < 2 ^ 31) (hla : ∀ l, l < lb → la l ≤ d) : ∀ (f i : Nat) (c c' : Nat → Nat → Int64), i + f = d → (∀ j, j < d → RowOK t n (c j) ∨ (j < i ∧ VI d (c j))) → (∀ j, j < i → VI d (c j)) → (∀ j, i ≤ j → j < d → RowOK t n (c j)) → ldsS t n lb lf la f i c = .inr c' → ∀ j, j < d → VI d (c' j) := by
  intro f
  induction f with
  | zero =>
    intro i c c' hf _ h1 _ h j hj
    have h : (Sum.inr c : Nat ⊕ (Nat → Nat → Int64)) = .inr c' := h
    rw [← Sum.inr.inj h]
    exact h1 j (by omega)
  | succ f ih =>
    intro i c c' hf h0 h1 h2 h
    unfold ldsS at h
    have hr := h2 i (Nat.le_refl _) (by omega)
    split at h
    · rename_i hl
      split at h
      · exact absurd h (by simp)
      · rename_i l hl2
        have hlt := lkF_lt _ _ hl2
        have hv := hr.set hn (hla l (by omega))
        rw [if_pos hl] at hv
        have g1 : ∀ j, j < i + 1 → VI d (up1 c i (up1 (c i) (leadN (cn (c i) 0)) (lN (la l))) j) := fun j hj => by
          by_cases w : j = i
          · subst w; rw [up1_eq]; exact hv
          · rw [up1_ne w]; exact h1 j (by omega)
        have g2 : ∀ j, i + 1 ≤ j → j < d → RowOK t n (up1 c i (up1 (c i) (leadN (cn (c i) 0)) (lN (la l))) j) := fun j hj hj2 => by
          rw [up1_ne (by omega)]; exact h2 j (by omega) hj2
        exact ih (i + 1) _ c' (by omega) (fun j hj => by
          rcases Nat.lt_or_ge j (i + 1) with w | w
          · exact Or.inr ⟨w, g1 j w⟩
          · exact Or.inl (g2 j w hj)) g1 g2 h
    · rename_i hl
      have hv := hr.set hn (Nat.zero_le d)
      rw [if_neg hl] at hv
      have g1 : ∀ j, j < i + 1 → VI d (c j) := fun j hj => by
        by_cases w : j = i
        · subst w; exact hv
        · exact h1 j (by omega)
      exact ih (i + 1) c c' (by omega) (fun j hj => (h0 j hj).imp id (fun z => ⟨by omega, z.2⟩)) g1 (fun j a b => h2 j (by omega) b) h
theorem PI0 : PI t n ps0 := ⟨Nat.zero_le _, Nat.zero_le _, fun l hl => absurd hl (Nat.not_lt_zero l), fun l hl => absurd hl (Nat.not_lt_zero l)⟩
theorem asm_ok {st : PS} (hn : n < 2 ^ 31) (h : asmS t n = .inr st) : pD st ≤ 100 ∧ pB st ≤ 40 ∧ ∀ i, i < pD st → VI (pD st) (pC st i) := by
  unfold asmS at h
  split at h
  · exact absurd h (by simp)
  · rename_i s1 h1
    obtain ⟨a, b, c, d⟩ := lnsS_ok _ _ _ _ PI0 h1
    split at h
    · exact absurd h (by simp)
    · rename_i c' h2
      have e := Sum.inr.inj h
      subst e
      exact ⟨a, b, ldsS_ok hn (fun l hl => (c l hl).2.2) _ _ _ _ (by omega) (fun j hj => Or.inl (d j hj)) (fun j hj => absurd hj (Nat.not_lt_zero j)) (fun j _ hj => d j hj) h2⟩
end
end TEXTS
