section SPEC
/-- the whole state: tape, program, the program as assembled, labels, slimmed, break points, watches, what is kept, the run -/
abbrev SG : Type := (Nat × (Nat → Nat)) × (Nat × (Nat → Nat → Int64)) × (Nat × (Nat → Nat → Int64)) × Nat × Bool × (Nat → Bool) × (Nat → Int64) × (Nat → Option DS) × (ES × List TE × FT)
def gTp (s : SG) : Nat × (Nat → Nat) := s.1
def gPr (s : SG) : Nat × (Nat → Nat → Int64) := s.2.1
def gP0 (s : SG) : Nat × (Nat → Nat → Int64) := s.2.2.1
def gLb (s : SG) : Nat := s.2.2.2.1
def gSl (s : SG) : Bool := s.2.2.2.2.1
def gSt (s : SG) : Nat → Bool := s.2.2.2.2.2.1
def gWw (s : SG) : Nat → Int64 := s.2.2.2.2.2.2.1
def gKp (s : SG) : Nat → Option DS := s.2.2.2.2.2.2.2.1
def gRn (s : SG) : ES × List TE × FT := s.2.2.2.2.2.2.2.2
def gX (s : SG) : ES := (gRn s).1
def gTr (s : SG) : List TE := (gRn s).2.1
def gFt (s : SG) : FT := (gRn s).2.2
def gD_ (s : SG) : DS := eD (gX s)
def wTp (s : SG) (t : Nat × (Nat → Nat)) : SG := (t, s.2)
def wPr (s : SG) (p : Nat × (Nat → Nat → Int64)) (sl : Bool) : SG := (gTp s, p, gP0 s, gLb s, sl, gSt s, gWw s, gKp s, gRn s)
def wSt (s : SG) (st : Nat → Bool) : SG := (gTp s, gPr s, gP0 s, gLb s, gSl s, st, gWw s, gKp s, gRn s)
def wWw (s : SG) (w : Nat → Int64) : SG := (gTp s, gPr s, gP0 s, gLb s, gSl s, gSt s, w, gKp s, gRn s)
def wKp (s : SG) (k : Nat → Option DS) : SG := (gTp s, gPr s, gP0 s, gLb s, gSl s, gSt s, gWw s, k, gRn s)
def wRn (s : SG) (r : ES × List TE × FT) : SG := (gTp s, gPr s, gP0 s, gLb s, gSl s, gSt s, gWw s, gKp s, r)
/-- the data become others; the list is empty -/
def wDat (s : SG) (d : DS) : SG := wRn s ((d, (gX s).2), [], gFt s)
/-- BEGIN -/
def bgn (s : SG) : SG := wRn s ((clrD (gD_ s), 0, 0, eCf (gX s), 0, 0, decide ((gPr s).1 = 0)), [], noF)
/-- an int in 0 .. N - 1 -/
def inI (x : Int32) (N : Nat) : Prop := 0 ≤ x.toInt ∧ x.toInt < N
def iv (x : Int32) : Nat := x.toInt.toNat
theorem inI_lt {x : Int32} {N : Nat} (h : inI x N) : iv x < N := by unfold inI at h; unfold iv; omega
theorem inI_nI {x : Int32} {N : Nat} (h : inI x N) : x = nI (iv x) := by
  have hr := x.toInt_lt
  unfold inI at h
  apply Int32.toInt_inj.mp
  unfold iv
  have := nI_toInt (n := x.toInt.toNat) (by omega)
  rw [this]; omega
theorem inI_iff {x : Int32} {N : Nat} (hN : N < 2 ^ 31) : inI x N ↔ ¬ x < 0 ∧ ¬ nI N ≤ x := by
  unfold inI
  rw [Int32.lt_iff_toInt_lt, Int32.le_iff_toInt_le, nI_toInt (by omega)]
  have : (0 : Int32).toInt = 0 := rfl
  rw [this]
  omega
theorem inI_iff2 {x : Int32} {N : Nat} (hN : N < 2 ^ 31) : inI x N ↔ ¬ x < 0 ∧ x < nI N := by
  rw [inI_iff hN, Int32.not_le]
theorem inI_le {x : Int32} {N : Nat} (hN : N + 1 < 2 ^ 31) : inI x (N + 1) ↔ ¬ x < 0 ∧ x ≤ nI N := by
  unfold inI
  rw [Int32.lt_iff_toInt_lt, Int32.le_iff_toInt_le, nI_toInt (by omega)]
  have : (0 : Int32).toInt = 0 := rfl
  rw [this]
  omega
theorem iv_nI {v : Nat} (h : v < 2 ^ 31) : iv (nI v) = v := by unfold iv; rw [nI_toInt h]; rfl
theorem inI_of {v N : Nat} (h : v < N) (hN : N < 2 ^ 31) : inI (nI v) N := by unfold inI; rw [nI_toInt (by omega)]; omega
theorem vp_of {x : Int32} {N : Nat} (h : inI x N) (hN : N < 2 ^ 31) : vp_in x N := by rw [inI_nI h]; exact vpN (inI_lt h) hN
theorem cl_of {x : Int32} {N : Nat} (h : inI x N) (hN : N < 2 ^ 31) : x.toNatClampNeg = iv x := by
  have := inI_lt h
  conv => lhs; rw [inI_nI h]
  exact nI_clamp (by omega)
def isA (d : DS) (m : Int32) : Prop := inI m 8 ∧ dk d (2 * iv m + 1) ≠ -1
def isE (d : DS) (m i : Int32) : Prop := isA d m ∧ inI i (dn d (2 * iv m + 1))
def fstF (d : DS) : Nat → Nat → Nat
  | 0, i => i
  | j + 1, i => if dk d (2 * i + 1) = -1 then i else fstF d j (i + 1)
/-- which array is NONE -/
def ffN (d : DS) : Nat := fstF d 8 0
noncomputable def sMemory (k n : Int32) (s : SG) : Int32 × SG :=
  iT (inI k 7 ∧ inI n 65) (if ffN (gD_ s) < 8 ∧ elN (gD_ s) + iv n ≤ 400 then (nI (ffN (gD_ s)), wDat s (setRow (gD_ s) (2 * ffN (gD_ s) + 1) k (iv n) (fun _ => 0))) else (-2, s)) (-1, s)
noncomputable def sFree (m : Int32) (s : SG) : Int32 × SG := iT (isA (gD_ s) m) (1, wDat s (setRow (gD_ s) (2 * iv m + 1) (-1) 0 (di (gD_ s) (2 * iv m + 1)))) (0, s)
noncomputable def sResize (m n : Int32) (s : SG) : Int32 × SG :=
  iT (isA (gD_ s) m ∧ inI n 65) (if elN (gD_ s) - dn (gD_ s) (2 * iv m + 1) + iv n ≤ 400 then (nI (dn (gD_ s) (2 * iv m + 1)), wDat s (setRow (gD_ s) (2 * iv m + 1) (dk (gD_ s) (2 * iv m + 1)) (iv n) (fun i => if i < dn (gD_ s) (2 * iv m + 1) then di (gD_ s) (2 * iv m + 1) i else 0))) else (-2, s)) (-1, s)
noncomputable def sPoke (m i : Int32) (v : Int64) (s : SG) : Int32 × SG := iT (isE (gD_ s) m i) (1, wDat s (setIt (gD_ s) (2 * iv m + 1) (up1 (di (gD_ s) (2 * iv m + 1)) (iv i) (putJ (dk (gD_ s) (2 * iv m + 1)) v)))) (0, s)
noncomputable def sPeek (m i : Int32) (s : SG) : Option Int64 := iT (isE (gD_ s) m i) (some (di (gD_ s) (2 * iv m + 1) (iv i))) none
def shpF (d : DS) (j : Nat) (what : Int32) : Int32 := if what = 0 then dk d j else if what = 1 then nI (dn d j) else -2
noncomputable def sArray (m what : Int32) (s : SG) : Int32 := iT (inI m 8) (shpF (gD_ s) (2 * iv m + 1) what) (-2)
noncomputable def sScalar (k : Int32) (v : Int64) (s : SG) : Int32 × SG := iT (inI k 8) (1, wDat s (setS (gD_ s) (iv k) v)) (0, s)
noncomputable def sScalarOf (k : Int32) (s : SG) : Option Int64 := iT (inI k 8) (some (dsc (gD_ s) (iv k))) none
noncomputable def sRegister (v what : Int32) (s : SG) : Int32 := iT (inI v 8) (shpF (gD_ s) (2 * iv v) what) (-2)
noncomputable def sLane (v i : Int32) (s : SG) : Option Int64 := iT (inI v 8 ∧ inI i (dn (gD_ s) (2 * iv v))) (some (di (gD_ s) (2 * iv v) (iv i))) none
noncomputable def sMask (m : Int32) (s : SG) : Int32 := iT (inI m 4) (dm (gD_ s) (iv m)) 0
noncomputable def sStop (i : Int32) (on : Bool) (s : SG) : Int32 × SG := iT (inI i (gPr s).1 ∧ gSt s (iv i) ≠ on) (1, wSt s (up1 (gSt s) (iv i) on)) (0, s)
noncomputable def sWatch (m i : Int32) (on : Bool) (s : SG) : Int32 × SG := iT (inI m 8 ∧ inI i 64 ∧ (wbit (gWw s (iv m)) (iv i) ↔ on = false)) (1, wWw s (up1 (gWw s) (iv m) (gWw s (iv m) ^^^ ((1 : Int64) <<< ((nI (iv i)).toInt64 &&& 63))))) (0, s)
noncomputable def sTrace (k what : Int32) (s : SG) : Int32 := iT (inI k (gTr s).length) (match (gTr s)[iv k]? with | some t => if what = 0 then nI t.1 else if what = 1 then nI t.2.1 else -1 | none => -1) (-1)
noncomputable def sKeep (k : Int32) (s : SG) : Int32 × SG := iT (inI k 4) (1, wKp s (up1 (gKp s) (iv k) (some (gD_ s)))) (0, s)
def thr (s : SG) (a : Int32) : Prop := a = -1 ∨ (inI a 4 ∧ gKp s (iv a) ≠ none)
def stO (s : SG) (a : Int32) : DS := if a = -1 then gD_ s else (gKp s (iv a)).getD (gD_ s)
noncomputable def sDiffers (a b : Int32) (s : SG) : Int32 := iT (thr s a ∧ thr s b) (dfJ (stO s a) (stO s b)) (-1)
def sFault (what : Int32) (s : SG) : Int32 := if what = 0 then (gFt s).1 else if what = 1 then (gFt s).2.1 else if what = 2 then (gFt s).2.2 else 0
noncomputable def sRun (k : Int32) (s : SG) : Option (Int32 × SG) := iT (inI k 2001) (some ((runS (gPr s).1 (gPr s).2 (gSt s) (gWw s) (iv k) 0 (gRn s)).1, wRn s (runS (gPr s).1 (gPr s).2 (gSt s) (gWw s) (iv k) 0 (gRn s)).2)) none
def sBack (s : SG) : Int32 × SG := match gTr s with | [] => (-1, s) | t :: rest => (nI t.1, wRn s (t.2.2, rest, noF))
noncomputable def cntB (f : Nat → Bool) (n : Nat) : Nat := fb_ct f n
noncomputable def wbB (w : Nat → Int64) (j : Nat) : Bool := @decide (wbit (w (j / 64)) (j % 64)) (Classical.propDecidable _)
noncomputable def sCount (what : Int32) (s : SG) : Int32 :=
  if what = 0 then nI (gPr s).1 else if what = 1 then (eSt (gX s)).toInt32 else if what = 2 then (eLn (gX s)).toInt32 else if what = 3 then nI (elN (gD_ s)) else if what = 4 then nI (gTr s).length else if what = 5 then nI (ePc (gX s))
  else if what = 6 then nI (eK (gX s)) else if what = 7 then blI (eEn (gX s)) else if what = 8 then nI (cntB (gSt s) 100) else if what = 9 then nI (cntB (wbB (gWw s)) 512) else if what = 10 then nI (gLb s) else if what = 11 then nI (gTp s).1 else -1
noncomputable def sCode (i w : Int32) (s : SG) : Option Int64 := iT (inI i (gPr s).1 ∧ inI w 6) (some ((gPr s).2 (iv i) (iv w))) none
def noSt : Nat → Bool := fun _ => false
noncomputable def sRestore (s : SG) : Int32 × SG := if gSl s = true then (1, bgn (wSt (wPr s (gP0 s) false) noSt)) else (0, s)
end SPEC
