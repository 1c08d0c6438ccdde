section FRAME
abbrev Mem : Type := (Nat × Bool) × (Nat → Nat → Int32) × (Nat → Nat → Int64) × (Nat → Nat → UInt64) × (Nat → Nat → Option Nat)
def gN (M : Mem) : Nat := M.1.1
def gE (M : Mem) : Bool := M.1.2
def gI (M : Mem) : Nat → Nat → Int32 := M.2.1
def gL (M : Mem) : Nat → Nat → Int64 := M.2.2.1
def gD (M : Mem) : Nat → Nat → UInt64 := M.2.2.2.1
def gR (M : Mem) : Nat → Nat → Option Nat := M.2.2.2.2
def up2 {α : Type} (f : Nat → Nat → α) (a k : Nat) (x : α) : Nat → Nat → α := fun b j => if b = a ∧ j = k then x else f b j
def rw2 {α : Type} (f : Nat → Nat → α) (a : Nat) (r : Nat → α) : Nat → Nat → α := fun b => if b = a then r else f b
def uI (M : Mem) (a k : Nat) (x : Int32) : Mem := (M.1, up2 M.2.1 a k x, M.2.2.1, M.2.2.2.1, M.2.2.2.2)
def uL (M : Mem) (a k : Nat) (x : Int64) : Mem := (M.1, M.2.1, up2 M.2.2.1 a k x, M.2.2.2.1, M.2.2.2.2)
def uD (M : Mem) (a k : Nat) (x : UInt64) : Mem := (M.1, M.2.1, M.2.2.1, up2 M.2.2.2.1 a k x, M.2.2.2.2)
def uR (M : Mem) (a k : Nat) (x : Option Nat) : Mem := (M.1, M.2.1, M.2.2.1, M.2.2.2.1, up2 M.2.2.2.2 a k x)
def bI (M : Mem) (a : Nat) (r : Nat → Int32) : Mem := (M.1, rw2 M.2.1 a r, M.2.2.1, M.2.2.2.1, M.2.2.2.2)
def bL (M : Mem) (a : Nat) (r : Nat → Int64) : Mem := (M.1, M.2.1, rw2 M.2.2.1 a r, M.2.2.2.1, M.2.2.2.2)
def nwM (M : Mem) : Mem := ((M.1.1 + 1, M.1.2), rw2 M.2.1 M.1.1 (fun _ => 0), rw2 M.2.2.1 M.1.1 (fun _ => 0), rw2 M.2.2.2.1 M.1.1 (fun _ => 0), rw2 M.2.2.2.2 M.1.1 (fun _ => none))
theorem gN_uI (M : Mem) (a k : Nat) (x : Int32) : gN (uI M a k x) = gN M := rfl
theorem gE_uI (M : Mem) (a k : Nat) (x : Int32) : gE (uI M a k x) = gE M := rfl
theorem gI_uI (M : Mem) (a k : Nat) (x : Int32) (b j : Nat) : gI (uI M a k x) b j = if b = a ∧ j = k then x else gI M b j := rfl
theorem gL_uI (M : Mem) (a k : Nat) (x : Int32) : gL (uI M a k x) = gL M := rfl
theorem gD_uI (M : Mem) (a k : Nat) (x : Int32) : gD (uI M a k x) = gD M := rfl
theorem gR_uI (M : Mem) (a k : Nat) (x : Int32) : gR (uI M a k x) = gR M := rfl
theorem gN_uL (M : Mem) (a k : Nat) (x : Int64) : gN (uL M a k x) = gN M := rfl
theorem gE_uL (M : Mem) (a k : Nat) (x : Int64) : gE (uL M a k x) = gE M := rfl
theorem gL_uL (M : Mem) (a k : Nat) (x : Int64) (b j : Nat) : gL (uL M a k x) b j = if b = a ∧ j = k then x else gL M b j := rfl
theorem gI_uL (M : Mem) (a k : Nat) (x : Int64) : gI (uL M a k x) = gI M := rfl
theorem gD_uL (M : Mem) (a k : Nat) (x : Int64) : gD (uL M a k x) = gD M := rfl
theorem gR_uL (M : Mem) (a k : Nat) (x : Int64) : gR (uL M a k x) = gR M := rfl
theorem gN_uD (M : Mem) (a k : Nat) (x : UInt64) : gN (uD M a k x) = gN M := rfl
theorem gE_uD (M : Mem) (a k : Nat) (x : UInt64) : gE (uD M a k x) = gE M := rfl
theorem gD_uD (M : Mem) (a k : Nat) (x : UInt64) (b j : Nat) : gD (uD M a k x) b j = if b = a ∧ j = k then x else gD M b j := rfl
theorem gI_uD (M : Mem) (a k : Nat) (x : UInt64) : gI (uD M a k x) = gI M := rfl
theorem gL_uD (M : Mem) (a k : Nat) (x : UInt64) : gL (uD M a k x) = gL M := rfl
theorem gR_uD (M : Mem) (a k : Nat) (x : UInt64) : gR (uD M a k x) = gR M := rfl
theorem gN_uR (M : Mem) (a k : Nat) (x : Option Nat) : gN (uR M a k x) = gN M := rfl
theorem gE_uR (M : Mem) (a k : Nat) (x : Option Nat) : gE (uR M a k x) = gE M := rfl
theorem gR_uR (M : Mem) (a k : Nat) (x : Option Nat) (b j : Nat) : gR (uR M a k x) b j = if b = a ∧ j = k then x else gR M b j := rfl
theorem gI_uR (M : Mem) (a k : Nat) (x : Option Nat) : gI (uR M a k x) = gI M := rfl
theorem gL_uR (M : Mem) (a k : Nat) (x : Option Nat) : gL (uR M a k x) = gL M := rfl
theorem gD_uR (M : Mem) (a k : Nat) (x : Option Nat) : gD (uR M a k x) = gD M := rfl
theorem gN_bI (M : Mem) (a : Nat) (r : Nat → Int32) : gN (bI M a r) = gN M := rfl
theorem gE_bI (M : Mem) (a : Nat) (r : Nat → Int32) : gE (bI M a r) = gE M := rfl
theorem gI_bI (M : Mem) (a : Nat) (r : Nat → Int32) (b j : Nat) : gI (bI M a r) b j = if b = a then r j else gI M b j := by
  show rw2 M.2.1 a r b j = _
  unfold rw2 gI
  split <;> rfl
theorem gL_bI (M : Mem) (a : Nat) (r : Nat → Int32) : gL (bI M a r) = gL M := rfl
theorem gD_bI (M : Mem) (a : Nat) (r : Nat → Int32) : gD (bI M a r) = gD M := rfl
theorem gR_bI (M : Mem) (a : Nat) (r : Nat → Int32) : gR (bI M a r) = gR M := rfl
theorem gN_bL (M : Mem) (a : Nat) (r : Nat → Int64) : gN (bL M a r) = gN M := rfl
theorem gE_bL (M : Mem) (a : Nat) (r : Nat → Int64) : gE (bL M a r) = gE M := rfl
theorem gL_bL (M : Mem) (a : Nat) (r : Nat → Int64) (b j : Nat) : gL (bL M a r) b j = if b = a then r j else gL M b j := by
  show rw2 M.2.2.1 a r b j = _
  unfold rw2 gL
  split <;> rfl
theorem gI_bL (M : Mem) (a : Nat) (r : Nat → Int64) : gI (bL M a r) = gI M := rfl
theorem gD_bL (M : Mem) (a : Nat) (r : Nat → Int64) : gD (bL M a r) = gD M := rfl
theorem gR_bL (M : Mem) (a : Nat) (r : Nat → Int64) : gR (bL M a r) = gR M := rfl
/-- the locals, the operand stack, what goes on, what a method does -/
abbrev LocS : Type := List (Option Value)
abbrev KT : Type := LocS → List Value → Mem → Prop
abbrev RT : Type := Option Value → Mem → Prop
abbrev SP : Type := List Value → Mem → RT → Prop
def lget : Nat → LocS → Option Value
  | _, [] => none
  | 0, v :: _ => v
  | n + 1, _ :: t => lget n t
def lput : Nat → Option Value → LocS → LocS
  | _, _, [] => []
  | 0, o, _ :: t => o :: t
  | n + 1, o, a :: t => a :: lput n o t
def lk : Option Value → Option Value
  | none => none
  | some (.int x) => some (.int x)
  | some (.long _) => none
  | some (.float x) => some (.float x)
  | some (.double _) => none
  | some .null => some .null
  | some (.ref a) => some (.ref a)
  | some (.retAddr a) => some (.retAddr a)
def lkill : Nat → LocS → LocS
  | _, [] => []
  | 0, a :: t => lk a :: t
  | n + 1, a :: t => a :: lkill n t
def lset1 : Nat → Value → LocS → LocS
  | 0, v, L => lput 0 (some v) L
  | n + 1, v, L => lput (n + 1) (some v) (lkill n L)
def lset2 (i : Nat) (v : Value) (L : LocS) : LocS := lput (i + 1) none (lset1 i v L)
def lent : List Value → LocS
  | [] => []
  | .long x :: t => some (.long x) :: none :: lent t
  | .double x :: t => some (.double x) :: none :: lent t
  | .int x :: t => some (.int x) :: lent t
  | .float x :: t => some (.float x) :: lent t
  | .null :: t => some .null :: lent t
  | .ref a :: t => some (.ref a) :: lent t
  | .retAddr a :: t => some (.retAddr a) :: lent t
/-- the locals with which a method of n locals begins -/
def lini (n : Nat) (As : List Value) : LocS := lent As ++ List.replicate (n - (lent As).length) none
/-- the world: class ids, array classes, the law's start, the constants' addresses, the law's arguments -/
abbrev Wd : Type := va_G × (Nat → ClassId) × State × (Nat → Nat) × Array Value
def wS (w : Wd) : State := w.2.2.1
def b0 (w : Wd) : Nat := w.2.2.1.heap.size
def Aw (w : Wd) : Nat → Prop := fun q => b0 w ≤ q
def ad (w : Wd) (k : Nat) : Nat := if k < 100000 then b0 w + k else if k < 200000 then w.2.2.2.1 (k - 100000) else k - 200000
def tr (w : Wd) : Value → Value
  | .ref k => .ref (ad w k)
  | .int x => .int x
  | .long x => .long x
  | .float x => .float x
  | .double x => .double x
  | .null => .null
  | .retAddr x => .retAddr x
def rdv (t : Nat) (M : Mem) (a k : Nat) : Value :=
  match t with
  | 0 => .int (gI M a k)
  | 1 => .long (gL M a k)
  | 2 => .double (gD M a k)
  | 3 => va_rf (gR M a k)
  | _ => .int (gI M a k)
def flds (w : Wd) (M : Mem) (a c : Nat) : List Value := (List.range (fT c).length).map fun j => tr w (rdv ((fT c).getD j 0) M a j)
def ent (w : Wd) (M : Mem) (a : Nat) : va_E :=
  if (Sh a).1 ≤ 10 then .inr ((Sh a).1 + 3, flds w M a (Sh a).1)
  else .inl (w.2.1 (Sh a).1, (Sh a).2, if (Sh a).1 = 12 then .inr (.inr (.inr (.inl (gD M a)))) else if (Sh a).1 = 14 then .inr (.inl (gL M a))
    else if (Sh a).1 = 11 ∨ (Sh a).1 = 13 ∨ (Sh a).1 = 15 then .inl (gI M a) else .inr (.inr (.inr (.inr (fun j => (gR M a j).map (ad w))))))
def cells (w : Wd) (M : Mem) (n : Nat) : va_W := (List.range n).map fun a => (b0 w + a, ent w M a)
def tyS : List FieldType := [.byte, .double, .int, .long, .boolean, .object RX8, .object RX9, .object RX10]
def tysW (w : Wd) : List (ClassId × FieldType) := (List.range 8).map fun k => (w.2.1 (11 + k), tyS.getD k .int)
/-- the heap holds the memory's objects -/
def Rl (w : Wd) (M : Mem) (H : Heap) : Prop := va_P w.1 vwCl (cells w M (gN M)) H ∧ gN M ≤ 651 ∧ (gE M = false → gN M = 651)
def opNames : List String := ["SET", "ADD", "SUB", "MUL", "DIV", "REM", "MIN", "MAX", "AND", "OR", "XOR", "SHL", "SHR", "USH", "NEG", "ABS", "SQRT", "EQ", "NE", "LT", "LE", "GT", "GE", "SEL", "CAST", "SAT", "GATHER", "SCATTER", "LOAD", "STORE", "FILL", "IOTA", "PACK", "SPREAD", "SHUF", "ROT", "REV", "ZIP", "SORT", "SCAN", "HALF", "SUM", "LEAST", "MOST", "GET", "PUT", "MAND", "MOR", "MXOR", "MNOT", "MSET", "MCOUNT", "MFIRST", "MOV", "SADD", "SSUB", "SMUL", "SDIV", "SREM", "JMP", "JEQ", "JNE", "JLT", "JLE", "LOOP", "CALL", "RET", "END"]
def opTm (k : Nat) : Term := .static "LaneMachine$Op" (opNames.getD k "") "LLaneMachine$Op;"
/-- the different texts: their pool places -/
def tIx : List Nat := [268, 270, 276, 278, 281, 284, 287, 290, 293, 296, 299, 301, 304, 307, 310, 312, 315, 318, 321, 323, 326, 329, 331, 334, 336, 339, 342, 345, 348, 351, 354, 356, 359, 361, 364, 366, 369, 371, 374, 377, 379, 382, 385, 387, 390, 393, 395, 398, 401, 403, 406, 408, 411, 414, 417, 420, 423, 426, 428, 431, 434, 437, 439, 442, 444, 447, 449, 452, 455, 458, 460, 463, 465, 468, 470, 473, 476, 478, 481, 483, 486, 489, 492, 495, 498, 500, 503, 505, 508, 511, 514, 517, 519, 522, 525, 527, 530, 145]
def nTx : Nat := 98
def tTm (t : Nat) : Term := if t + 1 = nTx then .string "LaneMachine$Reader" 145 else .string "LaneMachine$Op" (tIx.getD t 0)
def vTm (t : Nat) : Term := .field (tTm t) "java/lang/String" "value" "[B"
/-- the constants: 0 .. 67 the enum's; 100 OPS, 101 the switches' row; 200 .. the texts, 400 .. their bytes -/
def cTm (k : Nat) : Term :=
  if k < 100 then opTm k else if k = 100 then .static "LaneMachine" "OPS" "[LLaneMachine$Op;" else if k = 101 then .static "LaneMachine$1" "$SwitchMap$LaneMachine$Op" "[I"
  else if k < 400 then tTm (k - 200) else vTm (k - 400)
def cTerm (k : Nat) : Term := cTm k
def cOk (k : Nat) : Bool := decide (k < 68) || decide (k = 100) || decide (k = 101) || (decide (200 ≤ k) && decide (k < 200 + nTx)) || (decide (400 ≤ k) && decide (k < 400 + nTx))
/-- the words that stay: what a method's own frame knows of the tables -/
def lw_ok : List Cond := lw_tbl.filter goodWord
theorem lw_in {x : Cond} (i : Nat) (h : lw_tbl[i]? = some x) (hg : goodWord x = true) : x ∈ lw_ok := List.mem_filter.mpr ⟨List.mem_of_getElem? h, hg⟩
def Ok (w : Wd) : Prop := va_K w.1 vwCl (tysW w) (wS w) ∧ (∀ x ∈ lw_tbl, x.before w.2.2.2.2 (wS w) = true) ∧ (Jvm.Cond.and given_1 narrow_1).before w.2.2.2.2 (wS w) = true
  ∧ ∀ k, cOk k = true → (cTerm k).eval w.2.2.2.2 (wS w) none [] (wS w) = some (.ref (w.2.2.2.1 k))
/-- a frame's state stands behind the law's start -/
def EnvW (w : Wd) (U : State) : Prop := (wS w).WarmedH U.vm ∧ b0 w ≤ U.heap.size ∧ ∀ q : Nat, q < b0 w → U.heap[q]? = (wS w).heap[q]?
/-- METHODS: what a method asks and answers; its room; its contract -/
def Pcm (w : Wd) (As : List Value) (M : Mem) : Array Value → State → Prop := va_Pc (As.map (tr w)) (fun U => Rl w M U.heap ∧ va_K w.1 vwCl (tysW w) U ∧ EnvW w U ∧ (gE M = true → U.heap.size = b0 w + gN M))
def Qcm (w : Wd) (n1 : Nat × Bool) (K : RT) : Array Value → State → Outcome → State → Prop := fun _ st o t => (∃ (v : Option Value) (M' : Mem), o = .returned (v.map (tr w)) ∧ K v M' ∧ M'.1 = n1 ∧ Rl w M' t.heap) ∧ va_F (Aw w) st t
def rmD (d mc ms : Nat) : Room := { frames := d, cells := mc, slots := ms, locals := 64 * d }
def Ctr (y : MethodName) (cc : ByteArray) (nL : Nat) (ret : Option FieldType) (d mc : Nat) (sp : SP) : Prop :=
  ∀ (l : Launch) (w : Wd) (As : List Value) (M : Mem) (K : RT), Ok w → sp As M K →
    Met l y (.code y cc nL ret :: lw_ok) (rmD d mc (SS (gN M + mc) - SS (gN M))) (Pcm w As M) (Qcm w (gN M + mc, gE M) K) mc (SS (gN M + mc) - SS (gN M)) (Aw w)
end FRAME
