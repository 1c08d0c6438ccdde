section NAV2
theorem nvRegN {M : Mem} {a s : Nat} (hs : a + 5 = s) (hW : Wf M) (h : (Sh a).1 = 7) {k : Nat} (hk : k < 8) : gR M (a + 1) k = some (s + 4 * k) := by rw [← hs]; exact nvReg hW h hk
theorem nvArrN {M : Mem} {a s : Nat} (hs : a + 7 = s) (hW : Wf M) (h : (Sh a).1 = 7) {k : Nat} (hk : k < 8) : gR M (a + 2) k = some (s + 4 * k) := by rw [← hs]; exact nvArr hW h hk
theorem SstRN {a s k : Nat} (hs : a + 5 = s) (h : (Sh a).1 = 7) (hk : k < 8) : (Sh (s + 4 * k)).1 = 5 := by rw [← hs]; exact SstR h hk
theorem SstAN {a s k : Nat} (hs : a + 7 = s) (h : (Sh a).1 = 7) (hk : k < 8) : (Sh (s + 4 * k)).1 = 5 := by rw [← hs]; exact SstA h hk
end NAV2
section INSTR
variable {L : LocS} {st : List Value} {M : Mem} {K Kt Kf : KT}
theorem rI_eq {M : Mem} {a k : Nat} {x : Int32} : gI (uI M a k x) a k = x := by rw [gI_uI, if_pos ⟨rfl, rfl⟩]
theorem rL_eq {M : Mem} {a k : Nat} {x : Int64} : gL (uL M a k x) a k = x := by rw [gL_uL, if_pos ⟨rfl, rfl⟩]
theorem rD_eq {M : Mem} {a k : Nat} {x : UInt64} : gD (uD M a k x) a k = x := by rw [gD_uD, if_pos ⟨rfl, rfl⟩]
theorem rR_eq {M : Mem} {a k : Nat} {x : Option Nat} : gR (uR M a k x) a k = x := by rw [gR_uR, if_pos ⟨rfl, rfl⟩]
theorem rI_a {M : Mem} {a k b j : Nat} {x : Int32} (h : b ≠ a) : gI (uI M a k x) b j = gI M b j := by rw [gI_uI, if_neg (fun z => h z.1)]
theorem rL_a {M : Mem} {a k b j : Nat} {x : Int64} (h : b ≠ a) : gL (uL M a k x) b j = gL M b j := by rw [gL_uL, if_neg (fun z => h z.1)]
theorem rD_a {M : Mem} {a k b j : Nat} {x : UInt64} (h : b ≠ a) : gD (uD M a k x) b j = gD M b j := by rw [gD_uD, if_neg (fun z => h z.1)]
theorem rR_a {M : Mem} {a k b j : Nat} {x : Option Nat} (h : b ≠ a) : gR (uR M a k x) b j = gR M b j := by rw [gR_uR, if_neg (fun z => h z.1)]
theorem rI_k {M : Mem} {a k b j : Nat} {x : Int32} (h : j ≠ k) : gI (uI M a k x) b j = gI M b j := by rw [gI_uI, if_neg (fun z => h z.2)]
theorem rL_k {M : Mem} {a k b j : Nat} {x : Int64} (h : j ≠ k) : gL (uL M a k x) b j = gL M b j := by rw [gL_uL, if_neg (fun z => h z.2)]
theorem rD_k {M : Mem} {a k b j : Nat} {x : UInt64} (h : j ≠ k) : gD (uD M a k x) b j = gD M b j := by rw [gD_uD, if_neg (fun z => h z.2)]
theorem rR_k {M : Mem} {a k b j : Nat} {x : Option Nat} (h : j ≠ k) : gR (uR M a k x) b j = gR M b j := by rw [gR_uR, if_neg (fun z => h z.2)]
theorem lgc_ge {x y : Int64} : 0 ≤ lg_cmp x y ↔ y ≤ x := lg_cmp_ge x y
theorem lgc_le {x y : Int64} : lg_cmp x y ≤ 0 ↔ x ≤ y := lg_cmp_le x y
theorem lgc_lt {x y : Int64} : lg_cmp x y < 0 ↔ x < y := by
  rw [Int64.lt_iff_toInt_lt]
  have h := lgc_ge (x := x) (y := y)
  rw [Int64.le_iff_toInt_le, Int32.le_iff_toInt_le] at h
  rw [Int32.lt_iff_toInt_lt]
  omega
theorem lgc_gt {x y : Int64} : 0 < lg_cmp x y ↔ y < x := by
  rw [Int64.lt_iff_toInt_lt]
  have h := lgc_le (x := x) (y := y)
  rw [Int64.le_iff_toInt_le, Int32.le_iff_toInt_le] at h
  rw [Int32.lt_iff_toInt_lt]
  omega
theorem lgc_eq {x y : Int64} : lg_cmp x y = 0 ↔ x = y := by
  have h1 := lgc_ge (x := x) (y := y)
  have h2 := lgc_le (x := x) (y := y)
  rw [Int64.le_iff_toInt_le, Int32.le_iff_toInt_le] at h1 h2
  rw [← Int64.toInt_inj, ← Int32.toInt_inj]
  have h0 : (0 : Int32).toInt = 0 := by decide
  omega
theorem isOp_lit {a : Nat} (h : 100000 ≤ a ∧ a < 100068) : isOp a := h
theorem isOp_ld {i : Int32} (h : vp_in i 68) : isOp (100000 + i.toNatClampNeg) := ⟨by omega, by have := vp_lt h; omega⟩
theorem wIx_lt : ∀ k, k < 68 → wIx.getD k 0 < 98 := by decide +kernel
theorem oIx_lt : ∀ k, k < 68 → oIx.getD k 0 < 98 := by decide +kernel
theorem wTx {a : Nat} (h : isOp a) : isTx (100200 + wIx.getD (a - 100000) 0) := ⟨by omega, by have := wIx_lt (a - 100000) (by have := h.1; have := h.2; omega); omega⟩
theorem oTx {a : Nat} (h : isOp a) : isTx (100200 + oIx.getD (a - 100000) 0) := ⟨by omega, by have := oIx_lt (a - 100000) (by have := h.1; have := h.2; omega); omega⟩
theorem isTx_kinds : isTx 100297 := ⟨by decide, by decide⟩
theorem isBy_of {a : Nat} (h : isTx a) : isBy (a + 200) := ⟨by have := h.1; omega, by have := h.2; omega⟩
theorem pI_goT {K : RT} {P : Prop} {M : Mem} (h : K (some (.int (pI P))) M) (q : P) : K (some (.int 1)) M := by rw [pI_t q] at h; exact h
theorem pI_goF {K : RT} {P : Prop} {M : Mem} (h : K (some (.int (pI P))) M) (q : ¬ P) : K (some (.int 0)) M := by rw [pI_f q] at h; exact h
theorem pI_goP {K : RT} {P Q : Prop} {M : Mem} (h : K (some (.int (pI P))) M) (q : P ↔ Q) : K (some (.int (pI Q))) M := by rw [← pI_congr q]; exact h
theorem vpd {i : Int32} {n : Nat} (h : (decide (i < 0) || decide (n ≤ i.toNatClampNeg)) = false) : vp_in i n := by
  unfold vp_in
  rw [Bool.or_eq_false_iff] at h
  exact fun q => q.elim (of_decide_eq_false h.1) (of_decide_eq_false h.2)
noncomputable def iT {α : Type} (P : Prop) (a b : α) : α := @ite _ P (Classical.propDecidable P) a b
theorem iT_t {α : Type} {P : Prop} {a b : α} (h : P) : iT P a b = a := by unfold iT; rw [if_pos h]
theorem iT_f {α : Type} {P : Prop} {a b : α} (h : ¬ P) : iT P a b = b := by unfold iT; rw [if_neg h]
theorem iT_ite {α : Type} {P : Prop} {d : Decidable P} {a b : α} : iT P a b = @ite _ P d a b := by
  by_cases h : P
  · rw [iT_t h, if_pos h]
  · rw [iT_f h, if_neg h]
theorem i_iadd {x y : Int32} (h : K L (.int (x + y) :: st) M) : w_iadd K L (.int y :: .int x :: st) M := h
theorem i_isub {x y : Int32} (h : K L (.int (x - y) :: st) M) : w_isub K L (.int y :: .int x :: st) M := h
theorem i_imul {x y : Int32} (h : K L (.int (x * y) :: st) M) : w_imul K L (.int y :: .int x :: st) M := h
theorem i_iand {x y : Int32} (h : K L (.int (x &&& y) :: st) M) : w_iand K L (.int y :: .int x :: st) M := h
theorem i_ior {x y : Int32} (h : K L (.int (x ||| y) :: st) M) : w_ior K L (.int y :: .int x :: st) M := h
theorem i_ixor {x y : Int32} (h : K L (.int (x ^^^ y) :: st) M) : w_ixor K L (.int y :: .int x :: st) M := h
theorem i_ishl {x y : Int32} (h : K L (.int (x <<< (y &&& 31)) :: st) M) : w_ishl K L (.int y :: .int x :: st) M := h
theorem i_ishr {x y : Int32} (h : K L (.int (x >>> (y &&& 31)) :: st) M) : w_ishr K L (.int y :: .int x :: st) M := h
theorem i_iushr {x y : Int32} (h : K L (.int ((x.toUInt32 >>> (y.toUInt32 &&& Int32.toUInt32 31)).toInt32) :: st) M) : w_iushr K L (.int y :: .int x :: st) M := h
theorem i_ladd {x y : Int64} (h : K L (.long (x + y) :: st) M) : w_ladd K L (.long y :: .long x :: st) M := h
theorem i_lsub {x y : Int64} (h : K L (.long (x - y) :: st) M) : w_lsub K L (.long y :: .long x :: st) M := h
theorem i_lmul {x y : Int64} (h : K L (.long (x * y) :: st) M) : w_lmul K L (.long y :: .long x :: st) M := h
theorem i_land {x y : Int64} (h : K L (.long (x &&& y) :: st) M) : w_land K L (.long y :: .long x :: st) M := h
theorem i_lor {x y : Int64} (h : K L (.long (x ||| y) :: st) M) : w_lor K L (.long y :: .long x :: st) M := h
theorem i_lxor {x y : Int64} (h : K L (.long (x ^^^ y) :: st) M) : w_lxor K L (.long y :: .long x :: st) M := h
theorem i_lshl {x : Int64} {y : Int32} (h : K L (.long (x <<< (y.toInt64 &&& 63)) :: st) M) : w_lshl K L (.int y :: .long x :: st) M := h
theorem i_lshr {x : Int64} {y : Int32} (h : K L (.long (x >>> (y.toInt64 &&& 63)) :: st) M) : w_lshr K L (.int y :: .long x :: st) M := h
theorem i_lushr {x : Int64} {y : Int32} (h : K L (.long ((x.toUInt64 >>> (y.toInt64.toUInt64 &&& Int64.toUInt64 63)).toInt64) :: st) M) : w_lushr K L (.int y :: .long x :: st) M := h
theorem i_idiv {x y : Int32} (hy : ¬ y = 0) (h : K L (.int (x / y) :: st) M) : w_idiv K L (.int y :: .int x :: st) M := ⟨hy, h⟩
theorem i_irem {x y : Int32} (hy : ¬ y = 0) (h : K L (.int (x - x / y * y) :: st) M) : w_irem K L (.int y :: .int x :: st) M := ⟨hy, h⟩
theorem i_ldiv {x y : Int64} (hy : ¬ y = 0) (h : K L (.long (x / y) :: st) M) : w_ldiv K L (.long y :: .long x :: st) M := ⟨hy, h⟩
theorem i_lrem {x y : Int64} (hy : ¬ y = 0) (h : K L (.long (x - x / y * y) :: st) M) : w_lrem K L (.long y :: .long x :: st) M := ⟨hy, h⟩
theorem i_dadd {x y : UInt64} (hn : vf_n64 (FP.dadd x y)) (h : K L (.double (FP.dadd x y) :: st) M) : w_dadd K L (.double y :: .double x :: st) M := ⟨hn, h⟩
theorem i_dsub {x y : UInt64} (hn : vf_n64 (FP.dsub x y)) (h : K L (.double (FP.dsub x y) :: st) M) : w_dsub K L (.double y :: .double x :: st) M := ⟨hn, h⟩
theorem i_dmul {x y : UInt64} (hn : vf_n64 (FP.dmul x y)) (h : K L (.double (FP.dmul x y) :: st) M) : w_dmul K L (.double y :: .double x :: st) M := ⟨hn, h⟩
theorem i_ddiv {x y : UInt64} (hn : vf_n64 (FP.ddiv x y)) (h : K L (.double (FP.ddiv x y) :: st) M) : w_ddiv K L (.double y :: .double x :: st) M := ⟨hn, h⟩
theorem i_drem {x y : UInt64} (hn : vf_n64 (FP.drem x y)) (h : K L (.double (FP.drem x y) :: st) M) : w_drem K L (.double y :: .double x :: st) M := ⟨hn, h⟩
theorem i_fadd {x y : UInt32} (hn : vf_n32 (FP.fadd x y)) (h : K L (.float (FP.fadd x y) :: st) M) : w_fadd K L (.float y :: .float x :: st) M := ⟨hn, h⟩
theorem i_fsub {x y : UInt32} (hn : vf_n32 (FP.fsub x y)) (h : K L (.float (FP.fsub x y) :: st) M) : w_fsub K L (.float y :: .float x :: st) M := ⟨hn, h⟩
theorem i_fmul {x y : UInt32} (hn : vf_n32 (FP.fmul x y)) (h : K L (.float (FP.fmul x y) :: st) M) : w_fmul K L (.float y :: .float x :: st) M := ⟨hn, h⟩
theorem i_fdiv {x y : UInt32} (hn : vf_n32 (FP.fdiv x y)) (h : K L (.float (FP.fdiv x y) :: st) M) : w_fdiv K L (.float y :: .float x :: st) M := ⟨hn, h⟩
theorem i_frem {x y : UInt32} (hn : vf_n32 (FP.frem x y)) (h : K L (.float (FP.frem x y) :: st) M) : w_frem K L (.float y :: .float x :: st) M := ⟨hn, h⟩
theorem i_d2f {x : UInt64} (hn : vf_n32 (FP.d2f x)) (h : K L (.float (FP.d2f x) :: st) M) : w_d2f K L (.double x :: st) M := ⟨hn, h⟩
theorem i_f2d {x : UInt32} (hn : vf_n64 (FP.f2d x)) (h : K L (.double (FP.f2d x) :: st) M) : w_f2d K L (.float x :: st) M := ⟨hn, h⟩
theorem i_ineg {x : Int32} (h : K L (.int (-x) :: st) M) : w_ineg K L (.int x :: st) M := h
theorem i_lneg {x : Int64} (h : K L (.long (-x) :: st) M) : w_lneg K L (.long x :: st) M := h
theorem i_i2l {x : Int32} (h : K L (.long (x.toInt64) :: st) M) : w_i2l K L (.int x :: st) M := h
theorem i_l2i {x : Int64} (h : K L (.int (x.toInt32) :: st) M) : w_l2i K L (.long x :: st) M := h
theorem i_i2b {x : Int32} (h : K L (.int (x.toInt8.toInt32) :: st) M) : w_i2b K L (.int x :: st) M := h
theorem i_i2s {x : Int32} (h : K L (.int (x.toInt16.toInt32) :: st) M) : w_i2s K L (.int x :: st) M := h
theorem i_i2c {x : Int32} (h : K L (.int ((x.toUInt32 % 65536).toInt32) :: st) M) : w_i2c K L (.int x :: st) M := h
theorem i_l2d {x : Int64} (h : K L (.double (FP.l2d x) :: st) M) : w_l2d K L (.long x :: st) M := h
theorem i_l2f {x : Int64} (h : K L (.float (FP.l2f x) :: st) M) : w_l2f K L (.long x :: st) M := h
theorem i_i2d {x : Int32} (h : K L (.double (FP.i2d x) :: st) M) : w_i2d K L (.int x :: st) M := h
theorem i_d2l {x : UInt64} (h : K L (.long (FP.d2l x) :: st) M) : w_d2l K L (.double x :: st) M := h
theorem i_d2i {x : UInt64} (h : K L (.int (FP.d2i x) :: st) M) : w_d2i K L (.double x :: st) M := h
theorem i_dneg {x : UInt64} (h : K L (.double (FP.dneg x) :: st) M) : w_dneg K L (.double x :: st) M := h
theorem i_lcmp {x y : Int64} (h : K L (.int (lg_cmp x y) :: st) M) : w_lcmp K L (.long y :: .long x :: st) M := h
theorem i_dcmp {x y : UInt64} {op : CmpOp} (h : K L (.int (Op.cmpValue (FP.dcmp x y) op) :: st) M) : w_dcmp op K L (.double y :: .double x :: st) M := h
theorem i_fcmp {x y : UInt32} {op : CmpOp} (h : K L (.int (Op.cmpValue (FP.fcmp x y) op) :: st) M) : w_fcmp op K L (.float y :: .float x :: st) M := h
theorem i_dconst0 (h : K L (.double FP.dconst0 :: st) M) : w_dconst0 K L st M := h
theorem i_dconst1 (h : K L (.double FP.dconst1 :: st) M) : w_dconst1 K L st M := h
theorem i_null (h : K L (.null :: st) M) : w_null K L st M := h
theorem i_ic {v : Int32} (h : K L (.int v :: st) M) : w_ic v K L st M := h
theorem i_lc {v : Int64} (h : K L (.long v :: st) M) : w_lc v K L st M := h
theorem i_dc {v : UInt64} (h : K L (.double v :: st) M) : w_dc v K L st M := h
theorem i_eqI {x y : Int32} (e : x = y) (h : K L (.int y :: st) M) : K L (.int x :: st) M := e ▸ h
theorem i_rIe {x y : Int32} (e : x = y) (h : K L (.int y :: st) M) : K L (Option.toList (some (.int x)) ++ st) M := e ▸ h
theorem i_iincE {i : Nat} {x n y : Int32} (e : lget i L = some (.int x)) (e2 : x + n = y) (h : K (lset1 i (.int y) L) st M) : w_iinc i n K L st M := by unfold w_iinc; rw [e]; show K (lset1 i (.int (x + n)) L) st M; rw [e2]; exact h
theorem i_gets {a : Nat} (h : K L (.ref a :: st) M) : w_gets a K L st M := h
theorem i_iload {i : Nat} {x : Int32} (e : lget i L = some (.int x)) (h : K L (.int x :: st) M) : w_iload i K L st M := by unfold w_iload; rw [e]; exact h
theorem i_istore {i : Nat} {x : Int32} (e : i < L.length) (h : K (lset1 i (.int x) L) st M) : w_istore i K L (.int x :: st) M := ⟨e, h⟩
theorem i_lload {i : Nat} {x : Int64} (e : lget i L = some (.long x)) (h : K L (.long x :: st) M) : w_lload i K L st M := by unfold w_lload; rw [e]; exact h
theorem i_lstore {i : Nat} {x : Int64} (e : i + 1 < L.length) (h : K (lset2 i (.long x) L) st M) : w_lstore i K L (.long x :: st) M := ⟨e, h⟩
theorem i_dload {i : Nat} {x : UInt64} (e : lget i L = some (.double x)) (h : K L (.double x :: st) M) : w_dload i K L st M := by unfold w_dload; rw [e]; exact h
theorem i_dstore {i : Nat} {x : UInt64} (e : i + 1 < L.length) (h : K (lset2 i (.double x) L) st M) : w_dstore i K L (.double x :: st) M := ⟨e, h⟩
theorem i_fload {i : Nat} {x : UInt32} (e : lget i L = some (.float x)) (h : K L (.float x :: st) M) : w_fload i K L st M := by unfold w_fload; rw [e]; exact h
theorem i_fstore {i : Nat} {x : UInt32} (e : i < L.length) (h : K (lset1 i (.float x) L) st M) : w_fstore i K L (.float x :: st) M := ⟨e, h⟩
theorem i_aload {i : Nat} {x : Nat} (e : lget i L = some (.ref x)) (h : K L (.ref x :: st) M) : w_aload i K L st M := by unfold w_aload; rw [e]; exact h
theorem i_astore {i : Nat} {x : Nat} (e : i < L.length) (h : K (lset1 i (.ref x) L) st M) : w_astore i K L (.ref x :: st) M := ⟨e, h⟩
theorem i_iinc {i : Nat} {x n : Int32} (e : lget i L = some (.int x)) (h : K (lset1 i (.int (x + n)) L) st M) : w_iinc i n K L st M := by unfold w_iinc; rw [e]; exact h
theorem i_dup {v : Value} (e : v.category = 1) (h : K L (v :: v :: st) M) : w_dup K L (v :: st) M := ⟨e, h⟩
theorem i_pop {v : Value} (e : v.category = 1) (h : K L st M) : w_pop K L (v :: st) M := ⟨e, h⟩
theorem i_dup2 {v u : Value} (e : v.category = 1) (e2 : u.category = 1) (h : K L (v :: u :: v :: u :: st) M) : w_dup2 K L (v :: u :: st) M := ⟨e, e2, h⟩
theorem i_dup2l {v : Value} (e : v.category = 2) (h : K L (v :: v :: st) M) : w_dup2l K L (v :: st) M := ⟨e, h⟩
theorem i_icmp_eq {x y : Int32} (p : x = y → Kt L st M) (q : ¬ (x = y) → Kf L st M) : w_icmp_eq Kt Kf L (.int y :: .int x :: st) M := ⟨p, q⟩
theorem i_if_eq {x : Int32} (p : x = 0 → Kt L st M) (q : ¬ (x = 0) → Kf L st M) : w_if_eq Kt Kf L (.int x :: st) M := ⟨p, q⟩
theorem i_lcmp_eq {x y : Int64} (p : x = y → Kt L st M) (q : ¬ (x = y) → Kf L st M) : w_if_eq Kt Kf L (.int (lg_cmp x y) :: st) M := ⟨fun z => p (lgc_eq.mp z), fun z => q (fun w => z (lgc_eq.mpr w))⟩
theorem i_icmp_ne {x y : Int32} (p : ¬ x = y → Kt L st M) (q : x = y → Kf L st M) : w_icmp_ne Kt Kf L (.int y :: .int x :: st) M := ⟨p, q⟩
theorem i_if_ne {x : Int32} (p : ¬ x = 0 → Kt L st M) (q : x = 0 → Kf L st M) : w_if_ne Kt Kf L (.int x :: st) M := ⟨p, q⟩
theorem i_lcmp_ne {x y : Int64} (p : ¬ x = y → Kt L st M) (q : x = y → Kf L st M) : w_if_ne Kt Kf L (.int (lg_cmp x y) :: st) M := ⟨fun z => p (fun w => z (lgc_eq.mpr w)), fun z => q (lgc_eq.mp z)⟩
theorem i_icmp_lt {x y : Int32} (p : x < y → Kt L st M) (q : ¬ (x < y) → Kf L st M) : w_icmp_lt Kt Kf L (.int y :: .int x :: st) M := ⟨p, q⟩
theorem i_if_lt {x : Int32} (p : x < 0 → Kt L st M) (q : ¬ (x < 0) → Kf L st M) : w_if_lt Kt Kf L (.int x :: st) M := ⟨p, q⟩
theorem i_lcmp_lt {x y : Int64} (p : x < y → Kt L st M) (q : ¬ (x < y) → Kf L st M) : w_if_lt Kt Kf L (.int (lg_cmp x y) :: st) M := ⟨fun z => p (lgc_lt.mp z), fun z => q (fun w => z (lgc_lt.mpr w))⟩
theorem i_icmp_ge {x y : Int32} (p : y ≤ x → Kt L st M) (q : ¬ (y ≤ x) → Kf L st M) : w_icmp_ge Kt Kf L (.int y :: .int x :: st) M := ⟨p, q⟩
theorem i_if_ge {x : Int32} (p : 0 ≤ x → Kt L st M) (q : ¬ (0 ≤ x) → Kf L st M) : w_if_ge Kt Kf L (.int x :: st) M := ⟨p, q⟩
theorem i_lcmp_ge {x y : Int64} (p : y ≤ x → Kt L st M) (q : ¬ (y ≤ x) → Kf L st M) : w_if_ge Kt Kf L (.int (lg_cmp x y) :: st) M := ⟨fun z => p (lgc_ge.mp z), fun z => q (fun w => z (lgc_ge.mpr w))⟩
theorem i_icmp_gt {x y : Int32} (p : y < x → Kt L st M) (q : ¬ (y < x) → Kf L st M) : w_icmp_gt Kt Kf L (.int y :: .int x :: st) M := ⟨p, q⟩
theorem i_if_gt {x : Int32} (p : 0 < x → Kt L st M) (q : ¬ (0 < x) → Kf L st M) : w_if_gt Kt Kf L (.int x :: st) M := ⟨p, q⟩
theorem i_lcmp_gt {x y : Int64} (p : y < x → Kt L st M) (q : ¬ (y < x) → Kf L st M) : w_if_gt Kt Kf L (.int (lg_cmp x y) :: st) M := ⟨fun z => p (lgc_gt.mp z), fun z => q (fun w => z (lgc_gt.mpr w))⟩
theorem i_icmp_le {x y : Int32} (p : x ≤ y → Kt L st M) (q : ¬ (x ≤ y) → Kf L st M) : w_icmp_le Kt Kf L (.int y :: .int x :: st) M := ⟨p, q⟩
theorem i_if_le {x : Int32} (p : x ≤ 0 → Kt L st M) (q : ¬ (x ≤ 0) → Kf L st M) : w_if_le Kt Kf L (.int x :: st) M := ⟨p, q⟩
theorem i_lcmp_le {x y : Int64} (p : x ≤ y → Kt L st M) (q : ¬ (x ≤ y) → Kf L st M) : w_if_le Kt Kf L (.int (lg_cmp x y) :: st) M := ⟨fun z => p (lgc_le.mp z), fun z => q (fun w => z (lgc_le.mpr w))⟩
theorem i_bI_eq {P : Prop} (p : ¬ P → Kt L st M) (q : P → Kf L st M) : w_if_eq Kt Kf L (.int (pI P) :: st) M := ⟨fun z => p (pI_0.mp z), fun z => q (Classical.byContradiction fun w => z (pI_0.mpr w))⟩
theorem i_bI_ne {P : Prop} (p : P → Kt L st M) (q : ¬ P → Kf L st M) : w_if_ne Kt Kf L (.int (pI P) :: st) M := ⟨fun z => p (Classical.byContradiction fun w => z (pI_0.mpr w)), fun z => q (pI_0.mp z)⟩
theorem i_acmp_eq {x y : Nat} (hx : isOp x) (hy : isOp y) (p : x = y → Kt L st M) (q : ¬ x = y → Kf L st M) : w_acmp_eq Kt Kf L (.ref y :: .ref x :: st) M := ⟨Or.inr hx, Or.inr hy, fun z => p (Option.some.inj z), fun z => q (fun w => z (congrArg some w))⟩
theorem i_acmp_ne {x y : Nat} (hx : isOp x) (hy : isOp y) (p : ¬ x = y → Kt L st M) (q : x = y → Kf L st M) : w_acmp_ne Kt Kf L (.ref y :: .ref x :: st) M := ⟨Or.inr hx, Or.inr hy, fun z => p (fun w => z (congrArg some w)), fun z => q (Option.some.inj z)⟩
theorem i_getI {ci k a : Nat} (o : okA M a ci) (h : K L (.int (gI M a k) :: st) M) : w_getf ci k 0 K L (.ref a :: st) M := ⟨o, h⟩
theorem i_getI4 {ci k a : Nat} (o : okA M a ci) (h : K L (.int (gI M a k) :: st) M) : w_getf ci k 4 K L (.ref a :: st) M := ⟨o, h⟩
theorem i_getI5 {ci k a : Nat} (o : okA M a ci) (h : K L (.int (gI M a k) :: st) M) : w_getf ci k 5 K L (.ref a :: st) M := ⟨o, h⟩
theorem i_getL {ci k a : Nat} (o : okA M a ci) (h : K L (.long (gL M a k) :: st) M) : w_getf ci k 1 K L (.ref a :: st) M := ⟨o, h⟩
theorem i_getD {ci k a : Nat} (o : okA M a ci) (h : K L (.double (gD M a k) :: st) M) : w_getf ci k 2 K L (.ref a :: st) M := ⟨o, h⟩
theorem i_getR {ci k a r : Nat} (o : okA M a ci) (e : gR M a k = some r) (h : K L (.ref r :: st) M) : w_getf ci k 3 K L (.ref a :: st) M := ⟨o, by show K L (va_rf (gR M a k) :: st) M; rw [e]; exact h⟩
theorem i_getIE {ci k a : Nat} {v : Int32} (o : okA M a ci) (e : gI M a k = v) (h : K L (.int v :: st) M) : w_getf ci k 0 K L (.ref a :: st) M := ⟨o, by show K L (.int (gI M a k) :: st) M; rw [e]; exact h⟩
theorem i_getI4E {ci k a : Nat} {v : Int32} (o : okA M a ci) (e : gI M a k = v) (h : K L (.int v :: st) M) : w_getf ci k 4 K L (.ref a :: st) M := ⟨o, by show K L (.int (gI M a k) :: st) M; rw [e]; exact h⟩
theorem i_getI5E {ci k a : Nat} {v : Int32} (o : okA M a ci) (e : gI M a k = v) (h : K L (.int v :: st) M) : w_getf ci k 5 K L (.ref a :: st) M := ⟨o, by show K L (.int (gI M a k) :: st) M; rw [e]; exact h⟩
theorem i_getLE {ci k a : Nat} {v : Int64} (o : okA M a ci) (e : gL M a k = v) (h : K L (.long v :: st) M) : w_getf ci k 1 K L (.ref a :: st) M := ⟨o, by show K L (.long (gL M a k) :: st) M; rw [e]; exact h⟩
theorem i_getDE {ci k a : Nat} {v : UInt64} (o : okA M a ci) (e : gD M a k = v) (h : K L (.double v :: st) M) : w_getf ci k 2 K L (.ref a :: st) M := ⟨o, by show K L (.double (gD M a k) :: st) M; rw [e]; exact h⟩
theorem i_ialdE {a n : Nat} {i : Int32} {v : Int32} (hW : Wf M) (e : Sh a = (13, n)) (q : gI M a i.toNatClampNeg = v) (b : vp_in i n) (h : K L (.int v :: st) M) : w_iald K L (.int i :: .ref a :: st) M := ⟨okT hW e, by rw [e]; exact b, by rw [q]; exact h⟩
theorem i_baldE {a n : Nat} {i : Int32} {v : Int32} (hW : Wf M) (e : Sh a = (11, n)) (q : gI M a i.toNatClampNeg = v) (b : vp_in i n) (h : K L (.int v :: st) M) : w_bald K L (.int i :: .ref a :: st) M := ⟨okT hW e, by rw [e]; exact b, by rw [q]; exact h⟩
theorem i_zaldE {a n : Nat} {i : Int32} {v : Int32} (hW : Wf M) (e : Sh a = (15, n)) (q : gI M a i.toNatClampNeg = v) (b : vp_in i n) (h : K L (.int v :: st) M) : w_zald K L (.int i :: .ref a :: st) M := ⟨okT hW e, by rw [e]; exact b, by rw [q]; exact h⟩
theorem i_laldE {a n : Nat} {i : Int32} {v : Int64} (hW : Wf M) (e : Sh a = (14, n)) (q : gL M a i.toNatClampNeg = v) (b : vp_in i n) (h : K L (.long v :: st) M) : w_lald K L (.int i :: .ref a :: st) M := ⟨okT hW e, by rw [e]; exact b, by rw [q]; exact h⟩
theorem i_daldE {a n : Nat} {i : Int32} {v : UInt64} (hW : Wf M) (e : Sh a = (12, n)) (q : gD M a i.toNatClampNeg = v) (b : vp_in i n) (h : K L (.double v :: st) M) : w_dald K L (.int i :: .ref a :: st) M := ⟨okT hW e, by rw [e]; exact b, by rw [q]; exact h⟩
theorem i_putI {ci k a : Nat} {x : Int32} (o : okA M a ci) (h : K L st (uI M a k x)) : w_putI ci k K L (.int x :: .ref a :: st) M := ⟨o, h⟩
theorem i_putZ {ci k a : Nat} {x : Int32} (o : okA M a ci) (b : x = 0 ∨ x = 1) (h : K L st (uI M a k x)) : w_putZ ci k K L (.int x :: .ref a :: st) M := ⟨o, b, h⟩
theorem i_putC {ci k a : Nat} {x : Int32} (o : okA M a ci) (b : 0 ≤ x ∧ x < 65536) (h : K L st (uI M a k x)) : w_putC ci k K L (.int x :: .ref a :: st) M := ⟨o, b, h⟩
theorem i_putL {ci k a : Nat} {x : Int64} (o : okA M a ci) (h : K L st (uL M a k x)) : w_putL ci k K L (.long x :: .ref a :: st) M := ⟨o, h⟩
theorem i_putD {ci k a : Nat} {x : UInt64} (o : okA M a ci) (h : K L st (uD M a k x)) : w_putD ci k K L (.double x :: .ref a :: st) M := ⟨o, h⟩
theorem i_putR {ci k a x : Nat} (o : okA M a ci) (h : K L st (uR M a k (some x))) : w_putR ci k K L (.ref x :: .ref a :: st) M := ⟨o, h⟩
theorem i_iald {a n : Nat} {i : Int32} (hW : Wf M) (e : Sh a = (13, n)) (v : vp_in i n) (h : K L (.int (gI M a i.toNatClampNeg) :: st) M) : w_iald K L (.int i :: .ref a :: st) M := ⟨okT hW e, by rw [e]; exact v, h⟩
theorem i_bald {a n : Nat} {i : Int32} (hW : Wf M) (e : Sh a = (11, n)) (v : vp_in i n) (h : K L (.int (gI M a i.toNatClampNeg) :: st) M) : w_bald K L (.int i :: .ref a :: st) M := ⟨okT hW e, by rw [e]; exact v, h⟩
theorem i_zald {a n : Nat} {i : Int32} (hW : Wf M) (e : Sh a = (15, n)) (v : vp_in i n) (h : K L (.int (gI M a i.toNatClampNeg) :: st) M) : w_zald K L (.int i :: .ref a :: st) M := ⟨okT hW e, by rw [e]; exact v, h⟩
theorem i_lald {a n : Nat} {i : Int32} (hW : Wf M) (e : Sh a = (14, n)) (v : vp_in i n) (h : K L (.long (gL M a i.toNatClampNeg) :: st) M) : w_lald K L (.int i :: .ref a :: st) M := ⟨okT hW e, by rw [e]; exact v, h⟩
theorem i_dald {a n : Nat} {i : Int32} (hW : Wf M) (e : Sh a = (12, n)) (v : vp_in i n) (h : K L (.double (gD M a i.toNatClampNeg) :: st) M) : w_dald K L (.int i :: .ref a :: st) M := ⟨okT hW e, by rw [e]; exact v, h⟩
theorem i_iast {a n : Nat} {i : Int32} {x : Int32} (hW : Wf M) (e : Sh a = (13, n)) (v : vp_in i n) (h : K L st (uI M a i.toNatClampNeg x)) : w_iast K L (.int x :: .int i :: .ref a :: st) M := ⟨okT hW e, by rw [e]; exact v, h⟩
theorem i_bast {a n : Nat} {i : Int32} {x : Int32} (hW : Wf M) (e : Sh a = (11, n)) (v : vp_in i n) (h : K L st (uI M a i.toNatClampNeg (vp_nar .byte x))) : w_bast K L (.int x :: .int i :: .ref a :: st) M := ⟨okT hW e, by rw [e]; exact v, h⟩
theorem i_zast {a n : Nat} {i : Int32} {x : Int32} (hW : Wf M) (e : Sh a = (15, n)) (v : vp_in i n) (h : K L st (uI M a i.toNatClampNeg (vp_nar .boolean x))) : w_zast K L (.int x :: .int i :: .ref a :: st) M := ⟨okT hW e, by rw [e]; exact v, h⟩
theorem i_last {a n : Nat} {i : Int32} {x : Int64} (hW : Wf M) (e : Sh a = (14, n)) (v : vp_in i n) (h : K L st (uL M a i.toNatClampNeg x)) : w_last K L (.long x :: .int i :: .ref a :: st) M := ⟨okT hW e, by rw [e]; exact v, h⟩
theorem i_dast {a n : Nat} {i : Int32} {x : UInt64} (hW : Wf M) (e : Sh a = (12, n)) (v : vp_in i n) (h : K L st (uD M a i.toNatClampNeg x)) : w_dast K L (.double x :: .int i :: .ref a :: st) M := ⟨okT hW e, by rw [e]; exact v, h⟩
theorem i_aald {a n kd r : Nat} {i : Int32} (hW : Wf M) (e : Sh a = (kd, n)) (v : vp_in i n) (e2 : gR M a i.toNatClampNeg = some r) (h : K L (.ref r :: st) M) : w_aald kd K L (.int i :: .ref a :: st) M := ⟨okT hW e, by rw [e]; exact v, by rw [e2]; exact h⟩
theorem i_aast {a n kd x : Nat} {i : Int32} (hW : Wf M) (e : Sh a = (kd, n)) (o : okA M x (kd - 11)) (v : vp_in i n) (h : K L st (uR M a i.toNatClampNeg (some x))) : w_aast kd K L (.ref x :: .int i :: .ref a :: st) M := ⟨okT hW e, o, by rw [e]; exact v, h⟩
theorem i_alen {a n kd : Nat} (hW : Wf M) (e : Sh a = (kd, n)) (b : 11 ≤ kd ∧ kd ≤ 18) (h : K L (.int (Int32.ofNat n) :: st) M) : w_alen K L (.ref a :: st) M := ⟨⟨by rw [e]; exact b, (okT hW e).2⟩, by rw [e]; exact h⟩
theorem i_copyL {a b la lb : Nat} {n dp sp : Int32} (hW : Wf M) (ea : Sh a = (14, la)) (eb : Sh b = (14, lb)) (hl : st.length ≤ 4) (c : ¬ sp < 0 ∧ ¬ dp < 0 ∧ ¬ n < 0 ∧ sp.toNatClampNeg + n.toNatClampNeg ≤ la ∧ dp.toNatClampNeg + n.toNatClampNeg ≤ lb) (h : K L st (bL M b (va_cpy (gL M a) (gL M b) sp.toNatClampNeg dp.toNatClampNeg n.toNatClampNeg))) : w_copyL K L (.int n :: .int dp :: .ref b :: .int sp :: .ref a :: st) M := ⟨okT hW ea, okT hW eb, hl, ⟨c.1, c.2.1, c.2.2.1, by rw [ea]; exact c.2.2.2.1, by rw [eb]; exact c.2.2.2.2⟩, h⟩
theorem i_copyI {a b la lb : Nat} {n dp sp : Int32} (hW : Wf M) (ea : Sh a = (13, la)) (eb : Sh b = (13, lb)) (hl : st.length ≤ 4) (c : ¬ sp < 0 ∧ ¬ dp < 0 ∧ ¬ n < 0 ∧ sp.toNatClampNeg + n.toNatClampNeg ≤ la ∧ dp.toNatClampNeg + n.toNatClampNeg ≤ lb) (h : K L st (bI M b (va_cpy (gI M a) (gI M b) sp.toNatClampNeg dp.toNatClampNeg n.toNatClampNeg))) : w_copyI K L (.int n :: .int dp :: .ref b :: .int sp :: .ref a :: st) M := ⟨okT hW ea, okT hW eb, hl, ⟨c.1, c.2.1, c.2.2.1, by rw [ea]; exact c.2.2.2.1, by rw [eb]; exact c.2.2.2.2⟩, h⟩
theorem i_opword {a : Nat} (o : isOp a) (h : K L (.ref (100200 + wIx.getD (a - 100000) 0) :: st) M) : w_opword K L (.ref a :: st) M := ⟨o, h⟩
theorem i_opoperands {a : Nat} (o : isOp a) (h : K L (.ref (100200 + oIx.getD (a - 100000) 0) :: st) M) : w_opoperands K L (.ref a :: st) M := ⟨o, h⟩
theorem i_opmasked {a : Nat} (o : isOp a) (h : K L (.int (Int32.ofNat (mkT.getD (a - 100000) 0)) :: st) M) : w_opmasked K L (.ref a :: st) M := ⟨o, h⟩
theorem i_ordinal {a : Nat} (o : isOp a) (h : K L (.int (Int32.ofNat (a - 100000)) :: st) M) : w_ordinal K L (.ref a :: st) M := ⟨o, h⟩
theorem i_ord {a : Nat} (o : isOp a) (h : K L (.int (Int32.ofNat (a - 100000)) :: st) M) (hl : st.length ≤ 4 := by exact Nat.le_of_ble_eq_true rfl) : w_ord K L (.ref a :: st) M := ⟨o, hl, h⟩
theorem i_swldO {a : Nat} (o : isOp a) (h : K L (.int (Int32.ofNat (swT.getD (a - 100000) 0)) :: st) M) : w_swld K L (.int (Int32.ofNat (a - 100000)) :: .ref 100101 :: st) M := by
  have e : (Int32.ofNat (a - 100000)).toNatClampNeg = a - 100000 := nI_clamp (by have := o.2; omega)
  exact ⟨nI_in (by have := o.1; have := o.2; omega) (by decide), by rw [e]; exact h⟩
theorem i_swldC {i v : Int32} (hv : vp_in i 68) (e : Int32.ofNat (swT.getD i.toNatClampNeg 0) = v) (h : K L (.int v :: st) M) : w_swld K L (.int i :: .ref 100101 :: st) M := ⟨hv, e ▸ h⟩
theorem i_swld {i : Int32} (v : vp_in i 68) (h : K L (.int (Int32.ofNat (swT.getD i.toNatClampNeg 0)) :: st) M) : w_swld K L (.int i :: .ref 100101 :: st) M := ⟨v, h⟩
theorem i_opsld {i : Int32} (v : vp_in i 68) (h : K L (.ref (100000 + i.toNatClampNeg) :: st) M) : w_opsld K L (.int i :: .ref 100100 :: st) M := ⟨v, h⟩
theorem i_opslen (h : K L (.int 68 :: st) M) : w_opslen K L (.ref 100100 :: st) M := h
theorem i_ldcS {n : Nat} (h : K L (.ref 100297 :: st) M) : w_ldcS n K L st M := h
theorem i_strvalue {a : Nat} (o : isTx a) (h : K L (.ref (a + 200) :: st) M) : w_strvalue K L (.ref a :: st) M := ⟨o, h⟩
theorem i_strcoder {a : Nat} (o : isTx a) (h : K L (.int 0 :: st) M) : w_strcoder K L (.ref a :: st) M := ⟨o, h⟩
theorem i_strld {a : Nat} {i : Int32} (o : isBy a) (v : vp_in i (tBy.getD (a - 100400) []).length) (h : K L (.int (Int32.ofNat ((tBy.getD (a - 100400) []).getD i.toNatClampNeg 0)) :: st) M) : w_strld K L (.int i :: .ref a :: st) M := ⟨o, v, h⟩
theorem i_strlen {a : Nat} (o : isBy a) (h : K L (.int (Int32.ofNat (tBy.getD (a - 100400) []).length) :: st) M) : w_strlen K L (.ref a :: st) M := ⟨o, h⟩
theorem i_f2raw {b : UInt32} (hl : st.length ≤ 4) (h : K L (.int b.toInt32 :: st) M) : w_f2raw K L (.float b :: st) M := ⟨hl, h⟩
theorem i_d2raw {b : UInt64} (hl : st.length ≤ 4) (h : K L (.long b.toInt64 :: st) M) : w_d2raw K L (.double b :: st) M := ⟨hl, h⟩
theorem i_callS0 {sp : SP} (hl : zsT st ≤ 8) (h : sp [] M (fun v M' => K L (v.toList ++ st) M')) : w_callS 0 sp K L (st) M := ⟨hl, h⟩
theorem i_callS1 {v1 : Value} {sp : SP} (hl : zsT st ≤ 8) (h : sp [v1] M (fun v M' => K L (v.toList ++ st) M')) : w_callS 1 sp K L (v1 :: st) M := ⟨hl, h⟩
theorem i_callV1 {a : Nat} {sp : SP} {ci : Nat} (hl : zsT st ≤ 8) (o : okA M a ci) (h : sp [.ref a] M (fun v M' => K L (v.toList ++ st) M')) : w_callV ci 1 sp K L (.ref a :: st) M := ⟨hl, o, h⟩
theorem i_callE1 {a : Nat} {sp : SP} (hl : st.length ≤ 4) (o : isOp a) (h : sp [.ref a] M (fun v M' => K L (v.toList ++ st) M')) : w_callE 1 sp K L (.ref a :: st) M := ⟨hl, o, h⟩
theorem i_callT1 {a : Nat} {sp : SP} (hl : st.length ≤ 4) (o : isTx a) (h : sp [.ref a] M (fun v M' => K L (v.toList ++ st) M')) : w_callT 1 sp K L (.ref a :: st) M := ⟨hl, o, h⟩
theorem i_callS2 {v1 v2 : Value} {sp : SP} (hl : zsT st ≤ 8) (h : sp [v1, v2] M (fun v M' => K L (v.toList ++ st) M')) : w_callS 2 sp K L (v2 :: v1 :: st) M := ⟨hl, h⟩
theorem i_callV2 {a : Nat} {v2 : Value} {sp : SP} {ci : Nat} (hl : zsT st ≤ 8) (o : okA M a ci) (h : sp [.ref a, v2] M (fun v M' => K L (v.toList ++ st) M')) : w_callV ci 2 sp K L (v2 :: .ref a :: st) M := ⟨hl, o, h⟩
theorem i_callE2 {a : Nat} {v2 : Value} {sp : SP} (hl : st.length ≤ 4) (o : isOp a) (h : sp [.ref a, v2] M (fun v M' => K L (v.toList ++ st) M')) : w_callE 2 sp K L (v2 :: .ref a :: st) M := ⟨hl, o, h⟩
theorem i_callT2 {a : Nat} {v2 : Value} {sp : SP} (hl : st.length ≤ 4) (o : isTx a) (h : sp [.ref a, v2] M (fun v M' => K L (v.toList ++ st) M')) : w_callT 2 sp K L (v2 :: .ref a :: st) M := ⟨hl, o, h⟩
theorem i_callS3 {v1 v2 v3 : Value} {sp : SP} (hl : zsT st ≤ 8) (h : sp [v1, v2, v3] M (fun v M' => K L (v.toList ++ st) M')) : w_callS 3 sp K L (v3 :: v2 :: v1 :: st) M := ⟨hl, h⟩
theorem i_callV3 {a : Nat} {v2 v3 : Value} {sp : SP} {ci : Nat} (hl : zsT st ≤ 8) (o : okA M a ci) (h : sp [.ref a, v2, v3] M (fun v M' => K L (v.toList ++ st) M')) : w_callV ci 3 sp K L (v3 :: v2 :: .ref a :: st) M := ⟨hl, o, h⟩
theorem i_callE3 {a : Nat} {v2 v3 : Value} {sp : SP} (hl : st.length ≤ 4) (o : isOp a) (h : sp [.ref a, v2, v3] M (fun v M' => K L (v.toList ++ st) M')) : w_callE 3 sp K L (v3 :: v2 :: .ref a :: st) M := ⟨hl, o, h⟩
theorem i_callT3 {a : Nat} {v2 v3 : Value} {sp : SP} (hl : st.length ≤ 4) (o : isTx a) (h : sp [.ref a, v2, v3] M (fun v M' => K L (v.toList ++ st) M')) : w_callT 3 sp K L (v3 :: v2 :: .ref a :: st) M := ⟨hl, o, h⟩
theorem i_callS4 {v1 v2 v3 v4 : Value} {sp : SP} (hl : zsT st ≤ 8) (h : sp [v1, v2, v3, v4] M (fun v M' => K L (v.toList ++ st) M')) : w_callS 4 sp K L (v4 :: v3 :: v2 :: v1 :: st) M := ⟨hl, h⟩
theorem i_callV4 {a : Nat} {v2 v3 v4 : Value} {sp : SP} {ci : Nat} (hl : zsT st ≤ 8) (o : okA M a ci) (h : sp [.ref a, v2, v3, v4] M (fun v M' => K L (v.toList ++ st) M')) : w_callV ci 4 sp K L (v4 :: v3 :: v2 :: .ref a :: st) M := ⟨hl, o, h⟩
theorem i_callE4 {a : Nat} {v2 v3 v4 : Value} {sp : SP} (hl : st.length ≤ 4) (o : isOp a) (h : sp [.ref a, v2, v3, v4] M (fun v M' => K L (v.toList ++ st) M')) : w_callE 4 sp K L (v4 :: v3 :: v2 :: .ref a :: st) M := ⟨hl, o, h⟩
theorem i_callT4 {a : Nat} {v2 v3 v4 : Value} {sp : SP} (hl : st.length ≤ 4) (o : isTx a) (h : sp [.ref a, v2, v3, v4] M (fun v M' => K L (v.toList ++ st) M')) : w_callT 4 sp K L (v4 :: v3 :: v2 :: .ref a :: st) M := ⟨hl, o, h⟩
theorem i_callS5 {v1 v2 v3 v4 v5 : Value} {sp : SP} (hl : zsT st ≤ 8) (h : sp [v1, v2, v3, v4, v5] M (fun v M' => K L (v.toList ++ st) M')) : w_callS 5 sp K L (v5 :: v4 :: v3 :: v2 :: v1 :: st) M := ⟨hl, h⟩
theorem i_callV5 {a : Nat} {v2 v3 v4 v5 : Value} {sp : SP} {ci : Nat} (hl : zsT st ≤ 8) (o : okA M a ci) (h : sp [.ref a, v2, v3, v4, v5] M (fun v M' => K L (v.toList ++ st) M')) : w_callV ci 5 sp K L (v5 :: v4 :: v3 :: v2 :: .ref a :: st) M := ⟨hl, o, h⟩
theorem i_callE5 {a : Nat} {v2 v3 v4 v5 : Value} {sp : SP} (hl : st.length ≤ 4) (o : isOp a) (h : sp [.ref a, v2, v3, v4, v5] M (fun v M' => K L (v.toList ++ st) M')) : w_callE 5 sp K L (v5 :: v4 :: v3 :: v2 :: .ref a :: st) M := ⟨hl, o, h⟩
theorem i_callT5 {a : Nat} {v2 v3 v4 v5 : Value} {sp : SP} (hl : st.length ≤ 4) (o : isTx a) (h : sp [.ref a, v2, v3, v4, v5] M (fun v M' => K L (v.toList ++ st) M')) : w_callT 5 sp K L (v5 :: v4 :: v3 :: v2 :: .ref a :: st) M := ⟨hl, o, h⟩
theorem i_callS6 {v1 v2 v3 v4 v5 v6 : Value} {sp : SP} (hl : zsT st ≤ 8) (h : sp [v1, v2, v3, v4, v5, v6] M (fun v M' => K L (v.toList ++ st) M')) : w_callS 6 sp K L (v6 :: v5 :: v4 :: v3 :: v2 :: v1 :: st) M := ⟨hl, h⟩
theorem i_callV6 {a : Nat} {v2 v3 v4 v5 v6 : Value} {sp : SP} {ci : Nat} (hl : zsT st ≤ 8) (o : okA M a ci) (h : sp [.ref a, v2, v3, v4, v5, v6] M (fun v M' => K L (v.toList ++ st) M')) : w_callV ci 6 sp K L (v6 :: v5 :: v4 :: v3 :: v2 :: .ref a :: st) M := ⟨hl, o, h⟩
theorem i_callE6 {a : Nat} {v2 v3 v4 v5 v6 : Value} {sp : SP} (hl : st.length ≤ 4) (o : isOp a) (h : sp [.ref a, v2, v3, v4, v5, v6] M (fun v M' => K L (v.toList ++ st) M')) : w_callE 6 sp K L (v6 :: v5 :: v4 :: v3 :: v2 :: .ref a :: st) M := ⟨hl, o, h⟩
theorem i_callT6 {a : Nat} {v2 v3 v4 v5 v6 : Value} {sp : SP} (hl : st.length ≤ 4) (o : isTx a) (h : sp [.ref a, v2, v3, v4, v5, v6] M (fun v M' => K L (v.toList ++ st) M')) : w_callT 6 sp K L (v6 :: v5 :: v4 :: v3 :: v2 :: .ref a :: st) M := ⟨hl, o, h⟩
theorem i_callS7 {v1 v2 v3 v4 v5 v6 v7 : Value} {sp : SP} (hl : zsT st ≤ 8) (h : sp [v1, v2, v3, v4, v5, v6, v7] M (fun v M' => K L (v.toList ++ st) M')) : w_callS 7 sp K L (v7 :: v6 :: v5 :: v4 :: v3 :: v2 :: v1 :: st) M := ⟨hl, h⟩
theorem i_callV7 {a : Nat} {v2 v3 v4 v5 v6 v7 : Value} {sp : SP} {ci : Nat} (hl : zsT st ≤ 8) (o : okA M a ci) (h : sp [.ref a, v2, v3, v4, v5, v6, v7] M (fun v M' => K L (v.toList ++ st) M')) : w_callV ci 7 sp K L (v7 :: v6 :: v5 :: v4 :: v3 :: v2 :: .ref a :: st) M := ⟨hl, o, h⟩
theorem i_callE7 {a : Nat} {v2 v3 v4 v5 v6 v7 : Value} {sp : SP} (hl : st.length ≤ 4) (o : isOp a) (h : sp [.ref a, v2, v3, v4, v5, v6, v7] M (fun v M' => K L (v.toList ++ st) M')) : w_callE 7 sp K L (v7 :: v6 :: v5 :: v4 :: v3 :: v2 :: .ref a :: st) M := ⟨hl, o, h⟩
theorem i_callT7 {a : Nat} {v2 v3 v4 v5 v6 v7 : Value} {sp : SP} (hl : st.length ≤ 4) (o : isTx a) (h : sp [.ref a, v2, v3, v4, v5, v6, v7] M (fun v M' => K L (v.toList ++ st) M')) : w_callT 7 sp K L (v7 :: v6 :: v5 :: v4 :: v3 :: v2 :: .ref a :: st) M := ⟨hl, o, h⟩
theorem i_rI {x : Int32} (h : K L (.int x :: st) M) : K L (Option.toList (some (.int x)) ++ st) M := h
theorem i_rJ {x : Int64} (h : K L (.long x :: st) M) : K L (Option.toList (some (.long x)) ++ st) M := h
theorem i_rD {x : UInt64} (h : K L (.double x :: st) M) : K L (Option.toList (some (.double x)) ++ st) M := h
theorem i_rF {x : UInt32} (h : K L (.float x :: st) M) : K L (Option.toList (some (.float x)) ++ st) M := h
theorem i_rR {x : Nat} (h : K L (.ref x :: st) M) : K L (Option.toList (some (.ref x)) ++ st) M := h
theorem i_rN (h : K L st M) : K L (Option.toList none ++ st) M := h
theorem i_iret {t1 : Nat × Bool} {R : RT} {x : Int32} (e : M.1 = t1) (h : R (some (.int x)) M) : w_iret t1 R L [.int x] M := ⟨e, h⟩
theorem i_zret {t1 : Nat × Bool} {R : RT} {x : Int32} (b : x = 0 ∨ x = 1) (e : M.1 = t1) (h : R (some (.int x)) M) : w_zret t1 R L [.int x] M := ⟨b, e, h⟩
theorem i_bret {t1 : Nat × Bool} {R : RT} {x : Int32} (b : x.toInt8.toInt32 = x) (e : M.1 = t1) (h : R (some (.int x)) M) : w_bret t1 R L [.int x] M := ⟨b, e, h⟩
theorem i_cret {t1 : Nat × Bool} {R : RT} {x : Int32} (b : 0 ≤ x ∧ x < 65536) (e : M.1 = t1) (h : R (some (.int x)) M) : w_cret t1 R L [.int x] M := ⟨b, e, h⟩
theorem i_lret {t1 : Nat × Bool} {R : RT} {x : Int64} (e : M.1 = t1) (h : R (some (.long x)) M) : w_lret t1 R L [.long x] M := ⟨e, h⟩
theorem i_dret {t1 : Nat × Bool} {R : RT} {x : UInt64} (e : M.1 = t1) (h : R (some (.double x)) M) : w_dret t1 R L [.double x] M := ⟨e, h⟩
theorem i_aret {t1 : Nat × Bool} {R : RT} {x : Nat} (e : M.1 = t1) (h : R (some (.ref x)) M) : w_aret t1 R L [.ref x] M := ⟨e, h⟩
theorem i_vret {t1 : Nat × Bool} {R : RT} (e : M.1 = t1) (h : R none M) : w_vret t1 R L [] M := ⟨e, h⟩
theorem i_throw {t1 : Nat × Bool} {X : Mem → Prop} (hl : st.length ≤ 4) (e : M.1 = t1) (h : X M) : w_throw t1 X L st M := ⟨hl, e, h⟩
end INSTR
