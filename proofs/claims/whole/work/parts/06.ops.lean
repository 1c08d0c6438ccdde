section OPS
def w_iadd (K : KT) : KT := fun L st M => match st with
  | .int y :: .int x :: st => K L (.int (x + y) :: st) M
  | _ => False
def w_isub (K : KT) : KT := fun L st M => match st with
  | .int y :: .int x :: st => K L (.int (x - y) :: st) M
  | _ => False
def w_imul (K : KT) : KT := fun L st M => match st with
  | .int y :: .int x :: st => K L (.int (x * y) :: st) M
  | _ => False
def w_iand (K : KT) : KT := fun L st M => match st with
  | .int y :: .int x :: st => K L (.int (x &&& y) :: st) M
  | _ => False
def w_ior (K : KT) : KT := fun L st M => match st with
  | .int y :: .int x :: st => K L (.int (x ||| y) :: st) M
  | _ => False
def w_ixor (K : KT) : KT := fun L st M => match st with
  | .int y :: .int x :: st => K L (.int (x ^^^ y) :: st) M
  | _ => False
def w_ishl (K : KT) : KT := fun L st M => match st with
  | .int y :: .int x :: st => K L (.int (x <<< (y &&& 31)) :: st) M
  | _ => False
def w_ishr (K : KT) : KT := fun L st M => match st with
  | .int y :: .int x :: st => K L (.int (x >>> (y &&& 31)) :: st) M
  | _ => False
def w_iushr (K : KT) : KT := fun L st M => match st with
  | .int y :: .int x :: st => K L (.int ((x.toUInt32 >>> (y.toUInt32 &&& Int32.toUInt32 31)).toInt32) :: st) M
  | _ => False
def w_idiv (K : KT) : KT := fun L st M => match st with
  | .int y :: .int x :: st => ¬ y = 0 ∧ K L (.int (x / y) :: st) M
  | _ => False
def w_irem (K : KT) : KT := fun L st M => match st with
  | .int y :: .int x :: st => ¬ y = 0 ∧ K L (.int (x - x / y * y) :: st) M
  | _ => False
def w_ineg (K : KT) : KT := fun L st M => match st with
  | .int x :: st => K L (.int (-x) :: st) M
  | _ => False
def w_ladd (K : KT) : KT := fun L st M => match st with
  | .long y :: .long x :: st => K L (.long (x + y) :: st) M
  | _ => False
def w_lsub (K : KT) : KT := fun L st M => match st with
  | .long y :: .long x :: st => K L (.long (x - y) :: st) M
  | _ => False
def w_lmul (K : KT) : KT := fun L st M => match st with
  | .long y :: .long x :: st => K L (.long (x * y) :: st) M
  | _ => False
def w_land (K : KT) : KT := fun L st M => match st with
  | .long y :: .long x :: st => K L (.long (x &&& y) :: st) M
  | _ => False
def w_lor (K : KT) : KT := fun L st M => match st with
  | .long y :: .long x :: st => K L (.long (x ||| y) :: st) M
  | _ => False
def w_lxor (K : KT) : KT := fun L st M => match st with
  | .long y :: .long x :: st => K L (.long (x ^^^ y) :: st) M
  | _ => False
def w_ldiv (K : KT) : KT := fun L st M => match st with
  | .long y :: .long x :: st => ¬ y = 0 ∧ K L (.long (x / y) :: st) M
  | _ => False
def w_lrem (K : KT) : KT := fun L st M => match st with
  | .long y :: .long x :: st => ¬ y = 0 ∧ K L (.long (x - x / y * y) :: st) M
  | _ => False
def w_lneg (K : KT) : KT := fun L st M => match st with
  | .long x :: st => K L (.long (-x) :: st) M
  | _ => False
def w_lshl (K : KT) : KT := fun L st M => match st with
  | .int y :: .long x :: st => K L (.long (x <<< (y.toInt64 &&& 63)) :: st) M
  | _ => False
def w_lshr (K : KT) : KT := fun L st M => match st with
  | .int y :: .long x :: st => K L (.long (x >>> (y.toInt64 &&& 63)) :: st) M
  | _ => False
def w_lushr (K : KT) : KT := fun L st M => match st with
  | .int y :: .long x :: st => K L (.long ((x.toUInt64 >>> (y.toInt64.toUInt64 &&& Int64.toUInt64 63)).toInt64) :: st) M
  | _ => False
def w_i2l (K : KT) : KT := fun L st M => match st with
  | .int x :: st => K L (.long x.toInt64 :: st) M
  | _ => False
def w_l2i (K : KT) : KT := fun L st M => match st with
  | .long x :: st => K L (.int x.toInt32 :: st) M
  | _ => False
def w_i2b (K : KT) : KT := fun L st M => match st with
  | .int x :: st => K L (.int x.toInt8.toInt32 :: st) M
  | _ => False
def w_i2s (K : KT) : KT := fun L st M => match st with
  | .int x :: st => K L (.int x.toInt16.toInt32 :: st) M
  | _ => False
def w_i2c (K : KT) : KT := fun L st M => match st with
  | .int x :: st => K L (.int (x.toUInt32 % 65536).toInt32 :: st) M
  | _ => False
def w_l2d (K : KT) : KT := fun L st M => match st with
  | .long x :: st => K L (.double (FP.l2d x) :: st) M
  | _ => False
def w_l2f (K : KT) : KT := fun L st M => match st with
  | .long x :: st => K L (.float (FP.l2f x) :: st) M
  | _ => False
def w_i2d (K : KT) : KT := fun L st M => match st with
  | .int x :: st => K L (.double (FP.i2d x) :: st) M
  | _ => False
def w_d2l (K : KT) : KT := fun L st M => match st with
  | .double x :: st => K L (.long (FP.d2l x) :: st) M
  | _ => False
def w_d2i (K : KT) : KT := fun L st M => match st with
  | .double x :: st => K L (.int (FP.d2i x) :: st) M
  | _ => False
def w_d2f (K : KT) : KT := fun L st M => match st with
  | .double x :: st => vf_n32 (FP.d2f x) ∧ K L (.float (FP.d2f x) :: st) M
  | _ => False
def w_f2d (K : KT) : KT := fun L st M => match st with
  | .float x :: st => vf_n64 (FP.f2d x) ∧ K L (.double (FP.f2d x) :: st) M
  | _ => False
def w_dneg (K : KT) : KT := fun L st M => match st with
  | .double x :: st => K L (.double (FP.dneg x) :: st) M
  | _ => False
def w_dadd (K : KT) : KT := fun L st M => match st with
  | .double y :: .double x :: st => vf_n64 (FP.dadd x y) ∧ K L (.double (FP.dadd x y) :: st) M
  | _ => False
def w_dsub (K : KT) : KT := fun L st M => match st with
  | .double y :: .double x :: st => vf_n64 (FP.dsub x y) ∧ K L (.double (FP.dsub x y) :: st) M
  | _ => False
def w_dmul (K : KT) : KT := fun L st M => match st with
  | .double y :: .double x :: st => vf_n64 (FP.dmul x y) ∧ K L (.double (FP.dmul x y) :: st) M
  | _ => False
def w_ddiv (K : KT) : KT := fun L st M => match st with
  | .double y :: .double x :: st => vf_n64 (FP.ddiv x y) ∧ K L (.double (FP.ddiv x y) :: st) M
  | _ => False
def w_drem (K : KT) : KT := fun L st M => match st with
  | .double y :: .double x :: st => vf_n64 (FP.drem x y) ∧ K L (.double (FP.drem x y) :: st) M
  | _ => False
def w_fadd (K : KT) : KT := fun L st M => match st with
  | .float y :: .float x :: st => vf_n32 (FP.fadd x y) ∧ K L (.float (FP.fadd x y) :: st) M
  | _ => False
def w_fsub (K : KT) : KT := fun L st M => match st with
  | .float y :: .float x :: st => vf_n32 (FP.fsub x y) ∧ K L (.float (FP.fsub x y) :: st) M
  | _ => False
def w_fmul (K : KT) : KT := fun L st M => match st with
  | .float y :: .float x :: st => vf_n32 (FP.fmul x y) ∧ K L (.float (FP.fmul x y) :: st) M
  | _ => False
def w_fdiv (K : KT) : KT := fun L st M => match st with
  | .float y :: .float x :: st => vf_n32 (FP.fdiv x y) ∧ K L (.float (FP.fdiv x y) :: st) M
  | _ => False
def w_frem (K : KT) : KT := fun L st M => match st with
  | .float y :: .float x :: st => vf_n32 (FP.frem x y) ∧ K L (.float (FP.frem x y) :: st) M
  | _ => False
def w_dcmp (op : CmpOp) (K : KT) : KT := fun L st M => match st with
  | .double y :: .double x :: st => K L (.int (Op.cmpValue (FP.dcmp x y) op) :: st) M
  | _ => False
def w_fcmp (op : CmpOp) (K : KT) : KT := fun L st M => match st with
  | .float y :: .float x :: st => K L (.int (Op.cmpValue (FP.fcmp x y) op) :: st) M
  | _ => False
def w_lcmp (K : KT) : KT := fun L st M => match st with
  | .long y :: .long x :: st => K L (.int (lg_cmp x y) :: st) M
  | _ => False
def w_dconst0 (K : KT) : KT := fun L st M => K L (.double FP.dconst0 :: st) M
def w_dconst1 (K : KT) : KT := fun L st M => K L (.double FP.dconst1 :: st) M
def w_null (K : KT) : KT := fun L st M => K L (.null :: st) M
def w_ic (v : Int32) (K : KT) : KT := fun L st M => K L (.int v :: st) M
def w_lc (v : Int64) (K : KT) : KT := fun L st M => K L (.long v :: st) M
def w_dc (v : UInt64) (K : KT) : KT := fun L st M => K L (.double v :: st) M
def w_iload (i : Nat) (K : KT) : KT := fun L st M => match lget i L with
  | some (.int x) => K L (.int x :: st) M
  | _ => False
def w_istore (i : Nat) (K : KT) : KT := fun L st M => match st with
  | .int x :: st => i < L.length ∧ K (lset1 i (.int x) L) st M
  | _ => False
def w_lload (i : Nat) (K : KT) : KT := fun L st M => match lget i L with
  | some (.long x) => K L (.long x :: st) M
  | _ => False
def w_lstore (i : Nat) (K : KT) : KT := fun L st M => match st with
  | .long x :: st => i + 1 < L.length ∧ K (lset2 i (.long x) L) st M
  | _ => False
def w_fload (i : Nat) (K : KT) : KT := fun L st M => match lget i L with
  | some (.float x) => K L (.float x :: st) M
  | _ => False
def w_fstore (i : Nat) (K : KT) : KT := fun L st M => match st with
  | .float x :: st => i < L.length ∧ K (lset1 i (.float x) L) st M
  | _ => False
def w_dload (i : Nat) (K : KT) : KT := fun L st M => match lget i L with
  | some (.double x) => K L (.double x :: st) M
  | _ => False
def w_dstore (i : Nat) (K : KT) : KT := fun L st M => match st with
  | .double x :: st => i + 1 < L.length ∧ K (lset2 i (.double x) L) st M
  | _ => False
def w_aload (i : Nat) (K : KT) : KT := fun L st M => match lget i L with
  | some (.ref x) => K L (.ref x :: st) M
  | _ => False
def w_astore (i : Nat) (K : KT) : KT := fun L st M => match st with
  | .ref x :: st => i < L.length ∧ K (lset1 i (.ref x) L) st M
  | _ => False
def w_iinc (i : Nat) (n : Int32) (K : KT) : KT := fun L st M => match lget i L with
  | some (.int x) => K (lset1 i (.int (x + n)) L) st M
  | _ => False
def w_dup (K : KT) : KT := fun L st M => match st with
  | v :: st => v.category = 1 ∧ K L (v :: v :: st) M
  | _ => False
def w_pop (K : KT) : KT := fun L st M => match st with
  | v :: st => v.category = 1 ∧ K L st M
  | _ => False
def w_dup2 (K : KT) : KT := fun L st M => match st with
  | v :: u :: st => v.category = 1 ∧ u.category = 1 ∧ K L (v :: u :: v :: u :: st) M
  | _ => False
def w_dup2l (K : KT) : KT := fun L st M => match st with
  | v :: st => v.category = 2 ∧ K L (v :: v :: st) M
  | _ => False
def w_icmp_eq (Kt Kf : KT) : KT := fun L st M => match st with
  | .int y :: .int x :: st => (x = y → Kt L st M) ∧ (¬ (x = y) → Kf L st M)
  | _ => False
def w_if_eq (Kt Kf : KT) : KT := fun L st M => match st with
  | .int x :: st => (x = 0 → Kt L st M) ∧ (¬ (x = 0) → Kf L st M)
  | _ => False
def w_icmp_ne (Kt Kf : KT) : KT := fun L st M => match st with
  | .int y :: .int x :: st => (¬ x = y → Kt L st M) ∧ (x = y → Kf L st M)
  | _ => False
def w_if_ne (Kt Kf : KT) : KT := fun L st M => match st with
  | .int x :: st => (¬ x = 0 → Kt L st M) ∧ (x = 0 → Kf L st M)
  | _ => False
def w_icmp_lt (Kt Kf : KT) : KT := fun L st M => match st with
  | .int y :: .int x :: st => (x < y → Kt L st M) ∧ (¬ (x < y) → Kf L st M)
  | _ => False
def w_if_lt (Kt Kf : KT) : KT := fun L st M => match st with
  | .int x :: st => (x < 0 → Kt L st M) ∧ (¬ (x < 0) → Kf L st M)
  | _ => False
def w_icmp_ge (Kt Kf : KT) : KT := fun L st M => match st with
  | .int y :: .int x :: st => (y ≤ x → Kt L st M) ∧ (¬ (y ≤ x) → Kf L st M)
  | _ => False
def w_if_ge (Kt Kf : KT) : KT := fun L st M => match st with
  | .int x :: st => (0 ≤ x → Kt L st M) ∧ (¬ (0 ≤ x) → Kf L st M)
  | _ => False
def w_icmp_gt (Kt Kf : KT) : KT := fun L st M => match st with
  | .int y :: .int x :: st => (y < x → Kt L st M) ∧ (¬ (y < x) → Kf L st M)
  | _ => False
def w_if_gt (Kt Kf : KT) : KT := fun L st M => match st with
  | .int x :: st => (0 < x → Kt L st M) ∧ (¬ (0 < x) → Kf L st M)
  | _ => False
def w_icmp_le (Kt Kf : KT) : KT := fun L st M => match st with
  | .int y :: .int x :: st => (x ≤ y → Kt L st M) ∧ (¬ (x ≤ y) → Kf L st M)
  | _ => False
def w_if_le (Kt Kf : KT) : KT := fun L st M => match st with
  | .int x :: st => (x ≤ 0 → Kt L st M) ∧ (¬ (x ≤ 0) → Kf L st M)
  | _ => False
variable {p : Program} {l : Launch} {e : Jvm.Env} {R : Room} {s : State} {m : MethodId} {args : Array Value} {below : List Frame} {meth : Method} {c : Code} {Q : State → Prop} {w : Wd} {cc : ByteArray} {own : String} {nL n0 n1 x9 : Nat}
theorem s_iadd (h : Cx p s m args c w cc own nL) {pc : Nat} {K : KT} (hd : decode cc pc = .ok (.iadd, 1)) (hk : Sd (Gm p l e R s m args below meth c Q w nL n0 n1 x9) (pc + 1) K) : Sd (Gm p l e R s m args below meth c Q w nL n0 n1 x9) pc (w_iadd K) := by
  intro L st M hK
  unfold w_iadd at hK
  split at hK
  · intro ls H locs hL hR hS hn
    exact lv_iadd h.1 h.2.1 hd  (hk _ _ _ hK ls H locs hL hR hS hn)
  · exact hK.elim
theorem s_isub (h : Cx p s m args c w cc own nL) {pc : Nat} {K : KT} (hd : decode cc pc = .ok (.isub, 1)) (hk : Sd (Gm p l e R s m args below meth c Q w nL n0 n1 x9) (pc + 1) K) : Sd (Gm p l e R s m args below meth c Q w nL n0 n1 x9) pc (w_isub K) := by
  intro L st M hK
  unfold w_isub at hK
  split at hK
  · intro ls H locs hL hR hS hn
    exact lv_isub h.1 h.2.1 hd  (hk _ _ _ hK ls H locs hL hR hS hn)
  · exact hK.elim
theorem s_imul (h : Cx p s m args c w cc own nL) {pc : Nat} {K : KT} (hd : decode cc pc = .ok (.imul, 1)) (hk : Sd (Gm p l e R s m args below meth c Q w nL n0 n1 x9) (pc + 1) K) : Sd (Gm p l e R s m args below meth c Q w nL n0 n1 x9) pc (w_imul K) := by
  intro L st M hK
  unfold w_imul at hK
  split at hK
  · intro ls H locs hL hR hS hn
    exact lv_imul h.1 h.2.1 hd  (hk _ _ _ hK ls H locs hL hR hS hn)
  · exact hK.elim
theorem s_iand (h : Cx p s m args c w cc own nL) {pc : Nat} {K : KT} (hd : decode cc pc = .ok (.iand, 1)) (hk : Sd (Gm p l e R s m args below meth c Q w nL n0 n1 x9) (pc + 1) K) : Sd (Gm p l e R s m args below meth c Q w nL n0 n1 x9) pc (w_iand K) := by
  intro L st M hK
  unfold w_iand at hK
  split at hK
  · intro ls H locs hL hR hS hn
    exact lv_iand h.1 h.2.1 hd  (hk _ _ _ hK ls H locs hL hR hS hn)
  · exact hK.elim
theorem s_ior (h : Cx p s m args c w cc own nL) {pc : Nat} {K : KT} (hd : decode cc pc = .ok (.ior, 1)) (hk : Sd (Gm p l e R s m args below meth c Q w nL n0 n1 x9) (pc + 1) K) : Sd (Gm p l e R s m args below meth c Q w nL n0 n1 x9) pc (w_ior K) := by
  intro L st M hK
  unfold w_ior at hK
  split at hK
  · intro ls H locs hL hR hS hn
    exact lv_ior h.1 h.2.1 hd  (hk _ _ _ hK ls H locs hL hR hS hn)
  · exact hK.elim
theorem s_ixor (h : Cx p s m args c w cc own nL) {pc : Nat} {K : KT} (hd : decode cc pc = .ok (.ixor, 1)) (hk : Sd (Gm p l e R s m args below meth c Q w nL n0 n1 x9) (pc + 1) K) : Sd (Gm p l e R s m args below meth c Q w nL n0 n1 x9) pc (w_ixor K) := by
  intro L st M hK
  unfold w_ixor at hK
  split at hK
  · intro ls H locs hL hR hS hn
    exact lv_ixor h.1 h.2.1 hd  (hk _ _ _ hK ls H locs hL hR hS hn)
  · exact hK.elim
theorem s_ishl (h : Cx p s m args c w cc own nL) {pc : Nat} {K : KT} (hd : decode cc pc = .ok (.ishl, 1)) (hk : Sd (Gm p l e R s m args below meth c Q w nL n0 n1 x9) (pc + 1) K) : Sd (Gm p l e R s m args below meth c Q w nL n0 n1 x9) pc (w_ishl K) := by
  intro L st M hK
  unfold w_ishl at hK
  split at hK
  · intro ls H locs hL hR hS hn
    exact lv_ishl h.1 h.2.1 hd  (hk _ _ _ hK ls H locs hL hR hS hn)
  · exact hK.elim
theorem s_ishr (h : Cx p s m args c w cc own nL) {pc : Nat} {K : KT} (hd : decode cc pc = .ok (.ishr, 1)) (hk : Sd (Gm p l e R s m args below meth c Q w nL n0 n1 x9) (pc + 1) K) : Sd (Gm p l e R s m args below meth c Q w nL n0 n1 x9) pc (w_ishr K) := by
  intro L st M hK
  unfold w_ishr at hK
  split at hK
  · intro ls H locs hL hR hS hn
    exact lv_ishr h.1 h.2.1 hd  (hk _ _ _ hK ls H locs hL hR hS hn)
  · exact hK.elim
theorem s_iushr (h : Cx p s m args c w cc own nL) {pc : Nat} {K : KT} (hd : decode cc pc = .ok (.iushr, 1)) (hk : Sd (Gm p l e R s m args below meth c Q w nL n0 n1 x9) (pc + 1) K) : Sd (Gm p l e R s m args below meth c Q w nL n0 n1 x9) pc (w_iushr K) := by
  intro L st M hK
  unfold w_iushr at hK
  split at hK
  · intro ls H locs hL hR hS hn
    exact lv_iushr h.1 h.2.1 hd rfl (hk _ _ _ hK ls H locs hL hR hS hn)
  · exact hK.elim
theorem s_idiv (h : Cx p s m args c w cc own nL) {pc : Nat} {K : KT} (hd : decode cc pc = .ok (.idiv, 1)) (hk : Sd (Gm p l e R s m args below meth c Q w nL n0 n1 x9) (pc + 1) K) : Sd (Gm p l e R s m args below meth c Q w nL n0 n1 x9) pc (w_idiv K) := by
  intro L st M hK
  unfold w_idiv at hK
  split at hK
  · intro ls H locs hL hR hS hn
    exact lv_idiv h.1 h.2.1 hd hK.1 (hk _ _ _ hK.2 ls H locs hL hR hS hn)
  · exact hK.elim
theorem s_irem (h : Cx p s m args c w cc own nL) {pc : Nat} {K : KT} (hd : decode cc pc = .ok (.irem, 1)) (hk : Sd (Gm p l e R s m args below meth c Q w nL n0 n1 x9) (pc + 1) K) : Sd (Gm p l e R s m args below meth c Q w nL n0 n1 x9) pc (w_irem K) := by
  intro L st M hK
  unfold w_irem at hK
  split at hK
  · intro ls H locs hL hR hS hn
    exact lv_irem h.1 h.2.1 hd hK.1 (hk _ _ _ hK.2 ls H locs hL hR hS hn)
  · exact hK.elim
theorem s_ineg (h : Cx p s m args c w cc own nL) {pc : Nat} {K : KT} (hd : decode cc pc = .ok (.ineg, 1)) (hk : Sd (Gm p l e R s m args below meth c Q w nL n0 n1 x9) (pc + 1) K) : Sd (Gm p l e R s m args below meth c Q w nL n0 n1 x9) pc (w_ineg K) := by
  intro L st M hK
  unfold w_ineg at hK
  split at hK
  · intro ls H locs hL hR hS hn
    exact lv_ineg h.1 h.2.1 hd  (hk _ _ _ hK ls H locs hL hR hS hn)
  · exact hK.elim
theorem s_ladd (h : Cx p s m args c w cc own nL) {pc : Nat} {K : KT} (hd : decode cc pc = .ok (.ladd, 1)) (hk : Sd (Gm p l e R s m args below meth c Q w nL n0 n1 x9) (pc + 1) K) : Sd (Gm p l e R s m args below meth c Q w nL n0 n1 x9) pc (w_ladd K) := by
  intro L st M hK
  unfold w_ladd at hK
  split at hK
  · intro ls H locs hL hR hS hn
    exact lv_ladd h.1 h.2.1 hd  (hk _ _ _ hK ls H locs hL hR hS hn)
  · exact hK.elim
theorem s_lsub (h : Cx p s m args c w cc own nL) {pc : Nat} {K : KT} (hd : decode cc pc = .ok (.lsub, 1)) (hk : Sd (Gm p l e R s m args below meth c Q w nL n0 n1 x9) (pc + 1) K) : Sd (Gm p l e R s m args below meth c Q w nL n0 n1 x9) pc (w_lsub K) := by
  intro L st M hK
  unfold w_lsub at hK
  split at hK
  · intro ls H locs hL hR hS hn
    exact lv_lsub h.1 h.2.1 hd  (hk _ _ _ hK ls H locs hL hR hS hn)
  · exact hK.elim
theorem s_lmul (h : Cx p s m args c w cc own nL) {pc : Nat} {K : KT} (hd : decode cc pc = .ok (.lmul, 1)) (hk : Sd (Gm p l e R s m args below meth c Q w nL n0 n1 x9) (pc + 1) K) : Sd (Gm p l e R s m args below meth c Q w nL n0 n1 x9) pc (w_lmul K) := by
  intro L st M hK
  unfold w_lmul at hK
  split at hK
  · intro ls H locs hL hR hS hn
    exact lv_lmul h.1 h.2.1 hd  (hk _ _ _ hK ls H locs hL hR hS hn)
  · exact hK.elim
theorem s_land (h : Cx p s m args c w cc own nL) {pc : Nat} {K : KT} (hd : decode cc pc = .ok (.land, 1)) (hk : Sd (Gm p l e R s m args below meth c Q w nL n0 n1 x9) (pc + 1) K) : Sd (Gm p l e R s m args below meth c Q w nL n0 n1 x9) pc (w_land K) := by
  intro L st M hK
  unfold w_land at hK
  split at hK
  · intro ls H locs hL hR hS hn
    exact lv_land h.1 h.2.1 hd  (hk _ _ _ hK ls H locs hL hR hS hn)
  · exact hK.elim
theorem s_lor (h : Cx p s m args c w cc own nL) {pc : Nat} {K : KT} (hd : decode cc pc = .ok (.lor, 1)) (hk : Sd (Gm p l e R s m args below meth c Q w nL n0 n1 x9) (pc + 1) K) : Sd (Gm p l e R s m args below meth c Q w nL n0 n1 x9) pc (w_lor K) := by
  intro L st M hK
  unfold w_lor at hK
  split at hK
  · intro ls H locs hL hR hS hn
    exact lv_lor h.1 h.2.1 hd  (hk _ _ _ hK ls H locs hL hR hS hn)
  · exact hK.elim
theorem s_lxor (h : Cx p s m args c w cc own nL) {pc : Nat} {K : KT} (hd : decode cc pc = .ok (.lxor, 1)) (hk : Sd (Gm p l e R s m args below meth c Q w nL n0 n1 x9) (pc + 1) K) : Sd (Gm p l e R s m args below meth c Q w nL n0 n1 x9) pc (w_lxor K) := by
  intro L st M hK
  unfold w_lxor at hK
  split at hK
  · intro ls H locs hL hR hS hn
    exact lv_lxor h.1 h.2.1 hd  (hk _ _ _ hK ls H locs hL hR hS hn)
  · exact hK.elim
theorem s_ldiv (h : Cx p s m args c w cc own nL) {pc : Nat} {K : KT} (hd : decode cc pc = .ok (.ldiv, 1)) (hk : Sd (Gm p l e R s m args below meth c Q w nL n0 n1 x9) (pc + 1) K) : Sd (Gm p l e R s m args below meth c Q w nL n0 n1 x9) pc (w_ldiv K) := by
  intro L st M hK
  unfold w_ldiv at hK
  split at hK
  · intro ls H locs hL hR hS hn
    exact lv_ldiv h.1 h.2.1 hd hK.1 (hk _ _ _ hK.2 ls H locs hL hR hS hn)
  · exact hK.elim
theorem s_lrem (h : Cx p s m args c w cc own nL) {pc : Nat} {K : KT} (hd : decode cc pc = .ok (.lrem, 1)) (hk : Sd (Gm p l e R s m args below meth c Q w nL n0 n1 x9) (pc + 1) K) : Sd (Gm p l e R s m args below meth c Q w nL n0 n1 x9) pc (w_lrem K) := by
  intro L st M hK
  unfold w_lrem at hK
  split at hK
  · intro ls H locs hL hR hS hn
    exact lv_lrem h.1 h.2.1 hd hK.1 (hk _ _ _ hK.2 ls H locs hL hR hS hn)
  · exact hK.elim
theorem s_lneg (h : Cx p s m args c w cc own nL) {pc : Nat} {K : KT} (hd : decode cc pc = .ok (.lneg, 1)) (hk : Sd (Gm p l e R s m args below meth c Q w nL n0 n1 x9) (pc + 1) K) : Sd (Gm p l e R s m args below meth c Q w nL n0 n1 x9) pc (w_lneg K) := by
  intro L st M hK
  unfold w_lneg at hK
  split at hK
  · intro ls H locs hL hR hS hn
    exact lv_lneg h.1 h.2.1 hd  (hk _ _ _ hK ls H locs hL hR hS hn)
  · exact hK.elim
theorem s_lshl (h : Cx p s m args c w cc own nL) {pc : Nat} {K : KT} (hd : decode cc pc = .ok (.lshl, 1)) (hk : Sd (Gm p l e R s m args below meth c Q w nL n0 n1 x9) (pc + 1) K) : Sd (Gm p l e R s m args below meth c Q w nL n0 n1 x9) pc (w_lshl K) := by
  intro L st M hK
  unfold w_lshl at hK
  split at hK
  · intro ls H locs hL hR hS hn
    exact lv_lshl h.1 h.2.1 hd rfl (hk _ _ _ hK ls H locs hL hR hS hn)
  · exact hK.elim
theorem s_lshr (h : Cx p s m args c w cc own nL) {pc : Nat} {K : KT} (hd : decode cc pc = .ok (.lshr, 1)) (hk : Sd (Gm p l e R s m args below meth c Q w nL n0 n1 x9) (pc + 1) K) : Sd (Gm p l e R s m args below meth c Q w nL n0 n1 x9) pc (w_lshr K) := by
  intro L st M hK
  unfold w_lshr at hK
  split at hK
  · intro ls H locs hL hR hS hn
    exact lv_lshr h.1 h.2.1 hd rfl (hk _ _ _ hK ls H locs hL hR hS hn)
  · exact hK.elim
theorem s_lushr (h : Cx p s m args c w cc own nL) {pc : Nat} {K : KT} (hd : decode cc pc = .ok (.lushr, 1)) (hk : Sd (Gm p l e R s m args below meth c Q w nL n0 n1 x9) (pc + 1) K) : Sd (Gm p l e R s m args below meth c Q w nL n0 n1 x9) pc (w_lushr K) := by
  intro L st M hK
  unfold w_lushr at hK
  split at hK
  · intro ls H locs hL hR hS hn
    exact lv_lushr h.1 h.2.1 hd rfl (hk _ _ _ hK ls H locs hL hR hS hn)
  · exact hK.elim
theorem s_i2l (h : Cx p s m args c w cc own nL) {pc : Nat} {K : KT} (hd : decode cc pc = .ok (.i2l, 1)) (hk : Sd (Gm p l e R s m args below meth c Q w nL n0 n1 x9) (pc + 1) K) : Sd (Gm p l e R s m args below meth c Q w nL n0 n1 x9) pc (w_i2l K) := by
  intro L st M hK
  unfold w_i2l at hK
  split at hK
  · intro ls H locs hL hR hS hn
    exact lv_i2l h.1 h.2.1 hd rfl (hk _ _ _ hK ls H locs hL hR hS hn)
  · exact hK.elim
theorem s_l2i (h : Cx p s m args c w cc own nL) {pc : Nat} {K : KT} (hd : decode cc pc = .ok (.l2i, 1)) (hk : Sd (Gm p l e R s m args below meth c Q w nL n0 n1 x9) (pc + 1) K) : Sd (Gm p l e R s m args below meth c Q w nL n0 n1 x9) pc (w_l2i K) := by
  intro L st M hK
  unfold w_l2i at hK
  split at hK
  · intro ls H locs hL hR hS hn
    exact lv_l2i h.1 h.2.1 hd rfl (hk _ _ _ hK ls H locs hL hR hS hn)
  · exact hK.elim
theorem s_i2b (h : Cx p s m args c w cc own nL) {pc : Nat} {K : KT} (hd : decode cc pc = .ok (.i2b, 1)) (hk : Sd (Gm p l e R s m args below meth c Q w nL n0 n1 x9) (pc + 1) K) : Sd (Gm p l e R s m args below meth c Q w nL n0 n1 x9) pc (w_i2b K) := by
  intro L st M hK
  unfold w_i2b at hK
  split at hK
  · intro ls H locs hL hR hS hn
    exact lv_i2b h.1 h.2.1 hd rfl (hk _ _ _ hK ls H locs hL hR hS hn)
  · exact hK.elim
theorem s_i2s (h : Cx p s m args c w cc own nL) {pc : Nat} {K : KT} (hd : decode cc pc = .ok (.i2s, 1)) (hk : Sd (Gm p l e R s m args below meth c Q w nL n0 n1 x9) (pc + 1) K) : Sd (Gm p l e R s m args below meth c Q w nL n0 n1 x9) pc (w_i2s K) := by
  intro L st M hK
  unfold w_i2s at hK
  split at hK
  · intro ls H locs hL hR hS hn
    exact lv_i2s h.1 h.2.1 hd rfl (hk _ _ _ hK ls H locs hL hR hS hn)
  · exact hK.elim
theorem s_i2c (h : Cx p s m args c w cc own nL) {pc : Nat} {K : KT} (hd : decode cc pc = .ok (.i2c, 1)) (hk : Sd (Gm p l e R s m args below meth c Q w nL n0 n1 x9) (pc + 1) K) : Sd (Gm p l e R s m args below meth c Q w nL n0 n1 x9) pc (w_i2c K) := by
  intro L st M hK
  unfold w_i2c at hK
  split at hK
  · intro ls H locs hL hR hS hn
    exact lv_i2c h.1 h.2.1 hd rfl (hk _ _ _ hK ls H locs hL hR hS hn)
  · exact hK.elim
theorem s_l2d (h : Cx p s m args c w cc own nL) {pc : Nat} {K : KT} (hd : decode cc pc = .ok (.l2d, 1)) (hk : Sd (Gm p l e R s m args below meth c Q w nL n0 n1 x9) (pc + 1) K) : Sd (Gm p l e R s m args below meth c Q w nL n0 n1 x9) pc (w_l2d K) := by
  intro L st M hK
  unfold w_l2d at hK
  split at hK
  · intro ls H locs hL hR hS hn
    exact lv_l2d h.1 h.2.1 hd  (hk _ _ _ hK ls H locs hL hR hS hn)
  · exact hK.elim
theorem s_l2f (h : Cx p s m args c w cc own nL) {pc : Nat} {K : KT} (hd : decode cc pc = .ok (.l2f, 1)) (hk : Sd (Gm p l e R s m args below meth c Q w nL n0 n1 x9) (pc + 1) K) : Sd (Gm p l e R s m args below meth c Q w nL n0 n1 x9) pc (w_l2f K) := by
  intro L st M hK
  unfold w_l2f at hK
  split at hK
  · intro ls H locs hL hR hS hn
    exact lv_l2f h.1 h.2.1 hd  (hk _ _ _ hK ls H locs hL hR hS hn)
  · exact hK.elim
theorem s_i2d (h : Cx p s m args c w cc own nL) {pc : Nat} {K : KT} (hd : decode cc pc = .ok (.i2d, 1)) (hk : Sd (Gm p l e R s m args below meth c Q w nL n0 n1 x9) (pc + 1) K) : Sd (Gm p l e R s m args below meth c Q w nL n0 n1 x9) pc (w_i2d K) := by
  intro L st M hK
  unfold w_i2d at hK
  split at hK
  · intro ls H locs hL hR hS hn
    exact lv_i2d h.1 h.2.1 hd  (hk _ _ _ hK ls H locs hL hR hS hn)
  · exact hK.elim
theorem s_d2l (h : Cx p s m args c w cc own nL) {pc : Nat} {K : KT} (hd : decode cc pc = .ok (.d2l, 1)) (hk : Sd (Gm p l e R s m args below meth c Q w nL n0 n1 x9) (pc + 1) K) : Sd (Gm p l e R s m args below meth c Q w nL n0 n1 x9) pc (w_d2l K) := by
  intro L st M hK
  unfold w_d2l at hK
  split at hK
  · intro ls H locs hL hR hS hn
    exact lv_d2l h.1 h.2.1 hd  (hk _ _ _ hK ls H locs hL hR hS hn)
  · exact hK.elim
theorem s_d2i (h : Cx p s m args c w cc own nL) {pc : Nat} {K : KT} (hd : decode cc pc = .ok (.d2i, 1)) (hk : Sd (Gm p l e R s m args below meth c Q w nL n0 n1 x9) (pc + 1) K) : Sd (Gm p l e R s m args below meth c Q w nL n0 n1 x9) pc (w_d2i K) := by
  intro L st M hK
  unfold w_d2i at hK
  split at hK
  · intro ls H locs hL hR hS hn
    exact lv_d2i h.1 h.2.1 hd  (hk _ _ _ hK ls H locs hL hR hS hn)
  · exact hK.elim
theorem s_d2f (h : Cx p s m args c w cc own nL) {pc : Nat} {K : KT} (hd : decode cc pc = .ok (.d2f, 1)) (hk : Sd (Gm p l e R s m args below meth c Q w nL n0 n1 x9) (pc + 1) K) : Sd (Gm p l e R s m args below meth c Q w nL n0 n1 x9) pc (w_d2f K) := by
  intro L st M hK
  unfold w_d2f at hK
  split at hK
  · intro ls H locs hL hR hS hn
    exact lv_d2f h.1 h.2.1 hd hK.1 (hk _ _ _ hK.2 ls H locs hL hR hS hn)
  · exact hK.elim
theorem s_f2d (h : Cx p s m args c w cc own nL) {pc : Nat} {K : KT} (hd : decode cc pc = .ok (.f2d, 1)) (hk : Sd (Gm p l e R s m args below meth c Q w nL n0 n1 x9) (pc + 1) K) : Sd (Gm p l e R s m args below meth c Q w nL n0 n1 x9) pc (w_f2d K) := by
  intro L st M hK
  unfold w_f2d at hK
  split at hK
  · intro ls H locs hL hR hS hn
    exact lv_f2d h.1 h.2.1 hd hK.1 (hk _ _ _ hK.2 ls H locs hL hR hS hn)
  · exact hK.elim
theorem s_dneg (h : Cx p s m args c w cc own nL) {pc : Nat} {K : KT} (hd : decode cc pc = .ok (.dneg, 1)) (hk : Sd (Gm p l e R s m args below meth c Q w nL n0 n1 x9) (pc + 1) K) : Sd (Gm p l e R s m args below meth c Q w nL n0 n1 x9) pc (w_dneg K) := by
  intro L st M hK
  unfold w_dneg at hK
  split at hK
  · intro ls H locs hL hR hS hn
    exact lv_dneg h.1 h.2.1 hd  (hk _ _ _ hK ls H locs hL hR hS hn)
  · exact hK.elim
theorem s_dadd (h : Cx p s m args c w cc own nL) {pc : Nat} {K : KT} (hd : decode cc pc = .ok (.dadd, 1)) (hk : Sd (Gm p l e R s m args below meth c Q w nL n0 n1 x9) (pc + 1) K) : Sd (Gm p l e R s m args below meth c Q w nL n0 n1 x9) pc (w_dadd K) := by
  intro L st M hK
  unfold w_dadd at hK
  split at hK
  · intro ls H locs hL hR hS hn
    exact lv_dadd h.1 h.2.1 hd hK.1 (hk _ _ _ hK.2 ls H locs hL hR hS hn)
  · exact hK.elim
theorem s_dsub (h : Cx p s m args c w cc own nL) {pc : Nat} {K : KT} (hd : decode cc pc = .ok (.dsub, 1)) (hk : Sd (Gm p l e R s m args below meth c Q w nL n0 n1 x9) (pc + 1) K) : Sd (Gm p l e R s m args below meth c Q w nL n0 n1 x9) pc (w_dsub K) := by
  intro L st M hK
  unfold w_dsub at hK
  split at hK
  · intro ls H locs hL hR hS hn
    exact lv_dsub h.1 h.2.1 hd hK.1 (hk _ _ _ hK.2 ls H locs hL hR hS hn)
  · exact hK.elim
theorem s_dmul (h : Cx p s m args c w cc own nL) {pc : Nat} {K : KT} (hd : decode cc pc = .ok (.dmul, 1)) (hk : Sd (Gm p l e R s m args below meth c Q w nL n0 n1 x9) (pc + 1) K) : Sd (Gm p l e R s m args below meth c Q w nL n0 n1 x9) pc (w_dmul K) := by
  intro L st M hK
  unfold w_dmul at hK
  split at hK
  · intro ls H locs hL hR hS hn
    exact lv_dmul h.1 h.2.1 hd hK.1 (hk _ _ _ hK.2 ls H locs hL hR hS hn)
  · exact hK.elim
theorem s_ddiv (h : Cx p s m args c w cc own nL) {pc : Nat} {K : KT} (hd : decode cc pc = .ok (.ddiv, 1)) (hk : Sd (Gm p l e R s m args below meth c Q w nL n0 n1 x9) (pc + 1) K) : Sd (Gm p l e R s m args below meth c Q w nL n0 n1 x9) pc (w_ddiv K) := by
  intro L st M hK
  unfold w_ddiv at hK
  split at hK
  · intro ls H locs hL hR hS hn
    exact lv_ddiv h.1 h.2.1 hd hK.1 (hk _ _ _ hK.2 ls H locs hL hR hS hn)
  · exact hK.elim
theorem s_drem (h : Cx p s m args c w cc own nL) {pc : Nat} {K : KT} (hd : decode cc pc = .ok (.drem, 1)) (hk : Sd (Gm p l e R s m args below meth c Q w nL n0 n1 x9) (pc + 1) K) : Sd (Gm p l e R s m args below meth c Q w nL n0 n1 x9) pc (w_drem K) := by
  intro L st M hK
  unfold w_drem at hK
  split at hK
  · intro ls H locs hL hR hS hn
    exact lv_drem h.1 h.2.1 hd hK.1 (hk _ _ _ hK.2 ls H locs hL hR hS hn)
  · exact hK.elim
theorem s_fadd (h : Cx p s m args c w cc own nL) {pc : Nat} {K : KT} (hd : decode cc pc = .ok (.fadd, 1)) (hk : Sd (Gm p l e R s m args below meth c Q w nL n0 n1 x9) (pc + 1) K) : Sd (Gm p l e R s m args below meth c Q w nL n0 n1 x9) pc (w_fadd K) := by
  intro L st M hK
  unfold w_fadd at hK
  split at hK
  · intro ls H locs hL hR hS hn
    exact lv_fadd h.1 h.2.1 hd hK.1 (hk _ _ _ hK.2 ls H locs hL hR hS hn)
  · exact hK.elim
theorem s_fsub (h : Cx p s m args c w cc own nL) {pc : Nat} {K : KT} (hd : decode cc pc = .ok (.fsub, 1)) (hk : Sd (Gm p l e R s m args below meth c Q w nL n0 n1 x9) (pc + 1) K) : Sd (Gm p l e R s m args below meth c Q w nL n0 n1 x9) pc (w_fsub K) := by
  intro L st M hK
  unfold w_fsub at hK
  split at hK
  · intro ls H locs hL hR hS hn
    exact lv_fsub h.1 h.2.1 hd hK.1 (hk _ _ _ hK.2 ls H locs hL hR hS hn)
  · exact hK.elim
theorem s_fmul (h : Cx p s m args c w cc own nL) {pc : Nat} {K : KT} (hd : decode cc pc = .ok (.fmul, 1)) (hk : Sd (Gm p l e R s m args below meth c Q w nL n0 n1 x9) (pc + 1) K) : Sd (Gm p l e R s m args below meth c Q w nL n0 n1 x9) pc (w_fmul K) := by
  intro L st M hK
  unfold w_fmul at hK
  split at hK
  · intro ls H locs hL hR hS hn
    exact lv_fmul h.1 h.2.1 hd hK.1 (hk _ _ _ hK.2 ls H locs hL hR hS hn)
  · exact hK.elim
theorem s_fdiv (h : Cx p s m args c w cc own nL) {pc : Nat} {K : KT} (hd : decode cc pc = .ok (.fdiv, 1)) (hk : Sd (Gm p l e R s m args below meth c Q w nL n0 n1 x9) (pc + 1) K) : Sd (Gm p l e R s m args below meth c Q w nL n0 n1 x9) pc (w_fdiv K) := by
  intro L st M hK
  unfold w_fdiv at hK
  split at hK
  · intro ls H locs hL hR hS hn
    exact lv_fdiv h.1 h.2.1 hd hK.1 (hk _ _ _ hK.2 ls H locs hL hR hS hn)
  · exact hK.elim
theorem s_frem (h : Cx p s m args c w cc own nL) {pc : Nat} {K : KT} (hd : decode cc pc = .ok (.frem, 1)) (hk : Sd (Gm p l e R s m args below meth c Q w nL n0 n1 x9) (pc + 1) K) : Sd (Gm p l e R s m args below meth c Q w nL n0 n1 x9) pc (w_frem K) := by
  intro L st M hK
  unfold w_frem at hK
  split at hK
  · intro ls H locs hL hR hS hn
    exact lv_frem h.1 h.2.1 hd hK.1 (hk _ _ _ hK.2 ls H locs hL hR hS hn)
  · exact hK.elim
theorem s_dcmp (h : Cx p s m args c w cc own nL) {pc : Nat} {K : KT} (op : CmpOp) (hd : decode cc pc = .ok (.dcmp op, 1)) (hk : Sd (Gm p l e R s m args below meth c Q w nL n0 n1 x9) (pc + 1) K) : Sd (Gm p l e R s m args below meth c Q w nL n0 n1 x9) pc (w_dcmp op K) := by
  intro L st M hK
  unfold w_dcmp at hK
  split at hK
  · intro ls H locs hL hR hS hn
    exact lv_dcmp h.1 h.2.1 hd  (hk _ _ _ hK ls H locs hL hR hS hn)
  · exact hK.elim
theorem s_fcmp (h : Cx p s m args c w cc own nL) {pc : Nat} {K : KT} (op : CmpOp) (hd : decode cc pc = .ok (.fcmp op, 1)) (hk : Sd (Gm p l e R s m args below meth c Q w nL n0 n1 x9) (pc + 1) K) : Sd (Gm p l e R s m args below meth c Q w nL n0 n1 x9) pc (w_fcmp op K) := by
  intro L st M hK
  unfold w_fcmp at hK
  split at hK
  · intro ls H locs hL hR hS hn
    exact lv_fcmp h.1 h.2.1 hd  (hk _ _ _ hK ls H locs hL hR hS hn)
  · exact hK.elim
theorem s_lcmp (h : Cx p s m args c w cc own nL) {pc : Nat} {K : KT} (hd : decode cc pc = .ok (.lcmp, 1)) (hk : Sd (Gm p l e R s m args below meth c Q w nL n0 n1 x9) (pc + 1) K) : Sd (Gm p l e R s m args below meth c Q w nL n0 n1 x9) pc (w_lcmp K) := by
  intro L st M hK
  unfold w_lcmp at hK
  split at hK
  · intro ls H locs hL hR hS hn
    exact W.lcmp h.1 h.2.1 hd  (hk _ _ _ hK ls H locs hL hR hS hn)
  · exact hK.elim
theorem s_dconst0 (h : Cx p s m args c w cc own nL) {pc : Nat} {K : KT} (hd : decode cc pc = .ok (.dconst 0, 1)) (hk : Sd (Gm p l e R s m args below meth c Q w nL n0 n1 x9) (pc + 1) K) : Sd (Gm p l e R s m args below meth c Q w nL n0 n1 x9) pc (w_dconst0 K) := by
  intro L st M hK
  unfold w_dconst0 at hK
  intro ls H locs hL hR hS hn
  exact lv_dconst0 h.1 h.2.1 hd  (hk _ _ _ hK ls H locs hL hR hS hn)
theorem s_dconst1 (h : Cx p s m args c w cc own nL) {pc : Nat} {K : KT} (hd : decode cc pc = .ok (.dconst 1, 1)) (hk : Sd (Gm p l e R s m args below meth c Q w nL n0 n1 x9) (pc + 1) K) : Sd (Gm p l e R s m args below meth c Q w nL n0 n1 x9) pc (w_dconst1 K) := by
  intro L st M hK
  unfold w_dconst1 at hK
  intro ls H locs hL hR hS hn
  exact lv_dconst1 h.1 h.2.1 hd  (hk _ _ _ hK ls H locs hL hR hS hn)
theorem s_null (h : Cx p s m args c w cc own nL) {pc : Nat} {K : KT} (hd : decode cc pc = .ok (.aconst_null, 1)) (hk : Sd (Gm p l e R s m args below meth c Q w nL n0 n1 x9) (pc + 1) K) : Sd (Gm p l e R s m args below meth c Q w nL n0 n1 x9) pc (w_null K) := by
  intro L st M hK
  unfold w_null at hK
  intro ls H locs hL hR hS hn
  exact lv_null h.1 h.2.1 hd  (hk _ _ _ hK ls H locs hL hR hS hn)
theorem s_iconst (h : Cx p s m args c w cc own nL) {pc : Nat} {K : KT} {n : Int} {v : Int32} (hd : decode cc pc = .ok (.iconst n, 1)) (hv : Int32.ofInt n = v) (hk : Sd (Gm p l e R s m args below meth c Q w nL n0 n1 x9) (pc + 1) K) : Sd (Gm p l e R s m args below meth c Q w nL n0 n1 x9) pc (w_ic v K) := by
  intro L st M hK ls H locs hL hR hS hn
  exact lv_iconst h.1 h.2.1 hd hv (hk _ _ _ hK ls H locs hL hR hS hn)
theorem s_bipush (h : Cx p s m args c w cc own nL) {pc : Nat} {K : KT} {n : Int} {v : Int32} (hd : decode cc pc = .ok (.bipush n, 2)) (hv : (Int8.ofInt n).toInt32 = v) (hk : Sd (Gm p l e R s m args below meth c Q w nL n0 n1 x9) (pc + 2) K) : Sd (Gm p l e R s m args below meth c Q w nL n0 n1 x9) pc (w_ic v K) := by
  intro L st M hK ls H locs hL hR hS hn
  exact lv_bipush h.1 h.2.1 hd hv (hk _ _ _ hK ls H locs hL hR hS hn)
theorem s_sipush (h : Cx p s m args c w cc own nL) {pc : Nat} {K : KT} {n : Int} {v : Int32} (hd : decode cc pc = .ok (.sipush n, 3)) (hv : (Int16.ofInt n).toInt32 = v) (hk : Sd (Gm p l e R s m args below meth c Q w nL n0 n1 x9) (pc + 3) K) : Sd (Gm p l e R s m args below meth c Q w nL n0 n1 x9) pc (w_ic v K) := by
  intro L st M hK ls H locs hL hR hS hn
  exact lv_sipush h.1 h.2.1 hd hv (hk _ _ _ hK ls H locs hL hR hS hn)
theorem s_lconst (h : Cx p s m args c w cc own nL) {pc : Nat} {K : KT} {n : Fin 2} {v : Int64} (hd : decode cc pc = .ok (.lconst n, 1)) (hv : Int64.ofNat (n : Nat) = v) (hk : Sd (Gm p l e R s m args below meth c Q w nL n0 n1 x9) (pc + 1) K) : Sd (Gm p l e R s m args below meth c Q w nL n0 n1 x9) pc (w_lc v K) := by
  intro L st M hK ls H locs hL hR hS hn
  exact lv_lconst h.1 h.2.1 hd hv (hk _ _ _ hK ls H locs hL hR hS hn)
theorem s_ldc (h : Cx p s m args c w cc own nL) {pc i : Nat} {K : KT} {v : Int32} (hd : decode cc pc = .ok (.ldc i, 2)) (hv : Jvm.Cond.constant own i v ∈ lw_ok) (hk : Sd (Gm p l e R s m args below meth c Q w nL n0 n1 x9) (pc + 2) K) : Sd (Gm p l e R s m args below meth c Q w nL n0 n1 x9) pc (w_ic v K) := by
  intro L st M hK ls H locs hL hR hS hn
  exact lv_ldc h.1 h.2.1 h.2.2.2.1 (h.2.2.2.2.1 _ hv) hd (hk _ _ _ hK ls H locs hL hR hS hn)
theorem s_ldcw (h : Cx p s m args c w cc own nL) {pc i : Nat} {K : KT} {v : Int32} (hd : decode cc pc = .ok (.ldc_w i, 3)) (hv : Jvm.Cond.constant own i v ∈ lw_ok) (hk : Sd (Gm p l e R s m args below meth c Q w nL n0 n1 x9) (pc + 3) K) : Sd (Gm p l e R s m args below meth c Q w nL n0 n1 x9) pc (w_ic v K) := by
  intro L st M hK ls H locs hL hR hS hn
  exact lv_ldcw h.1 h.2.1 h.2.2.2.1 (h.2.2.2.2.1 _ hv) hd (hk _ _ _ hK ls H locs hL hR hS hn)
theorem s_ldc2 (h : Cx p s m args c w cc own nL) {pc i : Nat} {K : KT} {v : Int64} (hd : decode cc pc = .ok (.ldc2_w i, 3)) (hv : Jvm.Cond.constantLong own i v ∈ lw_ok) (hk : Sd (Gm p l e R s m args below meth c Q w nL n0 n1 x9) (pc + 3) K) : Sd (Gm p l e R s m args below meth c Q w nL n0 n1 x9) pc (w_lc v K) := by
  intro L st M hK ls H locs hL hR hS hn
  exact lv_ldc2 h.1 h.2.1 h.2.2.2.1 (h.2.2.2.2.1 _ hv) hd (hk _ _ _ hK ls H locs hL hR hS hn)
theorem s_ldc2d (h : Cx p s m args c w cc own nL) {pc i : Nat} {K : KT} {v : UInt64} (hd : decode cc pc = .ok (.ldc2_w i, 3)) (hv : Jvm.Cond.constantDouble own i v ∈ lw_ok) (hk : Sd (Gm p l e R s m args below meth c Q w nL n0 n1 x9) (pc + 3) K) : Sd (Gm p l e R s m args below meth c Q w nL n0 n1 x9) pc (w_dc v K) := by
  intro L st M hK ls H locs hL hR hS hn
  exact lv_ldc2d h.1 h.2.1 h.2.2.2.1 (h.2.2.2.2.1 _ hv) hd (hk _ _ _ hK ls H locs hL hR hS hn)
theorem s_iload (h : Cx p s m args c w cc own nL) {pc : Nat} {K : KT} {i : Nat} (hd : decode cc pc = .ok (.iload i, 2)) (hk : Sd (Gm p l e R s m args below meth c Q w nL n0 n1 x9) (pc + 2) K) : Sd (Gm p l e R s m args below meth c Q w nL n0 n1 x9) pc (w_iload i K) := by
  intro L st M hK
  unfold w_iload at hK
  split at hK
  · rename_i x hx
    intro ls H locs hL hR hS hn
    exact lv_iload h.1 h.2.1 hd (hL.2.2.2 _ _ hx) (hk _ _ _ hK ls H locs hL hR hS hn)
  · exact hK.elim
theorem s_iload_n (h : Cx p s m args c w cc own nL) {pc : Nat} {K : KT} {k : Fin 4} {i : Nat} (hd : decode cc pc = .ok (.iload_n k, 1)) (hi : (k : Nat) = i) (hk : Sd (Gm p l e R s m args below meth c Q w nL n0 n1 x9) (pc + 1) K) : Sd (Gm p l e R s m args below meth c Q w nL n0 n1 x9) pc (w_iload i K) := by
  intro L st M hK
  unfold w_iload at hK
  split at hK
  · rename_i x hx
    intro ls H locs hL hR hS hn
    exact lv_iload_n h.1 h.2.1 hd hi (hL.2.2.2 _ _ hx) (hk _ _ _ hK ls H locs hL hR hS hn)
  · exact hK.elim
theorem s_istore (h : Cx p s m args c w cc own nL) {pc : Nat} {K : KT} {i : Nat} (hd : decode cc pc = .ok (.istore i, 2)) (hk : Sd (Gm p l e R s m args below meth c Q w nL n0 n1 x9) (pc + 2) K) : Sd (Gm p l e R s m args below meth c Q w nL n0 n1 x9) pc (w_istore i K) := by
  intro L st M hK
  unfold w_istore at hK
  split at hK
  · intro ls H locs hL hR hS hn
    exact lv_istore h.1 h.2.1 hd hL.has (by rw [← hL.2.1]; exact hK.1) rfl (fun ls9 hl9 => hk _ _ _ hK.2 ls9 H locs (hL.store1 hl9) hR hS hn)
  · exact hK.elim
theorem s_istore_n (h : Cx p s m args c w cc own nL) {pc : Nat} {K : KT} {k : Fin 4} {i : Nat} (hd : decode cc pc = .ok (.istore_n k, 1)) (hi : (k : Nat) = i) (hk : Sd (Gm p l e R s m args below meth c Q w nL n0 n1 x9) (pc + 1) K) : Sd (Gm p l e R s m args below meth c Q w nL n0 n1 x9) pc (w_istore i K) := by
  intro L st M hK
  unfold w_istore at hK
  split at hK
  · intro ls H locs hL hR hS hn
    exact lv_istore_n h.1 h.2.1 hd hi hL.has (by rw [← hL.2.1]; exact hK.1) rfl (fun ls9 hl9 => hk _ _ _ hK.2 ls9 H locs (hL.store1 hl9) hR hS hn)
  · exact hK.elim
theorem s_lload (h : Cx p s m args c w cc own nL) {pc : Nat} {K : KT} {i : Nat} (hd : decode cc pc = .ok (.lload i, 2)) (hk : Sd (Gm p l e R s m args below meth c Q w nL n0 n1 x9) (pc + 2) K) : Sd (Gm p l e R s m args below meth c Q w nL n0 n1 x9) pc (w_lload i K) := by
  intro L st M hK
  unfold w_lload at hK
  split at hK
  · rename_i x hx
    intro ls H locs hL hR hS hn
    exact lv_lload h.1 h.2.1 hd (hL.2.2.2 _ _ hx) (hk _ _ _ hK ls H locs hL hR hS hn)
  · exact hK.elim
theorem s_lload_n (h : Cx p s m args c w cc own nL) {pc : Nat} {K : KT} {k : Fin 4} {i : Nat} (hd : decode cc pc = .ok (.lload_n k, 1)) (hi : (k : Nat) = i) (hk : Sd (Gm p l e R s m args below meth c Q w nL n0 n1 x9) (pc + 1) K) : Sd (Gm p l e R s m args below meth c Q w nL n0 n1 x9) pc (w_lload i K) := by
  intro L st M hK
  unfold w_lload at hK
  split at hK
  · rename_i x hx
    intro ls H locs hL hR hS hn
    exact lv_lload_n h.1 h.2.1 hd hi (hL.2.2.2 _ _ hx) (hk _ _ _ hK ls H locs hL hR hS hn)
  · exact hK.elim
theorem s_lstore (h : Cx p s m args c w cc own nL) {pc : Nat} {K : KT} {i : Nat} (hd : decode cc pc = .ok (.lstore i, 2)) (hk : Sd (Gm p l e R s m args below meth c Q w nL n0 n1 x9) (pc + 2) K) : Sd (Gm p l e R s m args below meth c Q w nL n0 n1 x9) pc (w_lstore i K) := by
  intro L st M hK
  unfold w_lstore at hK
  split at hK
  · intro ls H locs hL hR hS hn
    exact lv_lstore h.1 h.2.1 hd hL.has (by rw [← hL.2.1]; exact hK.1) rfl (fun ls9 hl9 => hk _ _ _ hK.2 ls9 H locs (hL.store2 hl9) hR hS hn)
  · exact hK.elim
theorem s_lstore_n (h : Cx p s m args c w cc own nL) {pc : Nat} {K : KT} {k : Fin 4} {i : Nat} (hd : decode cc pc = .ok (.lstore_n k, 1)) (hi : (k : Nat) = i) (hk : Sd (Gm p l e R s m args below meth c Q w nL n0 n1 x9) (pc + 1) K) : Sd (Gm p l e R s m args below meth c Q w nL n0 n1 x9) pc (w_lstore i K) := by
  intro L st M hK
  unfold w_lstore at hK
  split at hK
  · intro ls H locs hL hR hS hn
    exact lv_lstore_n h.1 h.2.1 hd hi hL.has (by rw [← hL.2.1]; exact hK.1) rfl (fun ls9 hl9 => hk _ _ _ hK.2 ls9 H locs (hL.store2 hl9) hR hS hn)
  · exact hK.elim
theorem s_fload (h : Cx p s m args c w cc own nL) {pc : Nat} {K : KT} {i : Nat} (hd : decode cc pc = .ok (.fload i, 2)) (hk : Sd (Gm p l e R s m args below meth c Q w nL n0 n1 x9) (pc + 2) K) : Sd (Gm p l e R s m args below meth c Q w nL n0 n1 x9) pc (w_fload i K) := by
  intro L st M hK
  unfold w_fload at hK
  split at hK
  · rename_i x hx
    intro ls H locs hL hR hS hn
    exact lv_fload h.1 h.2.1 hd (hL.2.2.2 _ _ hx) (hk _ _ _ hK ls H locs hL hR hS hn)
  · exact hK.elim
theorem s_fload_n (h : Cx p s m args c w cc own nL) {pc : Nat} {K : KT} {k : Fin 4} {i : Nat} (hd : decode cc pc = .ok (.fload_n k, 1)) (hi : (k : Nat) = i) (hk : Sd (Gm p l e R s m args below meth c Q w nL n0 n1 x9) (pc + 1) K) : Sd (Gm p l e R s m args below meth c Q w nL n0 n1 x9) pc (w_fload i K) := by
  intro L st M hK
  unfold w_fload at hK
  split at hK
  · rename_i x hx
    intro ls H locs hL hR hS hn
    exact lv_fload_n h.1 h.2.1 hd hi (hL.2.2.2 _ _ hx) (hk _ _ _ hK ls H locs hL hR hS hn)
  · exact hK.elim
theorem s_fstore (h : Cx p s m args c w cc own nL) {pc : Nat} {K : KT} {i : Nat} (hd : decode cc pc = .ok (.fstore i, 2)) (hk : Sd (Gm p l e R s m args below meth c Q w nL n0 n1 x9) (pc + 2) K) : Sd (Gm p l e R s m args below meth c Q w nL n0 n1 x9) pc (w_fstore i K) := by
  intro L st M hK
  unfold w_fstore at hK
  split at hK
  · intro ls H locs hL hR hS hn
    exact lv_fstore h.1 h.2.1 hd hL.has (by rw [← hL.2.1]; exact hK.1) rfl (fun ls9 hl9 => hk _ _ _ hK.2 ls9 H locs (hL.store1 hl9) hR hS hn)
  · exact hK.elim
theorem s_fstore_n (h : Cx p s m args c w cc own nL) {pc : Nat} {K : KT} {k : Fin 4} {i : Nat} (hd : decode cc pc = .ok (.fstore_n k, 1)) (hi : (k : Nat) = i) (hk : Sd (Gm p l e R s m args below meth c Q w nL n0 n1 x9) (pc + 1) K) : Sd (Gm p l e R s m args below meth c Q w nL n0 n1 x9) pc (w_fstore i K) := by
  intro L st M hK
  unfold w_fstore at hK
  split at hK
  · intro ls H locs hL hR hS hn
    exact lv_fstore_n h.1 h.2.1 hd hi hL.has (by rw [← hL.2.1]; exact hK.1) rfl (fun ls9 hl9 => hk _ _ _ hK.2 ls9 H locs (hL.store1 hl9) hR hS hn)
  · exact hK.elim
theorem s_dload (h : Cx p s m args c w cc own nL) {pc : Nat} {K : KT} {i : Nat} (hd : decode cc pc = .ok (.dload i, 2)) (hk : Sd (Gm p l e R s m args below meth c Q w nL n0 n1 x9) (pc + 2) K) : Sd (Gm p l e R s m args below meth c Q w nL n0 n1 x9) pc (w_dload i K) := by
  intro L st M hK
  unfold w_dload at hK
  split at hK
  · rename_i x hx
    intro ls H locs hL hR hS hn
    exact lv_dload h.1 h.2.1 hd (hL.2.2.2 _ _ hx) (hk _ _ _ hK ls H locs hL hR hS hn)
  · exact hK.elim
theorem s_dload_n (h : Cx p s m args c w cc own nL) {pc : Nat} {K : KT} {k : Fin 4} {i : Nat} (hd : decode cc pc = .ok (.dload_n k, 1)) (hi : (k : Nat) = i) (hk : Sd (Gm p l e R s m args below meth c Q w nL n0 n1 x9) (pc + 1) K) : Sd (Gm p l e R s m args below meth c Q w nL n0 n1 x9) pc (w_dload i K) := by
  intro L st M hK
  unfold w_dload at hK
  split at hK
  · rename_i x hx
    intro ls H locs hL hR hS hn
    exact lv_dload_n h.1 h.2.1 hd hi (hL.2.2.2 _ _ hx) (hk _ _ _ hK ls H locs hL hR hS hn)
  · exact hK.elim
theorem s_dstore (h : Cx p s m args c w cc own nL) {pc : Nat} {K : KT} {i : Nat} (hd : decode cc pc = .ok (.dstore i, 2)) (hk : Sd (Gm p l e R s m args below meth c Q w nL n0 n1 x9) (pc + 2) K) : Sd (Gm p l e R s m args below meth c Q w nL n0 n1 x9) pc (w_dstore i K) := by
  intro L st M hK
  unfold w_dstore at hK
  split at hK
  · intro ls H locs hL hR hS hn
    exact lv_dstore h.1 h.2.1 hd hL.has (by rw [← hL.2.1]; exact hK.1) rfl (fun ls9 hl9 => hk _ _ _ hK.2 ls9 H locs (hL.store2 hl9) hR hS hn)
  · exact hK.elim
theorem s_dstore_n (h : Cx p s m args c w cc own nL) {pc : Nat} {K : KT} {k : Fin 4} {i : Nat} (hd : decode cc pc = .ok (.dstore_n k, 1)) (hi : (k : Nat) = i) (hk : Sd (Gm p l e R s m args below meth c Q w nL n0 n1 x9) (pc + 1) K) : Sd (Gm p l e R s m args below meth c Q w nL n0 n1 x9) pc (w_dstore i K) := by
  intro L st M hK
  unfold w_dstore at hK
  split at hK
  · intro ls H locs hL hR hS hn
    exact lv_dstore_n h.1 h.2.1 hd hi hL.has (by rw [← hL.2.1]; exact hK.1) rfl (fun ls9 hl9 => hk _ _ _ hK.2 ls9 H locs (hL.store2 hl9) hR hS hn)
  · exact hK.elim
theorem s_aload (h : Cx p s m args c w cc own nL) {pc : Nat} {K : KT} {i : Nat} (hd : decode cc pc = .ok (.aload i, 2)) (hk : Sd (Gm p l e R s m args below meth c Q w nL n0 n1 x9) (pc + 2) K) : Sd (Gm p l e R s m args below meth c Q w nL n0 n1 x9) pc (w_aload i K) := by
  intro L st M hK
  unfold w_aload at hK
  split at hK
  · rename_i x hx
    intro ls H locs hL hR hS hn
    exact lv_aload h.1 h.2.1 hd (hL.2.2.2 _ _ hx) (hk _ _ _ hK ls H locs hL hR hS hn)
  · exact hK.elim
theorem s_aload_n (h : Cx p s m args c w cc own nL) {pc : Nat} {K : KT} {k : Fin 4} {i : Nat} (hd : decode cc pc = .ok (.aload_n k, 1)) (hi : (k : Nat) = i) (hk : Sd (Gm p l e R s m args below meth c Q w nL n0 n1 x9) (pc + 1) K) : Sd (Gm p l e R s m args below meth c Q w nL n0 n1 x9) pc (w_aload i K) := by
  intro L st M hK
  unfold w_aload at hK
  split at hK
  · rename_i x hx
    intro ls H locs hL hR hS hn
    exact lv_aload_n h.1 h.2.1 hd hi (hL.2.2.2 _ _ hx) (hk _ _ _ hK ls H locs hL hR hS hn)
  · exact hK.elim
theorem s_astore (h : Cx p s m args c w cc own nL) {pc : Nat} {K : KT} {i : Nat} (hd : decode cc pc = .ok (.astore i, 2)) (hk : Sd (Gm p l e R s m args below meth c Q w nL n0 n1 x9) (pc + 2) K) : Sd (Gm p l e R s m args below meth c Q w nL n0 n1 x9) pc (w_astore i K) := by
  intro L st M hK
  unfold w_astore at hK
  split at hK
  · intro ls H locs hL hR hS hn
    exact lv_astore h.1 h.2.1 hd hL.has (by rw [← hL.2.1]; exact hK.1) rfl (fun ls9 hl9 => hk _ _ _ hK.2 ls9 H locs (hL.store1 hl9) hR hS hn)
  · exact hK.elim
theorem s_astore_n (h : Cx p s m args c w cc own nL) {pc : Nat} {K : KT} {k : Fin 4} {i : Nat} (hd : decode cc pc = .ok (.astore_n k, 1)) (hi : (k : Nat) = i) (hk : Sd (Gm p l e R s m args below meth c Q w nL n0 n1 x9) (pc + 1) K) : Sd (Gm p l e R s m args below meth c Q w nL n0 n1 x9) pc (w_astore i K) := by
  intro L st M hK
  unfold w_astore at hK
  split at hK
  · intro ls H locs hL hR hS hn
    exact lv_astore_n h.1 h.2.1 hd hi hL.has (by rw [← hL.2.1]; exact hK.1) rfl (fun ls9 hl9 => hk _ _ _ hK.2 ls9 H locs (hL.store1 hl9) hR hS hn)
  · exact hK.elim
theorem s_iinc (h : Cx p s m args c w cc own nL) {pc : Nat} {K : KT} {i : Nat} {n : Int} {v : Int32} (hd : decode cc pc = .ok (.iinc i n, 3)) (hv : Int32.ofInt n = v) (hk : Sd (Gm p l e R s m args below meth c Q w nL n0 n1 x9) (pc + 3) K) : Sd (Gm p l e R s m args below meth c Q w nL n0 n1 x9) pc (w_iinc i v K) := by
  subst hv
  intro L st M hK
  unfold w_iinc at hK
  split at hK
  · rename_i x hx
    intro ls H locs hL hR hS hn
    obtain ⟨k9, hk9⟩ := List.getElem?_of_mem (lvL_mem (w := w) hx)
    exact lv_iinc h.1 h.2.1 hd hL.has hk9 rfl (by have := lget_lt hx; rw [hL.2.1] at this; exact this) rfl (fun ls9 hl9 => hk _ _ _ hK ls9 H locs (hL.store1 (v := .int (x + Int32.ofInt n)) hl9) hR hS hn)
  · exact hK.elim
theorem s_dup (h : Cx p s m args c w cc own nL) {pc : Nat} {K : KT} (hd : decode cc pc = .ok (.dup, 1)) (hk : Sd (Gm p l e R s m args below meth c Q w nL n0 n1 x9) (pc + 1) K) : Sd (Gm p l e R s m args below meth c Q w nL n0 n1 x9) pc (w_dup K) := by
  intro L st M hK
  unfold w_dup at hK
  split at hK
  · intro ls H locs hL hR hS hn
    exact lv_dup h.1 h.2.1 hd (by rw [tr_cat]; exact hK.1) (hk _ _ _ hK.2 ls H locs hL hR hS hn)
  · exact hK.elim
theorem s_pop (h : Cx p s m args c w cc own nL) {pc : Nat} {K : KT} (hd : decode cc pc = .ok (.pop, 1)) (hk : Sd (Gm p l e R s m args below meth c Q w nL n0 n1 x9) (pc + 1) K) : Sd (Gm p l e R s m args below meth c Q w nL n0 n1 x9) pc (w_pop K) := by
  intro L st M hK
  unfold w_pop at hK
  split at hK
  · intro ls H locs hL hR hS hn
    exact lv_pop h.1 h.2.1 hd (by rw [tr_cat]; exact hK.1) (hk _ _ _ hK.2 ls H locs hL hR hS hn)
  · exact hK.elim
theorem s_dup2 (h : Cx p s m args c w cc own nL) {pc : Nat} {K : KT} (hd : decode cc pc = .ok (.dup2, 1)) (hk : Sd (Gm p l e R s m args below meth c Q w nL n0 n1 x9) (pc + 1) K) : Sd (Gm p l e R s m args below meth c Q w nL n0 n1 x9) pc (w_dup2 K) := by
  intro L st M hK
  unfold w_dup2 at hK
  split at hK
  · intro ls H locs hL hR hS hn
    exact lv_dup2_11 h.1 h.2.1 hd (by rw [tr_cat]; exact hK.1) (by rw [tr_cat]; exact hK.2.1) (hk _ _ _ hK.2.2 ls H locs hL hR hS hn)
  · exact hK.elim
theorem s_dup2l (h : Cx p s m args c w cc own nL) {pc : Nat} {K : KT} (hd : decode cc pc = .ok (.dup2, 1)) (hk : Sd (Gm p l e R s m args below meth c Q w nL n0 n1 x9) (pc + 1) K) : Sd (Gm p l e R s m args below meth c Q w nL n0 n1 x9) pc (w_dup2l K) := by
  intro L st M hK
  unfold w_dup2l at hK
  split at hK
  · intro ls H locs hL hR hS hn
    exact lv_dup2_2 h.1 h.2.1 hd (by rw [tr_cat]; exact hK.1) (hk _ _ _ hK.2 ls H locs hL hR hS hn)
  · exact hK.elim
theorem s_icmp_eq (h : Cx p s m args c w cc own nL) {pc tgt : Nat} {off : Int} {Kt Kf : KT} (hd : decode cc pc = .ok (.if_icmp .eq off, 3)) (ht : (pc : Int) + off = (tgt : Int)) (hkt : Sd (Gm p l e R s m args below meth c Q w nL n0 n1 x9) tgt Kt) (hkf : Sd (Gm p l e R s m args below meth c Q w nL n0 n1 x9) (pc + 3) Kf) : Sd (Gm p l e R s m args below meth c Q w nL n0 n1 x9) pc (w_icmp_eq Kt Kf) := by
  intro L st M hK
  unfold w_icmp_eq at hK
  split at hK
  · intro ls H locs hL hR hS hn
    exact lv_icmp_eq h.1 h.2.1 hd ht (fun q => hkt _ _ _ (hK.1 q) ls H locs hL hR hS hn) (fun q => hkf _ _ _ (hK.2 q) ls H locs hL hR hS hn)
  · exact hK.elim
theorem s_if_eq (h : Cx p s m args c w cc own nL) {pc tgt : Nat} {off : Int} {Kt Kf : KT} (hd : decode cc pc = .ok (.ifCond .eq off, 3)) (ht : (pc : Int) + off = (tgt : Int)) (hkt : Sd (Gm p l e R s m args below meth c Q w nL n0 n1 x9) tgt Kt) (hkf : Sd (Gm p l e R s m args below meth c Q w nL n0 n1 x9) (pc + 3) Kf) : Sd (Gm p l e R s m args below meth c Q w nL n0 n1 x9) pc (w_if_eq Kt Kf) := by
  intro L st M hK
  unfold w_if_eq at hK
  split at hK
  · intro ls H locs hL hR hS hn
    exact lv_if_eq h.1 h.2.1 hd ht (fun q => hkt _ _ _ (hK.1 q) ls H locs hL hR hS hn) (fun q => hkf _ _ _ (hK.2 q) ls H locs hL hR hS hn)
  · exact hK.elim
theorem s_icmp_ne (h : Cx p s m args c w cc own nL) {pc tgt : Nat} {off : Int} {Kt Kf : KT} (hd : decode cc pc = .ok (.if_icmp .ne off, 3)) (ht : (pc : Int) + off = (tgt : Int)) (hkt : Sd (Gm p l e R s m args below meth c Q w nL n0 n1 x9) tgt Kt) (hkf : Sd (Gm p l e R s m args below meth c Q w nL n0 n1 x9) (pc + 3) Kf) : Sd (Gm p l e R s m args below meth c Q w nL n0 n1 x9) pc (w_icmp_ne Kt Kf) := by
  intro L st M hK
  unfold w_icmp_ne at hK
  split at hK
  · intro ls H locs hL hR hS hn
    exact lv_icmp_ne h.1 h.2.1 hd ht (fun q => hkt _ _ _ (hK.1 q) ls H locs hL hR hS hn) (fun q => hkf _ _ _ (hK.2 q) ls H locs hL hR hS hn)
  · exact hK.elim
theorem s_if_ne (h : Cx p s m args c w cc own nL) {pc tgt : Nat} {off : Int} {Kt Kf : KT} (hd : decode cc pc = .ok (.ifCond .ne off, 3)) (ht : (pc : Int) + off = (tgt : Int)) (hkt : Sd (Gm p l e R s m args below meth c Q w nL n0 n1 x9) tgt Kt) (hkf : Sd (Gm p l e R s m args below meth c Q w nL n0 n1 x9) (pc + 3) Kf) : Sd (Gm p l e R s m args below meth c Q w nL n0 n1 x9) pc (w_if_ne Kt Kf) := by
  intro L st M hK
  unfold w_if_ne at hK
  split at hK
  · intro ls H locs hL hR hS hn
    exact lv_if_ne h.1 h.2.1 hd ht (fun q => hkt _ _ _ (hK.1 q) ls H locs hL hR hS hn) (fun q => hkf _ _ _ (hK.2 q) ls H locs hL hR hS hn)
  · exact hK.elim
theorem s_icmp_lt (h : Cx p s m args c w cc own nL) {pc tgt : Nat} {off : Int} {Kt Kf : KT} (hd : decode cc pc = .ok (.if_icmp .lt off, 3)) (ht : (pc : Int) + off = (tgt : Int)) (hkt : Sd (Gm p l e R s m args below meth c Q w nL n0 n1 x9) tgt Kt) (hkf : Sd (Gm p l e R s m args below meth c Q w nL n0 n1 x9) (pc + 3) Kf) : Sd (Gm p l e R s m args below meth c Q w nL n0 n1 x9) pc (w_icmp_lt Kt Kf) := by
  intro L st M hK
  unfold w_icmp_lt at hK
  split at hK
  · intro ls H locs hL hR hS hn
    exact lv_icmp_lt h.1 h.2.1 hd ht (fun q => hkt _ _ _ (hK.1 q) ls H locs hL hR hS hn) (fun q => hkf _ _ _ (hK.2 q) ls H locs hL hR hS hn)
  · exact hK.elim
theorem s_if_lt (h : Cx p s m args c w cc own nL) {pc tgt : Nat} {off : Int} {Kt Kf : KT} (hd : decode cc pc = .ok (.ifCond .lt off, 3)) (ht : (pc : Int) + off = (tgt : Int)) (hkt : Sd (Gm p l e R s m args below meth c Q w nL n0 n1 x9) tgt Kt) (hkf : Sd (Gm p l e R s m args below meth c Q w nL n0 n1 x9) (pc + 3) Kf) : Sd (Gm p l e R s m args below meth c Q w nL n0 n1 x9) pc (w_if_lt Kt Kf) := by
  intro L st M hK
  unfold w_if_lt at hK
  split at hK
  · intro ls H locs hL hR hS hn
    exact lv_if_lt h.1 h.2.1 hd ht (fun q => hkt _ _ _ (hK.1 q) ls H locs hL hR hS hn) (fun q => hkf _ _ _ (hK.2 q) ls H locs hL hR hS hn)
  · exact hK.elim
theorem s_icmp_ge (h : Cx p s m args c w cc own nL) {pc tgt : Nat} {off : Int} {Kt Kf : KT} (hd : decode cc pc = .ok (.if_icmp .ge off, 3)) (ht : (pc : Int) + off = (tgt : Int)) (hkt : Sd (Gm p l e R s m args below meth c Q w nL n0 n1 x9) tgt Kt) (hkf : Sd (Gm p l e R s m args below meth c Q w nL n0 n1 x9) (pc + 3) Kf) : Sd (Gm p l e R s m args below meth c Q w nL n0 n1 x9) pc (w_icmp_ge Kt Kf) := by
  intro L st M hK
  unfold w_icmp_ge at hK
  split at hK
  · intro ls H locs hL hR hS hn
    exact lv_icmp_ge h.1 h.2.1 hd ht (fun q => hkt _ _ _ (hK.1 q) ls H locs hL hR hS hn) (fun q => hkf _ _ _ (hK.2 q) ls H locs hL hR hS hn)
  · exact hK.elim
theorem s_if_ge (h : Cx p s m args c w cc own nL) {pc tgt : Nat} {off : Int} {Kt Kf : KT} (hd : decode cc pc = .ok (.ifCond .ge off, 3)) (ht : (pc : Int) + off = (tgt : Int)) (hkt : Sd (Gm p l e R s m args below meth c Q w nL n0 n1 x9) tgt Kt) (hkf : Sd (Gm p l e R s m args below meth c Q w nL n0 n1 x9) (pc + 3) Kf) : Sd (Gm p l e R s m args below meth c Q w nL n0 n1 x9) pc (w_if_ge Kt Kf) := by
  intro L st M hK
  unfold w_if_ge at hK
  split at hK
  · intro ls H locs hL hR hS hn
    exact lv_if_ge h.1 h.2.1 hd ht (fun q => hkt _ _ _ (hK.1 q) ls H locs hL hR hS hn) (fun q => hkf _ _ _ (hK.2 q) ls H locs hL hR hS hn)
  · exact hK.elim
theorem s_icmp_gt (h : Cx p s m args c w cc own nL) {pc tgt : Nat} {off : Int} {Kt Kf : KT} (hd : decode cc pc = .ok (.if_icmp .gt off, 3)) (ht : (pc : Int) + off = (tgt : Int)) (hkt : Sd (Gm p l e R s m args below meth c Q w nL n0 n1 x9) tgt Kt) (hkf : Sd (Gm p l e R s m args below meth c Q w nL n0 n1 x9) (pc + 3) Kf) : Sd (Gm p l e R s m args below meth c Q w nL n0 n1 x9) pc (w_icmp_gt Kt Kf) := by
  intro L st M hK
  unfold w_icmp_gt at hK
  split at hK
  · intro ls H locs hL hR hS hn
    exact lv_icmp_gt h.1 h.2.1 hd ht (fun q => hkt _ _ _ (hK.1 q) ls H locs hL hR hS hn) (fun q => hkf _ _ _ (hK.2 q) ls H locs hL hR hS hn)
  · exact hK.elim
theorem s_if_gt (h : Cx p s m args c w cc own nL) {pc tgt : Nat} {off : Int} {Kt Kf : KT} (hd : decode cc pc = .ok (.ifCond .gt off, 3)) (ht : (pc : Int) + off = (tgt : Int)) (hkt : Sd (Gm p l e R s m args below meth c Q w nL n0 n1 x9) tgt Kt) (hkf : Sd (Gm p l e R s m args below meth c Q w nL n0 n1 x9) (pc + 3) Kf) : Sd (Gm p l e R s m args below meth c Q w nL n0 n1 x9) pc (w_if_gt Kt Kf) := by
  intro L st M hK
  unfold w_if_gt at hK
  split at hK
  · intro ls H locs hL hR hS hn
    exact lv_if_gt h.1 h.2.1 hd ht (fun q => hkt _ _ _ (hK.1 q) ls H locs hL hR hS hn) (fun q => hkf _ _ _ (hK.2 q) ls H locs hL hR hS hn)
  · exact hK.elim
theorem s_icmp_le (h : Cx p s m args c w cc own nL) {pc tgt : Nat} {off : Int} {Kt Kf : KT} (hd : decode cc pc = .ok (.if_icmp .le off, 3)) (ht : (pc : Int) + off = (tgt : Int)) (hkt : Sd (Gm p l e R s m args below meth c Q w nL n0 n1 x9) tgt Kt) (hkf : Sd (Gm p l e R s m args below meth c Q w nL n0 n1 x9) (pc + 3) Kf) : Sd (Gm p l e R s m args below meth c Q w nL n0 n1 x9) pc (w_icmp_le Kt Kf) := by
  intro L st M hK
  unfold w_icmp_le at hK
  split at hK
  · intro ls H locs hL hR hS hn
    exact lv_icmp_le h.1 h.2.1 hd ht (fun q => hkt _ _ _ (hK.1 q) ls H locs hL hR hS hn) (fun q => hkf _ _ _ (hK.2 q) ls H locs hL hR hS hn)
  · exact hK.elim
theorem s_if_le (h : Cx p s m args c w cc own nL) {pc tgt : Nat} {off : Int} {Kt Kf : KT} (hd : decode cc pc = .ok (.ifCond .le off, 3)) (ht : (pc : Int) + off = (tgt : Int)) (hkt : Sd (Gm p l e R s m args below meth c Q w nL n0 n1 x9) tgt Kt) (hkf : Sd (Gm p l e R s m args below meth c Q w nL n0 n1 x9) (pc + 3) Kf) : Sd (Gm p l e R s m args below meth c Q w nL n0 n1 x9) pc (w_if_le Kt Kf) := by
  intro L st M hK
  unfold w_if_le at hK
  split at hK
  · intro ls H locs hL hR hS hn
    exact lv_if_le h.1 h.2.1 hd ht (fun q => hkt _ _ _ (hK.1 q) ls H locs hL hR hS hn) (fun q => hkf _ _ _ (hK.2 q) ls H locs hL hR hS hn)
  · exact hK.elim
theorem s_goto (h : Cx p s m args c w cc own nL) {pc tgt : Nat} {off : Int} {K : KT} (hd : decode cc pc = .ok (.goto off, 3)) (ht : (pc : Int) + off = (tgt : Int)) (hk : Sd (Gm p l e R s m args below meth c Q w nL n0 n1 x9) tgt K) : Sd (Gm p l e R s m args below meth c Q w nL n0 n1 x9) pc K := by
  intro L st M hK ls H locs hL hR hS hn
  exact lv_goto h.1 h.2.1 hd ht (hk _ _ _ hK ls H locs hL hR hS hn)
end OPS
