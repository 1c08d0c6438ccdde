section INS
def cn (c : Nat → Int64) (k : Nat) : Nat := (c k).toInt.toNat
theorem cn_lN {c : Nat → Int64} {k v : Nat} (h : c k = lN v) (hv : v < 2 ^ 63) : cn c k = v := by
  unfold cn
  rw [h, l6_int hv]
  rfl
/-- where an instruction's registers, scalar and mask stand -/
def posR (o j : Nat) : Nat := if j = 0 then (if (17 ≤ o ∧ o ≤ 22) ∨ (41 ≤ o ∧ o ≤ 44) then 1 else 0) else if j = 1 then (if (17 ≤ o ∧ o ≤ 23) ∨ o = 26 ∨ o = 27 ∨ o = 32 ∨ o = 33 then 2 else 1) else (if o = 23 then 3 else 2)
def posS (o : Nat) : Nat := if 41 ≤ o ∧ o ≤ 44 then 0 else if o = 30 ∨ o = 31 then 1 else 2
def posM (o : Nat) : Nat := if o = 23 ∨ o = 32 ∨ o = 33 then 1 else 0
def rgN (o : Nat) (c : Nat → Int64) (j : Nat) : Nat := cn c (posR o j + 1)
def scN (o : Nat) (c : Nat → Int64) : Nat := cn c (posS o + 1)
def mkN (o : Nat) (c : Nat → Int64) : Nat := cn c (posM o + 1)
def arN (c : Nat → Int64) : Nat := cn c 2
def usS (o : Nat) : Bool := (11 ≤ o && o ≤ 13) || (28 ≤ o && o ≤ 31) || o == 35 || (41 ≤ o && o ≤ 45)
def usM (o : Nat) : Bool := (17 ≤ o && o ≤ 23) || o == 32 || o == 33
def usA (o : Nat) : Bool := 26 ≤ o && o ≤ 29
theorem pos_all : ∀ o ∈ List.range 46, (∀ j ∈ List.range 3, j < cntR o 4 → posR o j < (opL o).length ∧ (97 ≤ letN o (posR o j) ∧ letN o (posR o j) ≤ 122) ∧ cntR o (posR o j) = j) ∧ 1 ≤ cntR o 4 ∧ cntR o 4 ≤ 3
   ∧ (usS o = true → posS o < (opL o).length ∧ letN o (posS o) = 83) ∧ (usM o = true → posM o < (opL o).length ∧ letN o (posM o) = 77) ∧ (usA o = true → 1 < (opL o).length ∧ letN o 1 = 65) := by decide +kernel
theorem rg_is {o j : Nat} {c : Nat → Int64} (ho : o < 46) (hv : VC o c) (hj : j < cntR o 4) : rgN o c j < 8 ∧ c (posR o j + 1) = lN (rgN o c j) := by
  obtain ⟨h1, h2, h3, -⟩ := pos_all o (List.mem_range.mpr ho)
  obtain ⟨a1, a2, a3⟩ := h1 j (List.mem_range.mpr (by omega)) hj
  obtain ⟨v, v1, v2⟩ := (hv.1 _ a1).1 (Or.inl a2)
  have e : rgN o c j = v := cn_lN v2 (by omega)
  rw [e]
  exact ⟨v1, v2⟩
theorem sc_is {o : Nat} {c : Nat → Int64} (ho : o < 46) (hv : VC o c) (hj : usS o = true) : scN o c < 8 ∧ c (posS o + 1) = lN (scN o c) := by
  obtain ⟨-, -, -, h4, -⟩ := pos_all o (List.mem_range.mpr ho)
  obtain ⟨a1, a2⟩ := h4 hj
  obtain ⟨v, v1, v2⟩ := (hv.1 _ a1).1 (Or.inr (Or.inr a2))
  have e : scN o c = v := cn_lN v2 (by omega)
  rw [e]
  exact ⟨v1, v2⟩
theorem mk_is {o : Nat} {c : Nat → Int64} (ho : o < 46) (hv : VC o c) (hj : usM o = true) : mkN o c < 4 ∧ c (posM o + 1) = lN (mkN o c) := by
  obtain ⟨-, -, -, -, h4, -⟩ := pos_all o (List.mem_range.mpr ho)
  obtain ⟨a1, a2⟩ := h4 hj
  obtain ⟨v, v1, v2⟩ := (hv.1 _ a1).2 a2
  have e : mkN o c = v := cn_lN v2 (by omega)
  rw [e]
  exact ⟨v1, v2⟩
theorem ar_is {o : Nat} {c : Nat → Int64} (ho : o < 46) (hv : VC o c) (hj : usA o = true) : arN c < 8 ∧ c 2 = lN (arN c) := by
  obtain ⟨-, -, -, -, -, h4⟩ := pos_all o (List.mem_range.mpr ho)
  obtain ⟨a1, a2⟩ := h4 hj
  obtain ⟨v, v1, v2⟩ := (hv.1 _ a1).1 (Or.inr (Or.inl a2))
  have e : arN c = v := cn_lN v2 (by omega)
  rw [e]
  exact ⟨v1, v2⟩
theorem NM.rg {o j : Nat} {c : Nat → Int64} {M : Mem} (ho : o < 46) (hv : VC o c) (hj : j < cntR o 4) (h : NM o c (opL o).length M) : gR M 443 j = some (410 + 4 * rgN o c j) := by
  obtain ⟨h1, -, h3, -⟩ := pos_all o (List.mem_range.mpr ho)
  obtain ⟨a1, a2, a3⟩ := h1 j (List.mem_range.mpr (by omega)) hj
  obtain ⟨r1, r2⟩ := rg_is ho hv hj
  have := (h _ a1 _ r1 r2).1 a2
  rw [a3] at this
  exact this
theorem NM.sc {o : Nat} {c : Nat → Int64} {M : Mem} (ho : o < 46) (hv : VC o c) (hj : usS o = true) (h : NM o c (opL o).length M) : gI M 404 7 = nI (scN o c) := by
  obtain ⟨-, -, -, h4, -⟩ := pos_all o (List.mem_range.mpr ho)
  obtain ⟨a1, a2⟩ := h4 hj
  obtain ⟨r1, r2⟩ := sc_is ho hv hj
  exact (h _ a1 _ r1 r2).2.2.2 a2
theorem NM.mk {o : Nat} {c : Nat → Int64} {M : Mem} (ho : o < 46) (hv : VC o c) (hj : usM o = true) (h : NM o c (opL o).length M) : gI M 404 6 = nI (mkN o c) := by
  obtain ⟨-, -, -, -, h4, -⟩ := pos_all o (List.mem_range.mpr ho)
  obtain ⟨a1, a2⟩ := h4 hj
  obtain ⟨r1, r2⟩ := mk_is ho hv hj
  exact (h _ a1 _ (by omega) r2).2.2.1 a2 r1
theorem NM.ar {o : Nat} {c : Nat → Int64} {M : Mem} (ho : o < 46) (hv : VC o c) (hj : usA o = true) (h : NM o c (opL o).length M) : gR M 404 5 = some (412 + 4 * arN c) := by
  obtain ⟨-, -, -, -, -, h4⟩ := pos_all o (List.mem_range.mpr ho)
  obtain ⟨a1, a2⟩ := h4 hj
  obtain ⟨r1, r2⟩ := ar_is ho hv hj
  exact (h _ a1 _ r1 r2).2.1 a2
/-- the misfit of an instruction, by the data -/
noncomputable def mfD (o : Nat) (c : Nat → Int64) (d : DS) : Int32 := mfS o (fun j => dk d (2 * rgN o c j)) (fun j => decide (dn d (2 * rgN o c j) = dn d (2 * rgN o c 0))) (dk d (2 * arN c + 1))
/-- an instruction of lanes without misfit: fault, lane, lanes done, data -/
noncomputable def insG (o : Nat) (c : Nat → Int64) (d : DS) : Int32 × Int32 × Nat × DS :=
  let v := 2 * rgN o c 0
  let k := dk d v
  let n := dn d v
  let f := di d v
  let k1 := dk d (2 * rgN o c 1)
  let X := di d (2 * rgN o c 1)
  let Y := di d (2 * rgN o c 2)
  let S := dsc d (scN o c)
  let a := 2 * arN c + 1
  let w := onS (nI n) c (dm d)
  let mw := dm d (mkN o c)
  if o = 0 then (0, -1, cn c 3, setRow d v (c 2).toInt32 (cn c 3) (fun _ => 0))
  else if 17 ≤ o ∧ o ≤ 22 then (0, -1, 0, setM d (mkN o c) (crun (fun i => onW w i ∧ P_X2_isSo (100000 + o) (f_X3_value k (f i)) (f_X3_value k (X i))) n 0 ((mw &&& (w ^^^ (-1 : Int32))) &&& f_X2_below (nI n))))
  else if o = 23 then (0, -1, n, setIt d v (fun j => iT (onW mw j) (X j) (Y j)))
  else if o = 27 ∨ o = 29 then ((strun (elS o X S) (dn d a) f (onW w) n 0 (di d a)).1, if (strun (elS o X S) (dn d a) f (onW w) n 0 (di d a)).1 = 0 then -1 else nI (strun (elS o X S) (dn d a) f (onW w) n 0 (di d a)).2.1, cntW w, setIt d a (strun (elS o X S) (dn d a) f (onW w) n 0 (di d a)).2.2)
  else if o = 32 then (0, -1, (prun X (onW mw) n 0 0 f).1, setIt d v (prun X (onW mw) n 0 0 f).2)
  else if o = 33 then (0, -1, (srun X (onW mw) n 0 0 f).1, setIt d v (srun X (onW mw) n 0 0 f).2)
  else if o = 38 then (0, -1, n, setIt d v (sortR (ltJ k) X n 0 f))
  else if o = 40 then ((hrun k n n X).1, if (hrun k n n X).1 = 0 then -1 else nI (hrun k n n X).2.1, 1, setIt d v (if (hrun k n n X).1 = 0 then up1 f 0 ((hrun k n n X).2.2 0) else f))
  else if 41 ≤ o ∧ o ≤ 43 then (0, -1, 0, match foEnd o (frun o f (onW w) n 0 none) with | none => d | some s => setS d (scN o c) s)
  else if o = 44 then (if cn c 3 < n then (0, -1, 0, setS d (scN o c) (f (cn c 3))) else (4, nI (cn c 3), 0, d))
  else if o = 45 then (if cn c 2 < n then (0, -1, 1, setIt d v (up1 f (cn c 2) (putJ k S))) else (4, nI (cn c 2), 0, d))
  else ((lrun (mkS o k k1 n X Y S (dn d a) (di d a)) (onW w) n 0 none f).1, if (lrun (mkS o k k1 n X Y S (dn d a) (di d a)) (onW w) n 0 none f).1 = 0 then -1 else nI (lrun (mkS o k k1 n X Y S (dn d a) (di d a)) (onW w) n 0 none f).2.1, cntW w, setIt d v (lrun (mkS o k k1 n X Y S (dn d a) (di d a)) (onW w) n 0 none f).2.2)
noncomputable def insD (o : Nat) (c : Nat → Int64) (d : DS) : Int32 × Int32 × Nat × DS := if mfD o c d = 0 then insG o c d else (mfD o c d, -1, 0, d)
theorem insG_0 {c : Nat → Int64} {d : DS} : insG 0 c d = (0, -1, cn c 3, setRow d (2 * rgN 0 c 0) (c 2).toInt32 (cn c 3) (fun _ => 0)) := rfl
theorem insG_cmp {o : Nat} {c : Nat → Int64} {d : DS} (h : 17 ≤ o ∧ o ≤ 22) : insG o c d = (0, -1, 0, setM d (mkN o c) (crun (fun i => onW (onS (nI (dn d (2 * rgN o c 0))) c (dm d)) i ∧ P_X2_isSo (100000 + o) (f_X3_value (dk d (2 * rgN o c 0)) (di d (2 * rgN o c 0) i)) (f_X3_value (dk d (2 * rgN o c 0)) (di d (2 * rgN o c 1) i))) (dn d (2 * rgN o c 0)) 0 ((dm d (mkN o c) &&& (onS (nI (dn d (2 * rgN o c 0))) c (dm d) ^^^ (-1 : Int32))) &&& f_X2_below (nI (dn d (2 * rgN o c 0)))))) := by
  unfold insG
  dsimp only
  rw [if_neg (by omega), if_pos h]
theorem insG_23 {c : Nat → Int64} {d : DS} : insG 23 c d = (0, -1, dn d (2 * rgN 23 c 0), setIt d (2 * rgN 23 c 0) (fun j => iT (onW (dm d (mkN 23 c)) j) (di d (2 * rgN 23 c 1) j) (di d (2 * rgN 23 c 2) j))) := rfl
theorem insG_st {o : Nat} {c : Nat → Int64} {d : DS} (h : o = 27 ∨ o = 29) : insG o c d = ((strun (elS o (di d (2 * rgN o c 1)) (dsc d (scN o c))) (dn d (2 * arN c + 1)) (di d (2 * rgN o c 0)) (onW (onS (nI (dn d (2 * rgN o c 0))) c (dm d))) (dn d (2 * rgN o c 0)) 0 (di d (2 * arN c + 1))).1, if (strun (elS o (di d (2 * rgN o c 1)) (dsc d (scN o c))) (dn d (2 * arN c + 1)) (di d (2 * rgN o c 0)) (onW (onS (nI (dn d (2 * rgN o c 0))) c (dm d))) (dn d (2 * rgN o c 0)) 0 (di d (2 * arN c + 1))).1 = 0 then -1 else nI (strun (elS o (di d (2 * rgN o c 1)) (dsc d (scN o c))) (dn d (2 * arN c + 1)) (di d (2 * rgN o c 0)) (onW (onS (nI (dn d (2 * rgN o c 0))) c (dm d))) (dn d (2 * rgN o c 0)) 0 (di d (2 * arN c + 1))).2.1, cntW (onS (nI (dn d (2 * rgN o c 0))) c (dm d)), setIt d (2 * arN c + 1) (strun (elS o (di d (2 * rgN o c 1)) (dsc d (scN o c))) (dn d (2 * arN c + 1)) (di d (2 * rgN o c 0)) (onW (onS (nI (dn d (2 * rgN o c 0))) c (dm d))) (dn d (2 * rgN o c 0)) 0 (di d (2 * arN c + 1))).2.2) := by
  unfold insG
  dsimp only
  rw [if_neg (by omega), if_neg (by omega), if_neg (by omega), if_pos h]
theorem insG_32 {c : Nat → Int64} {d : DS} : insG 32 c d = (0, -1, (prun (di d (2 * rgN 32 c 1)) (onW (dm d (mkN 32 c))) (dn d (2 * rgN 32 c 0)) 0 0 (di d (2 * rgN 32 c 0))).1, setIt d (2 * rgN 32 c 0) (prun (di d (2 * rgN 32 c 1)) (onW (dm d (mkN 32 c))) (dn d (2 * rgN 32 c 0)) 0 0 (di d (2 * rgN 32 c 0))).2) := rfl
theorem insG_33 {c : Nat → Int64} {d : DS} : insG 33 c d = (0, -1, (srun (di d (2 * rgN 33 c 1)) (onW (dm d (mkN 33 c))) (dn d (2 * rgN 33 c 0)) 0 0 (di d (2 * rgN 33 c 0))).1, setIt d (2 * rgN 33 c 0) (srun (di d (2 * rgN 33 c 1)) (onW (dm d (mkN 33 c))) (dn d (2 * rgN 33 c 0)) 0 0 (di d (2 * rgN 33 c 0))).2) := rfl
theorem insG_38 {c : Nat → Int64} {d : DS} : insG 38 c d = (0, -1, dn d (2 * rgN 38 c 0), setIt d (2 * rgN 38 c 0) (sortR (ltJ (dk d (2 * rgN 38 c 0))) (di d (2 * rgN 38 c 1)) (dn d (2 * rgN 38 c 0)) 0 (di d (2 * rgN 38 c 0)))) := rfl
theorem insG_40 {c : Nat → Int64} {d : DS} : insG 40 c d = ((hrun (dk d (2 * rgN 40 c 0)) (dn d (2 * rgN 40 c 0)) (dn d (2 * rgN 40 c 0)) (di d (2 * rgN 40 c 1))).1, if (hrun (dk d (2 * rgN 40 c 0)) (dn d (2 * rgN 40 c 0)) (dn d (2 * rgN 40 c 0)) (di d (2 * rgN 40 c 1))).1 = 0 then -1 else nI (hrun (dk d (2 * rgN 40 c 0)) (dn d (2 * rgN 40 c 0)) (dn d (2 * rgN 40 c 0)) (di d (2 * rgN 40 c 1))).2.1, 1, setIt d (2 * rgN 40 c 0) (if (hrun (dk d (2 * rgN 40 c 0)) (dn d (2 * rgN 40 c 0)) (dn d (2 * rgN 40 c 0)) (di d (2 * rgN 40 c 1))).1 = 0 then up1 (di d (2 * rgN 40 c 0)) 0 ((hrun (dk d (2 * rgN 40 c 0)) (dn d (2 * rgN 40 c 0)) (dn d (2 * rgN 40 c 0)) (di d (2 * rgN 40 c 1))).2.2 0) else di d (2 * rgN 40 c 0))) := rfl
theorem insG_fo {o : Nat} {c : Nat → Int64} {d : DS} (h : 41 ≤ o ∧ o ≤ 43) : insG o c d = (0, -1, 0, match foEnd o (frun o (di d (2 * rgN o c 0)) (onW (onS (nI (dn d (2 * rgN o c 0))) c (dm d))) (dn d (2 * rgN o c 0)) 0 none) with | none => d | some s => setS d (scN o c) s) := by
  unfold insG
  dsimp only
  rw [if_neg (by omega), if_neg (by omega), if_neg (by omega), if_neg (by omega), if_neg (by omega), if_neg (by omega), if_neg (by omega), if_neg (by omega), if_pos h]
theorem insG_44 {c : Nat → Int64} {d : DS} : insG 44 c d = (if cn c 3 < dn d (2 * rgN 44 c 0) then (0, -1, 0, setS d (scN 44 c) (di d (2 * rgN 44 c 0) (cn c 3))) else (4, nI (cn c 3), 0, d)) := rfl
theorem insG_45 {c : Nat → Int64} {d : DS} : insG 45 c d = (if cn c 2 < dn d (2 * rgN 45 c 0) then (0, -1, 1, setIt d (2 * rgN 45 c 0) (up1 (di d (2 * rgN 45 c 0)) (cn c 2) (putJ (dk d (2 * rgN 45 c 0)) (dsc d (scN 45 c))))) else (4, nI (cn c 2), 0, d)) := rfl
theorem mk_not {o : Nat} (h : o ∈ MKL ∨ o = 39) : ¬ o = 0 ∧ ¬ (17 ≤ o ∧ o ≤ 22) ∧ ¬ o = 23 ∧ ¬ (o = 27 ∨ o = 29) ∧ ¬ o = 32 ∧ ¬ o = 33 ∧ ¬ o = 38 ∧ ¬ o = 40 ∧ ¬ (41 ≤ o ∧ o ≤ 43) ∧ ¬ o = 44 ∧ ¬ o = 45 ∧ o < 46 := by
  unfold MKL at h
  simp only [List.mem_cons, List.not_mem_nil, or_false] at h
  omega
theorem insG_mk {o : Nat} {c : Nat → Int64} {d : DS} (h : o ∈ MKL ∨ o = 39) : insG o c d = ((lrun (mkS o (dk d (2 * rgN o c 0)) (dk d (2 * rgN o c 1)) (dn d (2 * rgN o c 0)) (di d (2 * rgN o c 1)) (di d (2 * rgN o c 2)) (dsc d (scN o c)) (dn d (2 * arN c + 1)) (di d (2 * arN c + 1))) (onW (onS (nI (dn d (2 * rgN o c 0))) c (dm d))) (dn d (2 * rgN o c 0)) 0 none (di d (2 * rgN o c 0))).1, if (lrun (mkS o (dk d (2 * rgN o c 0)) (dk d (2 * rgN o c 1)) (dn d (2 * rgN o c 0)) (di d (2 * rgN o c 1)) (di d (2 * rgN o c 2)) (dsc d (scN o c)) (dn d (2 * arN c + 1)) (di d (2 * arN c + 1))) (onW (onS (nI (dn d (2 * rgN o c 0))) c (dm d))) (dn d (2 * rgN o c 0)) 0 none (di d (2 * rgN o c 0))).1 = 0 then -1 else nI (lrun (mkS o (dk d (2 * rgN o c 0)) (dk d (2 * rgN o c 1)) (dn d (2 * rgN o c 0)) (di d (2 * rgN o c 1)) (di d (2 * rgN o c 2)) (dsc d (scN o c)) (dn d (2 * arN c + 1)) (di d (2 * arN c + 1))) (onW (onS (nI (dn d (2 * rgN o c 0))) c (dm d))) (dn d (2 * rgN o c 0)) 0 none (di d (2 * rgN o c 0))).2.1, cntW (onS (nI (dn d (2 * rgN o c 0))) c (dm d)), setIt d (2 * rgN o c 0) (lrun (mkS o (dk d (2 * rgN o c 0)) (dk d (2 * rgN o c 1)) (dn d (2 * rgN o c 0)) (di d (2 * rgN o c 1)) (di d (2 * rgN o c 2)) (dsc d (scN o c)) (dn d (2 * arN c + 1)) (di d (2 * arN c + 1))) (onW (onS (nI (dn d (2 * rgN o c 0))) c (dm d))) (dn d (2 * rgN o c 0)) 0 none (di d (2 * rgN o c 0))).2.2) := by
  obtain ⟨h1, h2, h3, h4, h5, h6, h7, h8, h9, h10, h11, -⟩ := mk_not h
  unfold insG
  dsimp only
  rw [if_neg h1, if_neg h2, if_neg h3, if_neg h4, if_neg h5, if_neg h6, if_neg h7, if_neg h8, if_neg h9, if_neg h10, if_neg h11]
/-- letters that share a kind -/
def shL (x : Nat) : Prop := x = 107 ∨ x = 119 ∨ x = 114
theorem mfR_ok {o : Nat} {kd : Nat → Int32} {eqL : Nat → Bool} : ∀ j k sh un, mfR o kd eqL j k sh (cntR o k) un = 0 → un = false ∧ ∀ q, k ≤ q → q < k + j → (97 ≤ letN o q ∧ letN o q ≤ 122) → ¬ kd (cntR o q) = -1 ∧ ¬ ((f_X4_kinds (nI (letN o q))) >>> (kd (cntR o q) &&& 31)) &&& (1 : Int32) = 0 ∧ eqL (cntR o q) = true
    ∧ (shL (letN o q) → (sh = -1 ∨ sh = kd (cntR o q)) ∧ ∀ q2, q ≤ q2 → q2 < k + j → (97 ≤ letN o q2 ∧ letN o q2 ≤ 122) → shL (letN o q2) → kd (cntR o q2) = kd (cntR o q)) := by
  intro j
  induction j with
  | zero =>
    intro k sh un h
    refine ⟨?_, fun q a b => absurd b (by omega)⟩
    cases un with
    | false => rfl
    | true => exact absurd (show (2 : Int32) = 0 from h) (by decide)
  | succ j ih =>
    intro k sh un h
    by_cases g : 97 ≤ letN o k ∧ letN o k ≤ 122
    · have e1 : cntR o (k + 1) = cntR o k + 1 := by show cntR o k + (if 97 ≤ letN o k ∧ letN o k ≤ 122 then 1 else 0) = _; rw [if_pos g]
      have er : mfR o kd eqL (j + 1) k sh (cntR o k) un = (if kd (cntR o k) = -1 then 1
            else if ((f_X4_kinds (nI (letN o k))) >>> (kd (cntR o k) &&& 31)) &&& (1 : Int32) = 0 then 1
            else if letN o k = 107 ∨ letN o k = 119 ∨ letN o k = 114 then (if sh = -1 ∨ sh = kd (cntR o k) then mfR o kd eqL j (k + 1) (kd (cntR o k)) (cntR o k + 1) (un || !eqL (cntR o k)) else 1)
            else mfR o kd eqL j (k + 1) sh (cntR o k + 1) (un || !eqL (cntR o k))) := if_pos g
      rw [er] at h
      by_cases a1 : kd (cntR o k) = -1
      · rw [if_pos a1] at h; exact absurd h (by decide)
      · rw [if_neg a1] at h
        by_cases a2 : ((f_X4_kinds (nI (letN o k))) >>> (kd (cntR o k) &&& 31)) &&& (1 : Int32) = 0
        · rw [if_pos a2] at h; exact absurd h (by decide)
        · rw [if_neg a2] at h
          by_cases a3 : letN o k = 107 ∨ letN o k = 119 ∨ letN o k = 114
          · rw [if_pos a3] at h
            by_cases a4 : sh = -1 ∨ sh = kd (cntR o k)
            · rw [if_pos a4, ← e1] at h
              obtain ⟨u, r⟩ := ih (k + 1) _ _ h
              have hu : un = false ∧ eqL (cntR o k) = true := by cases un <;> cases hh : eqL (cntR o k) <;> simp_all
              refine ⟨hu.1, fun q x y z => ?_⟩
              by_cases w : q = k
              · subst w
                refine ⟨a1, a2, hu.2, fun _ => ⟨a4, fun q2 x2 y2 z2 s2 => ?_⟩⟩
                by_cases w2 : q2 = q
                · rw [w2]
                · rcases ((r q2 (by omega) (by omega) z2).2.2.2 s2).1 with t | t
                  · exact absurd t a1
                  · exact t.symm
              · obtain ⟨b1, b2, b3, b4⟩ := r q (by omega) (by omega) z
                refine ⟨b1, b2, b3, fun s => ⟨?_, fun q2 x2 y2 z2 s2 => (b4 s).2 q2 x2 (by omega) z2 s2⟩⟩
                rcases (b4 s).1 with t | t
                · exact absurd t a1
                · rw [← t]; exact a4
            · rw [if_neg a4] at h; exact absurd h (by decide)
          · rw [if_neg a3, ← e1] at h
            obtain ⟨u, r⟩ := ih (k + 1) _ _ h
            have hu : un = false ∧ eqL (cntR o k) = true := by cases un <;> cases hh : eqL (cntR o k) <;> simp_all
            refine ⟨hu.1, fun q x y z => ?_⟩
            by_cases w : q = k
            · subst w
              exact ⟨a1, a2, hu.2, fun s => absurd s a3⟩
            · obtain ⟨b1, b2, b3, b4⟩ := r q (by omega) (by omega) z
              exact ⟨b1, b2, b3, fun s => ⟨(b4 s).1, fun q2 x2 y2 z2 s2 => (b4 s).2 q2 x2 (by omega) z2 s2⟩⟩
    · have e1 : cntR o (k + 1) = cntR o k := by show cntR o k + (if 97 ≤ letN o k ∧ letN o k ≤ 122 then 1 else 0) = _; rw [if_neg g]; rfl
      have er : mfR o kd eqL (j + 1) k sh (cntR o k) un = mfR o kd eqL j (k + 1) sh (cntR o k) un := if_neg g
      rw [er, ← e1] at h
      obtain ⟨u, r⟩ := ih (k + 1) _ _ h
      refine ⟨u, fun q x y z => ?_⟩
      have w : q ≠ k := fun w => g (w ▸ z)
      obtain ⟨b1, b2, b3, b4⟩ := r q (by omega) (by omega) z
      exact ⟨b1, b2, b3, fun s => ⟨(b4 s).1, fun q2 x2 y2 z2 s2 => (b4 s).2 q2 x2 (by omega) z2 s2⟩⟩
/-- only the registers that are there count -/
theorem cntR_le {o : Nat} {k k' : Nat} (h : k ≤ k') : cntR o k ≤ cntR o k' := by
  induction h with
  | refl => exact Nat.le_refl _
  | step _ ih => exact Nat.le_trans ih (Nat.le_add_right _ _)
theorem mfR_cg {o : Nat} {kd kd' : Nat → Int32} {eqL eqL' : Nat → Bool} (h : ∀ j, j < cntR o 4 → kd j = kd' j ∧ eqL j = eqL' j) : ∀ j k sh un, k + j ≤ 4 → mfR o kd eqL j k sh (cntR o k) un = mfR o kd' eqL' j k sh (cntR o k) un := by
  intro j
  induction j with
  | zero => intro k sh un _; rfl
  | succ j ih =>
    intro k sh un hk
    by_cases g : 97 ≤ letN o k ∧ letN o k ≤ 122
    · have e1 : cntR o (k + 1) = cntR o k + 1 := by show cntR o k + (if 97 ≤ letN o k ∧ letN o k ≤ 122 then 1 else 0) = _; rw [if_pos g]
      have hl : cntR o k < cntR o 4 := by have := cntR_le (o := o) (show k + 1 ≤ 4 by omega); omega
      obtain ⟨h1, h2⟩ := h _ hl
      have er : ∀ (kd : Nat → Int32) (eqL : Nat → Bool), mfR o kd eqL (j + 1) k sh (cntR o k) un = (if kd (cntR o k) = -1 then 1
            else if ((f_X4_kinds (nI (letN o k))) >>> (kd (cntR o k) &&& 31)) &&& (1 : Int32) = 0 then 1
            else if letN o k = 107 ∨ letN o k = 119 ∨ letN o k = 114 then (if sh = -1 ∨ sh = kd (cntR o k) then mfR o kd eqL j (k + 1) (kd (cntR o k)) (cntR o k + 1) (un || !eqL (cntR o k)) else 1)
            else mfR o kd eqL j (k + 1) sh (cntR o k + 1) (un || !eqL (cntR o k))) := fun _ _ => if_pos g
      rw [er, er, h1, h2, ← e1, ih _ _ _ (by omega), ih _ _ _ (by omega)]
    · have e1 : cntR o (k + 1) = cntR o k := by show cntR o k + (if 97 ≤ letN o k ∧ letN o k ≤ 122 then 1 else 0) = _; rw [if_neg g]; rfl
      have er : ∀ (kd : Nat → Int32) (eqL : Nat → Bool), mfR o kd eqL (j + 1) k sh (cntR o k) un = mfR o kd eqL j (k + 1) sh (cntR o k) un := fun _ _ => if_neg g
      rw [er, er, ← e1]
      exact ih _ _ _ (by omega)
theorem mfS_cg {o : Nat} (ho : o < 46) {kd kd' : Nat → Int32} {eqL eqL' : Nat → Bool} {ek ek' : Int32} (h : ∀ j, j < cntR o 4 → kd j = kd' j ∧ eqL j = eqL' j) (he : usA o = true → ek = ek') : mfS o kd eqL ek = mfS o kd' eqL' ek' := by
  obtain ⟨-, h2, -⟩ := pos_all o (List.mem_range.mpr ho)
  have h4 := opLen4 (o := o) (by omega)
  have e := mfR_cg h (opL o).length 0 (-1) false (by omega)
  have e : mfR o kd eqL (opL o).length 0 (-1) 0 false = mfR o kd' eqL' (opL o).length 0 (-1) 0 false := e
  have ea : mfA o (kd 0) ek = mfA o (kd' 0) ek' := by
    unfold mfA
    by_cases g : 26 ≤ o ∧ o ≤ 29
    · rw [if_pos g, if_pos g, (h 0 (by omega)).1, he (by unfold usA; simp [g])]
    · rw [if_neg g, if_neg g]
  unfold mfS
  rw [e, ea]
theorem mfS_ok {o : Nat} {kd : Nat → Int32} {eqL : Nat → Bool} {ek : Int32} (h0 : o ≠ 0) (h : mfS o kd eqL ek = 0) : (∀ q, q < (opL o).length → (97 ≤ letN o q ∧ letN o q ≤ 122) → ¬ kd (cntR o q) = -1 ∧ ¬ ((f_X4_kinds (nI (letN o q))) >>> (kd (cntR o q) &&& 31)) &&& (1 : Int32) = 0 ∧ eqL (cntR o q) = true
    ∧ (shL (letN o q) → ∀ q2, q ≤ q2 → q2 < (opL o).length → (97 ≤ letN o q2 ∧ letN o q2 ≤ 122) → shL (letN o q2) → kd (cntR o q2) = kd (cntR o q))) ∧ (usA o = true → ¬ ek = -1 ∧ ek = kd 0) := by
  unfold mfS at h
  rw [if_neg h0] at h
  by_cases z : mfR o kd eqL (opL o).length 0 (-1) 0 false = 0
  · rw [if_pos z] at h
    obtain ⟨-, r⟩ := mfR_ok (opL o).length 0 (-1) false z
    refine ⟨fun q hq hr => ?_, fun u => ?_⟩
    · obtain ⟨b1, b2, b3, b4⟩ := r q (by omega) (by omega) hr
      exact ⟨b1, b2, b3, fun s q2 x2 y2 z2 s2 => (b4 s).2 q2 x2 (by omega) z2 s2⟩
    · unfold usA at u
      unfold mfA at h
      rw [if_pos (by simpa using u)] at h
      by_cases a : ek = -1
      · rw [if_pos a] at h; exact absurd h (by decide)
      · rw [if_neg a] at h
        by_cases b : ek = kd 0
        · exact ⟨a, b⟩
        · rw [if_neg b] at h; exact absurd h (by decide)
  · rw [if_neg z] at h
    exact absurd h z
/-- which further registers have the first one's kind -/
def alB (o j : Nat) : Bool := (j == 0) || (j == 1 && ((1 ≤ o && o ≤ 23) || (32 ≤ o && o ≤ 40))) || (j == 2 && ((1 ≤ o && o ≤ 10) || o == 23 || o == 37))
theorem al_all : ∀ o ∈ List.range 46, o ≠ 0 → ∀ j ∈ List.range 3, j < cntR o 4 → alB o j = true → j ≠ 0 → (letN o (posR o 0) = 107 ∨ letN o (posR o 0) = 119 ∨ letN o (posR o 0) = 114) ∧ (letN o (posR o j) = 107 ∨ letN o (posR o j) = 119 ∨ letN o (posR o j) = 114) ∧ posR o 0 ≤ posR o j := by decide +kernel
theorem wh_all : ∀ o ∈ List.range 46, ((8 ≤ o ∧ o ≤ 13) ∨ (41 ≤ o ∧ o ≤ 43) → letN o (posR o 0) = 119) ∧ (o = 16 → letN o (posR o 0) = 114) ∧ (o = 25 → letN o (posR o 0) = 104) ∧ (o = 34 → letN o (posR o 2) = 105) ∧ (o = 26 ∨ o = 27 → letN o (posR o 1) = 105) ∧ (cntR o 4 ≤ 1 ↔ (o = 0 ∨ (28 ≤ o ∧ o ≤ 31) ∨ (41 ≤ o ∧ o ≤ 45))) ∧ (cntR o 4 = 3 ↔ ((1 ≤ o ∧ o ≤ 10) ∨ o = 23 ∨ o = 34 ∨ o = 37)) := by decide +kernel
theorem kb_w {k : Int32} (h : isK k) (b : ¬ ((f_X4_kinds (nI 119)) >>> (k &&& 31)) &&& (1 : Int32) = 0) : ¬ isRk k := by
  rcases h with rfl | rfl | rfl | rfl | rfl | rfl | rfl
  · unfold isRk; decide
  · unfold isRk; decide
  · unfold isRk; decide
  · unfold isRk; decide
  · unfold isRk; decide
  · exact absurd (by decide +kernel) b
  · exact absurd (by decide +kernel) b
theorem kb_h {k : Int32} (h : isK k) (b : ¬ ((f_X4_kinds (nI 104)) >>> (k &&& 31)) &&& (1 : Int32) = 0) : ¬ isRk k := by
  rcases h with rfl | rfl | rfl | rfl | rfl | rfl | rfl
  · unfold isRk; decide
  · unfold isRk; decide
  · unfold isRk; decide
  · unfold isRk; decide
  · unfold isRk; decide
  · exact absurd (by decide +kernel) b
  · exact absurd (by decide +kernel) b
theorem kb_r {k : Int32} (h : isK k) (b : ¬ ((f_X4_kinds (nI 114)) >>> (k &&& 31)) &&& (1 : Int32) = 0) : isRk k := by
  rcases h with rfl | rfl | rfl | rfl | rfl | rfl | rfl
  · exact absurd (by decide +kernel) b
  · exact absurd (by decide +kernel) b
  · exact absurd (by decide +kernel) b
  · exact absurd (by decide +kernel) b
  · exact absurd (by decide +kernel) b
  · unfold isRk; decide
  · unfold isRk; decide
theorem kb_i {k : Int32} (h : isK k) (b : ¬ ((f_X4_kinds (nI 105)) >>> (k &&& 31)) &&& (1 : Int32) = 0) : k = 3 := by
  rcases h with rfl | rfl | rfl | rfl | rfl | rfl | rfl
  · exact absurd (by decide +kernel) b
  · exact absurd (by decide +kernel) b
  · exact absurd (by decide +kernel) b
  · rfl
  · exact absurd (by decide +kernel) b
  · exact absurd (by decide +kernel) b
  · exact absurd (by decide +kernel) b
end INS
