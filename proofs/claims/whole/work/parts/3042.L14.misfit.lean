section MISFIT
noncomputable def mfR (o : Nat) (kd : Nat → Int32) (eqL : Nat → Bool) : Nat → Nat → Int32 → Nat → Bool → Int32
  | 0, _, _, _, un => if un = true then 2 else 0
  | j + 1, k, sh, seen, un =>
    if 97 ≤ letN o k ∧ letN o k ≤ 122 then
      (if kd seen = -1 then 1
      else if ((f_X4_kinds (nI (letN o k))) >>> (kd seen &&& 31)) &&& (1 : Int32) = 0 then 1
      else if letN o k = 107 ∨ letN o k = 119 ∨ letN o k = 114 then (if sh = -1 ∨ sh = kd seen then mfR o kd eqL j (k + 1) (kd seen) (seen + 1) (un || !eqL seen) else 1)
      else mfR o kd eqL j (k + 1) sh (seen + 1) (un || !eqL seen))
    else mfR o kd eqL j (k + 1) sh seen un
noncomputable def mfA (o : Nat) (k0 ek : Int32) : Int32 := if 26 ≤ o ∧ o ≤ 29 then (if ek = -1 then 3 else if ek = k0 then 0 else 1) else 0
noncomputable def mfS (o : Nat) (kd : Nat → Int32) (eqL : Nat → Bool) (ek : Int32) : Int32 :=
  if o = 0 then 0 else if mfR o kd eqL (opL o).length 0 (-1) 0 false = 0 then mfA o (kd 0) ek else mfR o kd eqL (opL o).length 0 (-1) 0 false
theorem A_all : ∀ o ∈ List.range 46, (0 ≤ ixJ (opL o) 65) = (26 ≤ o ∧ o ≤ 29) := by
  have h : ∀ o ∈ List.range 46, (0 ≤ ixJ (opL o) 65) ↔ (26 ≤ o ∧ o ≤ 29) := by decide +kernel
  intro o ho
  exact propext (h o ho)
theorem shared_n {c : Nat} (h : c < 128) : P_X4_isShared (nI c) ↔ c = 107 ∨ c = 119 ∨ c = 114 := by
  unfold P_X4_isShared
  rw [show (107 : Int32) = nI 107 from rfl, show (119 : Int32) = nI 119 from rfl, show (114 : Int32) = nI 114 from rfl, nI_eq (by omega) (by decide), nI_eq (by omega) (by decide), nI_eq (by omega) (by decide)]
def blI (b : Bool) : Int32 := if b = true then 1 else 0
theorem c_misfit {o : Nat} {kd : Nat → Int32} {eqL : Nat → Bool} {ek : Int32} {M : Mem} {K : RT} (hW : Wf M) (ho : o < 46) (hl : LnOK M) (hk : ∀ j, j < 3 → gI M (rR M 443 j) 0 = kd j) (he : ∀ j, j < 3 → (gI M (rR M 443 j) 1 = gI M (rR M 443 0) 1 ↔ eqL j = true)) (hek : gI M (rR M 404 5) 0 = ek) (h : K (some (.int (mfS o kd eqL ek))) M) : sp_X2_misfit [.ref 404, .ref (100000 + o)] M K := by
  have ho68 : o < 68 := by omega
  have hx := isOp_n ho68
  have hlen := opLen4 ho68
  refine wX2_misfit hW hx (fun {G} hc => ?_)
  have fin : ∀ un, (o = 0 → un = false) → (un = true → K (some (.int 2)) M) → (un = false → K (some (.int (mfA o (kd 0) ek))) M) → ∀ {o2 o3 o5 o6 o7 : Option Value}, G 155 [some (.ref 404), some (.ref (100000 + o)), o2, o3, some (.int (blI un)), o5, o6, o7] [] M := by
    intro un h0 h2 h3 o2 o3 o5 o6 o7
    have hu : blI un = 0 ↔ un = false := by cases un <;> decide
    refine eX2_misfit_155 hc hW hx ?_
    rw [hu, op_c]
    have tx := oTx hx
    rw [op_c] at tx
    refine ⟨fun q => c_indexOf (c := 65) hW tx (by decide) (rX2_misfit_162_3 hc hW ?_), fun q => h2 (by cases un <;> simp_all)⟩
    have hA : (0 ≤ ixJ (tI (100200 + oIx.getD o 0)) 65) = (26 ≤ o ∧ o ≤ 29) := A_all o (List.mem_range.mpr ho)
    rw [hA, hek, hk 0 (by decide)]
    have h3 := h3 q
    unfold mfA at h3
    refine ⟨fun a => ⟨fun b => ⟨fun d => ?_, fun d => ?_⟩, fun b => ?_⟩, fun a => ?_⟩
    · rw [if_pos a, if_neg b, if_neg d] at h3; exact h3
    · rw [if_pos a, if_neg b, if_pos d] at h3; exact h3
    · rw [if_pos a, if_pos b] at h3; exact h3
    · rw [if_neg a] at h3; exact h3
  have loop : ∀ j k sh un, k + j = (opL o).length → (k = 0 → un = false) → (o ≠ 0 → K (some (.int (if mfR o kd eqL j k sh (cntR o k) un = 0 then mfA o (kd 0) ek else mfR o kd eqL j k sh (cntR o k) un))) M) → (o = 0 → k = 0 ∧ K (some (.int 0)) M) → ∀ {o6 o7 : Option Value}, G 10 [some (.ref 404), some (.ref (100000 + o)), some (.int sh), some (.int (nI (cntR o k))), some (.int (blI un)), some (.int (nI k)), o6, o7] [] M := by
    intro j
    induction j with
    | zero =>
      intro k sh un hkj hun hR h00 o6 o7
      have hk0 : k = (opL o).length := by omega
      have h2 := (op_all o (List.mem_range.mpr ho68)).2.2.2.2 ho
      refine eX2_misfit_10 hc hW hx ?_
      rw [opLen_f ho68, ← hk0]
      refine ⟨fun _ => fin un (fun z => absurd (h00 z).1 (by omega)) (fun z => ?_) (fun z => ?_), fun q => absurd (nI_le (Nat.le_refl _) (by omega)) q⟩
      · subst z
        exact hR (fun z => absurd (h00 z).1 (by omega))
      · subst z
        exact hR (fun z => absurd (h00 z).1 (by omega))
    | succ j ih =>
      intro k sh un hkj hun hR h00 o6 o7
      have hk4 : k < 4 := by omega
      have hlt := letN_lt (k := k) ho68
      refine eX2_misfit_10 hc hW hx ?_
      rw [opLen_f ho68]
      refine ⟨fun q => absurd ((nI_leI (by omega) (by omega)).mp q) (by omega), fun _ => ⟨fun q => ?_, fun q => ?_⟩⟩
      · have z : o = 0 := by omega
        have hu := hun (h00 z).1
        subst hu
        refine fin false (fun _ => rfl) (fun w => absurd w (by decide)) (fun _ => ?_)
        have := (h00 z).2
        unfold mfA
        rw [if_neg (by omega)]
        exact this
      · have z : o ≠ 0 := by omega
        have hR := hR z
        have h00' : ∀ k', o = 0 → k' = 0 ∧ K (some (.int 0)) M := fun _ w => absurd w z
        refine c_letter hW ho68 (by omega) (rX2_misfit_29_2 hc hW hx ?_)
        rw [isReg_n hlt, nI_1]
        refine ⟨fun q => ?_, fun q => ?_⟩
        · have e1 : cntR o (k + 1) = cntR o k := by show cntR o k + (if 97 ≤ letN o k ∧ letN o k ≤ 122 then 1 else 0) = _; rw [if_neg q]; rfl
          have er : mfR o kd eqL (j + 1) k sh (cntR o k) un = mfR o kd eqL j (k + 1) sh (cntR o (k + 1)) un := by rw [e1]; exact if_neg q
          rw [er] at hR
          have t := ih (k + 1) sh un (by omega) (fun w => absurd w (by omega)) (fun _ => hR) (h00' _) (o6 := some (.int (nI (letN o k)))) (o7 := o7)
          rw [e1] at t
          exact t
        · have e1 : cntR o (k + 1) = cntR o k + 1 := by show cntR o k + (if 97 ≤ letN o k ∧ letN o k ≤ 122 then 1 else 0) = _; rw [if_pos q]
          have h3 := (cnt_all o (List.mem_range.mpr ho) k (List.mem_range.mpr hk4)).1 q
          have er : mfR o kd eqL (j + 1) k sh (cntR o k) un = (if kd (cntR o k) = -1 then 1
            else if ((f_X4_kinds (nI (letN o k))) >>> (kd (cntR o k) &&& 31)) &&& (1 : Int32) = 0 then 1
            else if letN o k = 107 ∨ letN o k = 119 ∨ letN o k = 114 then (if sh = -1 ∨ sh = kd (cntR o k) then mfR o kd eqL j (k + 1) (kd (cntR o k)) (cntR o k + 1) (un || !eqL (cntR o k)) else 1)
            else mfR o kd eqL j (k + 1) sh (cntR o k + 1) (un || !eqL (cntR o k))) := if_pos q
          rw [er] at hR
          have step : ∀ sh', K (some (.int (if mfR o kd eqL j (k + 1) sh' (cntR o k + 1) (un || !eqL (cntR o k)) = 0 then mfA o (kd 0) ek else mfR o kd eqL j (k + 1) sh' (cntR o k + 1) (un || !eqL (cntR o k))))) M → G 122 [some (.ref 404), some (.ref (100000 + o)), some (.int sh'), some (.int (nI (cntR o k + 1))), some (.int (blI un)), some (.int (nI k)), some (.int (nI (letN o k))), some (.ref (rR M 443 (cntR o k)))] [] M := by
            intro sh' hh
            obtain ⟨p, p1, p2⟩ := hl.1 (cntR o k) h3
            have t := ih (k + 1) sh' (un || !eqL (cntR o k)) (by omega) (fun w => absurd w (by omega)) (fun _ => by rw [e1]; exact hh) (h00' _) (o6 := some (.int (nI (letN o k)))) (o7 := some (.ref (rR M 443 (cntR o k))))
            rw [e1] at t
            refine eX2_misfit_122 hc hW hx (Wf.mutS (M := M) hW (mx_rows h3)) ?_
            rw [he _ h3, nI_1]
            refine ⟨fun a => ?_, fun a => ?_⟩
            · rw [a] at t
              have e : blI un ||| (0 : Int32) = blI (un || !true) := by cases un <;> decide
              rw [e]; exact t
            · have a : eqL (cntR o k) = false := by cases hq : eqL (cntR o k) <;> simp_all
              rw [a] at t
              have e : blI un ||| (1 : Int32) = blI (un || !false) := by cases un <;> decide
              rw [e]; exact t
          rw [show (3 : Int32) = nI 3 from rfl, nI_leI (by omega) (by omega), nI_clamp (by omega), hk _ h3, shared_n hlt, nI_1]
          refine ⟨fun w => absurd w (by omega), fun _ => ⟨vpN h3 (by decide), fun a => ?_, fun a => ⟨fun b => ⟨fun d => ?_, fun d => ⟨fun e => ?_, fun e => ⟨fun f => ?_, fun f => ?_⟩⟩⟩, fun b => ?_⟩⟩⟩
          · rw [if_pos a] at hR; exact hR
          · rw [if_neg a, if_neg b, if_neg d] at hR; exact step sh hR
          · rw [if_neg a, if_neg b, if_pos d, if_pos (Or.inl e)] at hR; exact step _ hR
          · rw [if_neg a, if_neg b, if_pos d, if_pos (Or.inr f)] at hR; exact step _ hR
          · rw [if_neg a, if_neg b, if_pos d, if_neg (show ¬ (sh = -1 ∨ sh = kd (cntR o k)) from fun w => w.elim e f)] at hR; exact hR
          · rw [if_neg a, if_pos b] at hR; exact hR
  refine loop (opL o).length 0 (-1) false (by omega) (fun _ => rfl) (fun z => ?_) (fun z => ⟨rfl, ?_⟩)
  · unfold mfS at h; rw [if_neg z] at h; exact h
  · unfold mfS at h; rw [if_pos z] at h; exact h
end MISFIT
