section MINIT
section
variable {M M' M0 : Mem} {K : RT}
/-- the reference is being made: k objects, references to field J, W words, O operands -/
def MI (M0 M : Mem) (k J W O : Nat) : Prop := M.1 = (k, true) ∧ Fb 605 M0 M ∧ gI M 605 = z0 ∧ (gL M 605 = fun _ => 0) ∧ (∀ j, gR M 605 j = if j < J then fx 605 j else none) ∧ (∀ b, 605 < b → b < k → gI M b = z0 ∧ (gD M b = fun _ => 0) ∧ gR M b = rn ∧ (b ≠ 606 → b ≠ 607 → gL M b = fun _ => 0)) ∧ (606 < k → ∀ j, gL M 606 j = if j < W then lN (wdR.getD j 0) else 0) ∧ (607 < k → ∀ j, gL M 607 j = if j < O then lN (opR.getD j 0) else 0)
section
variable {L : LocS} {st : List Value} {KK : KT} {k J W O n n1 ci j x : Nat}
theorem sm_new {y : Int32} (h : MI M0 M k J W O) (e : Sh k = (ci, n)) (hx : y.toNatClampNeg = n) (hx0 : ¬ y < 0) (hn : k + 1 ≤ n1) (hk : 605 < k) (h6 : k ≤ 606 → W = 0) (h7 : k ≤ 607 → O = 0) (hk' : ∀ M', MI M0 M' (k + 1) J W O → KK L (.ref k :: st) M') : w_newa ci n1 KK L (.int y :: st) M := by
  obtain ⟨hN, h1, h2, h3, h4, h5, h8, h9⟩ := h
  refine i_newa hN e hx hx0 hn (hk' _ ⟨nw_N hN, h1.tr (Fb.nw hN (by omega)), ?_, ?_, fun j => ?_, fun b b1 b2 => ?_, fun z j => ?_, fun z j => ?_⟩)
  · rw [(nw_b hN (by omega)).1]; exact h2
  · rw [(nw_b hN (by omega)).2.1]; exact h3
  · rw [(nw_b hN (by omega)).2.2.2]; exact h4 j
  · by_cases w : b = k
    · subst w
      have := nw_0 hN
      exact ⟨this.1, this.2.2.1, this.2.2.2, fun _ _ => this.2.1⟩
    · obtain ⟨q1, q2, q3, q4⟩ := nw_b (b := b) hN w
      rw [q1, q2, q3, q4]; exact h5 b b1 (by omega)
  · by_cases w : 606 = k
    · subst w
      rw [(nw_0 hN).2.1, h6 (Nat.le_refl _), if_neg (Nat.not_lt_zero j)]
    · rw [(nw_b hN w).2.1]; exact h8 (by omega) j
  · by_cases w : 607 = k
    · subst w
      rw [(nw_0 hN).2.1, h7 (Nat.le_refl _), if_neg (Nat.not_lt_zero j)]
    · rw [(nw_b hN w).2.1]; exact h9 (by omega) j
theorem sm_put (h : MI M0 M k J W O) (hk : 605 < k) (hJ : J ≤ j) (hx : fx 605 j = some x) (hn : ∀ i ∈ List.range j, J ≤ i → fx 605 i = none) (hk' : ∀ M', MI M0 M' k (j + 1) W O → KK L st M') : w_putR 10 j KK L (.ref x :: .ref 605 :: st) M := by
  obtain ⟨hN, h1, h2, h3, h4, h5, h8, h9⟩ := h
  refine i_putR (okI hN (by have := S443; omega) hk) (hk' _ ⟨hN, h1.tr (Fb.pR (Nat.le_refl _)), h2, h3, fun i => ?_, fun b b1 b2 => ?_, h8, h9⟩)
  · rw [gR_uR]
    by_cases w : i = j
    · subst w; rw [if_pos ⟨rfl, rfl⟩, if_pos (by omega), hx]
    · rw [if_neg (fun z => w z.2), h4]
      by_cases y : i < J
      · rw [if_pos y, if_pos (by omega)]
      · rw [if_neg y]
        by_cases v : i < j + 1
        · rw [if_pos v, hn i (List.mem_range.mpr (by omega)) (by omega)]
        · rw [if_neg v]
  · obtain ⟨q1, q2, q3, q4⟩ := h5 b b1 b2
    refine ⟨q1, q2, ?_, q4⟩
    rw [← q3]
    exact funext fun i => by rw [gR_uR, if_neg (by omega)]
theorem sm_w6 {v : Int64} {i : Int32} (h : MI M0 M k J W O) (hk : 606 < k) (hi : i = nI W ∧ W < 68) (hv : v = lN (wdR.getD W 0)) (hk' : ∀ M', MI M0 M' k J (W + 1) O → KK L st M') : w_last KK L (.long v :: .int i :: .ref 606 :: st) M := by
  obtain ⟨hN, h1, h2, h3, h4, h5, h8, h9⟩ := h
  obtain ⟨rfl, hW⟩ := hi
  have e : Sh 606 = (14, 68) := by decide +kernel
  refine i_lastO (okI hN (by rw [e]) hk) e (vpN hW (by decide)) ?_
  rw [nI_clamp (by omega)]
  have g : ∀ b j, ¬ (b = 606 ∧ j = W) → gL (uL M 606 W v) b j = gL M b j := fun b j z => by rw [gL_uL, if_neg z]
  refine hk' _ ⟨hN, h1.tr (fun b hb => ⟨rfl, funext fun j => g b j (by omega), rfl, rfl⟩), h2, ?_, h4, fun b b1 b2 => ?_, fun z j => ?_, fun z j => ?_⟩
  · rw [← h3]; exact funext fun j => g _ _ (by omega)
  · obtain ⟨q1, q2, q3, q4⟩ := h5 b b1 b2
    exact ⟨q1, q2, q3, fun n6 n7 => by rw [← q4 n6 n7]; exact funext fun j => g _ _ (by omega)⟩
  · by_cases w : j = W
    · subst w; rw [gL_uL, if_pos ⟨rfl, rfl⟩, if_pos (by omega), hv]
    · rw [g _ _ (fun z => w z.2), h8 hk j]
      by_cases y : j < W
      · rw [if_pos y, if_pos (by omega)]
      · rw [if_neg y, if_neg (by omega)]
  · rw [g _ _ (by omega)]; exact h9 z j
theorem sm_w7 {v : Int64} {i : Int32} (h : MI M0 M k J W O) (hk : 607 < k) (hi : i = nI O ∧ O < 68) (hv : v = lN (opR.getD O 0)) (hk' : ∀ M', MI M0 M' k J W (O + 1) → KK L st M') : w_last KK L (.long v :: .int i :: .ref 607 :: st) M := by
  obtain ⟨hN, h1, h2, h3, h4, h5, h8, h9⟩ := h
  obtain ⟨rfl, hO⟩ := hi
  have e : Sh 607 = (14, 68) := by decide +kernel
  refine i_lastO (okI hN (by rw [e]) hk) e (vpN hO (by decide)) ?_
  rw [nI_clamp (by omega)]
  have g : ∀ b j, ¬ (b = 607 ∧ j = O) → gL (uL M 607 O v) b j = gL M b j := fun b j z => by rw [gL_uL, if_neg z]
  refine hk' _ ⟨hN, h1.tr (fun b hb => ⟨rfl, funext fun j => g b j (by omega), rfl, rfl⟩), h2, ?_, h4, fun b b1 b2 => ?_, fun z j => ?_, fun z j => ?_⟩
  · rw [← h3]; exact funext fun j => g _ _ (by omega)
  · obtain ⟨q1, q2, q3, q4⟩ := h5 b b1 b2
    exact ⟨q1, q2, q3, fun n6 n7 => by rw [← q4 n6 n7]; exact funext fun j => g _ _ (by omega)⟩
  · rw [g _ _ (by omega)]; exact h8 z j
  · by_cases w : j = O
    · subst w; rw [gL_uL, if_pos ⟨rfl, rfl⟩, if_pos (by omega), hv]
    · rw [g _ _ (fun z => w z.2), h9 hk j]
      by_cases y : j < O
      · rw [if_pos y, if_pos (by omega)]
      · rw [if_neg y, if_neg (by omega)]
end
set_option maxRecDepth 100000 in
theorem mi_0 {G : Nat → KT} {K : RT} (hc : cloX13_init G K (605 + 1 + 44, true)) {M0 M : Mem} (h : MI M0 M 606 0 0 0) (hk : ∀ M', MI M0 M' 607 0 8 0 → G 65 [some (.ref 605), none] [.long 6385252, .int 8, .ref 606, .ref 606, .ref 605] M') : G 0 [some (.ref 605), none] [] M :=
  hc.1 _ _ _ (i_aload rfl (i_obj (Nat.le_of_ble_eq_true rfl) (i_aload rfl (i_ic (sm_new h (show Sh 606 = (14, 68) by decide +kernel) (by decide) (by decide) (by decide) (by decide) (by decide) (by decide) (fun M1 h1 => (i_dup rfl (i_ic (i_lc (sm_w6 h1 (by decide) (by decide) (by decide +kernel) (fun M2 h2 => (i_dup rfl (i_ic (i_lc (sm_w6 h2 (by decide) (by decide) (by decide +kernel) (fun M3 h3 => (i_dup rfl (i_ic (i_lc (sm_w6 h3 (by decide) (by decide) (by decide +kernel) (fun M4 h4 => (i_dup rfl (i_ic (i_lc (sm_w6 h4 (by decide) (by decide) (by decide +kernel) (fun M5 h5 => (i_dup rfl (i_ic (i_lc (sm_w6 h5 (by decide) (by decide) (by decide +kernel) (fun M6 h6 => (i_dup rfl (i_ic (i_lc (sm_w6 h6 (by decide) (by decide) (by decide +kernel) (fun M7 h7 => (i_dup rfl (i_ic (i_lc (sm_w6 h7 (by decide) (by decide) (by decide +kernel) (fun M8 h8 => (i_dup rfl (i_ic (i_lc (sm_w6 h8 (by decide) (by decide) (by decide +kernel) (fun M9 h9 => (i_dup rfl (i_ic (i_lc (hk M9 h9))))))))))))))))))))))))))))))))))))))))))))))))))
set_option maxRecDepth 100000 in
theorem mi_65 {G : Nat → KT} {K : RT} (hc : cloX13_init G K (605 + 1 + 44, true)) {M0 M : Mem} (h : MI M0 M 607 0 8 0) (hk : ∀ M', MI M0 M' 607 0 18 0 → G 135 [some (.ref 605), none] [.long 28261, .int 18, .ref 606, .ref 606, .ref 605] M') : G 65 [some (.ref 605), none] [.long 6385252, .int 8, .ref 606, .ref 606, .ref 605] M :=
  hc.2.1 _ _ _ (sm_w6 h (by decide) (by decide) (by decide +kernel) (fun M1 h1 => (i_dup rfl (i_ic (i_lc (sm_w6 h1 (by decide) (by decide) (by decide +kernel) (fun M2 h2 => (i_dup rfl (i_ic (i_lc (sm_w6 h2 (by decide) (by decide) (by decide +kernel) (fun M3 h3 => (i_dup rfl (i_ic (i_lc (sm_w6 h3 (by decide) (by decide) (by decide +kernel) (fun M4 h4 => (i_dup rfl (i_ic (i_lc (sm_w6 h4 (by decide) (by decide) (by decide +kernel) (fun M5 h5 => (i_dup rfl (i_ic (i_lc (sm_w6 h5 (by decide) (by decide) (by decide +kernel) (fun M6 h6 => (i_dup rfl (i_ic (i_lc (sm_w6 h6 (by decide) (by decide) (by decide +kernel) (fun M7 h7 => (i_dup rfl (i_ic (i_lc (sm_w6 h7 (by decide) (by decide) (by decide +kernel) (fun M8 h8 => (i_dup rfl (i_ic (i_lc (sm_w6 h8 (by decide) (by decide) (by decide +kernel) (fun M9 h9 => (i_dup rfl (i_ic (i_lc (sm_w6 h9 (by decide) (by decide) (by decide +kernel) (fun M10 h10 => (i_dup rfl (i_ic (i_lc (hk M10 h10)))))))))))))))))))))))))))))))))))))))))))))))))))
set_option maxRecDepth 100000 in
theorem mi_135 {G : Nat → KT} {K : RT} (hc : cloX13_init G K (605 + 1 + 44, true)) {M0 M : Mem} (h : MI M0 M 607 0 18 0) (hk : ∀ M', MI M0 M' 607 0 28 0 → G 205 [some (.ref 605), none] [.long 1819238756, .int 28, .ref 606, .ref 606, .ref 605] M') : G 135 [some (.ref 605), none] [.long 28261, .int 18, .ref 606, .ref 606, .ref 605] M :=
  hc.2.2.1 _ _ _ (sm_w6 h (by decide) (by decide) (by decide +kernel) (fun M1 h1 => (i_dup rfl (i_ic (i_lc (sm_w6 h1 (by decide) (by decide) (by decide +kernel) (fun M2 h2 => (i_dup rfl (i_ic (i_lc (sm_w6 h2 (by decide) (by decide) (by decide +kernel) (fun M3 h3 => (i_dup rfl (i_ic (i_lc (sm_w6 h3 (by decide) (by decide) (by decide +kernel) (fun M4 h4 => (i_dup rfl (i_ic (i_lc (sm_w6 h4 (by decide) (by decide) (by decide +kernel) (fun M5 h5 => (i_dup rfl (i_ic (i_lc (sm_w6 h5 (by decide) (by decide) (by decide +kernel) (fun M6 h6 => (i_dup rfl (i_ic (i_lc (sm_w6 h6 (by decide) (by decide) (by decide +kernel) (fun M7 h7 => (i_dup rfl (i_ic (i_lc (sm_w6 h7 (by decide) (by decide) (by decide +kernel) (fun M8 h8 => (i_dup rfl (i_ic (i_lc (sm_w6 h8 (by decide) (by decide) (by decide +kernel) (fun M9 h9 => (i_dup rfl (i_ic (i_lc (sm_w6 h9 (by decide) (by decide) (by decide +kernel) (fun M10 h10 => (i_dup rfl (i_ic (i_lc (hk M10 h10)))))))))))))))))))))))))))))))))))))))))))))))))))
set_option maxRecDepth 100000 in
theorem mi_205 {G : Nat → KT} {K : RT} (hc : cloX13_init G K (605 + 1 + 44, true)) {M0 M : Mem} (h : MI M0 M 607 0 28 0) (hk : ∀ M', MI M0 M' 607 0 38 0 → G 275 [some (.ref 605), none] [.long 1936683636, .int 38, .ref 606, .ref 606, .ref 605] M') : G 205 [some (.ref 605), none] [.long 1819238756, .int 28, .ref 606, .ref 606, .ref 605] M :=
  hc.2.2.2.1 _ _ _ (sm_w6 h (by decide) (by decide) (by decide +kernel) (fun M1 h1 => (i_dup rfl (i_ic (i_lc (sm_w6 h1 (by decide) (by decide) (by decide +kernel) (fun M2 h2 => (i_dup rfl (i_ic (i_lc (sm_w6 h2 (by decide) (by decide) (by decide +kernel) (fun M3 h3 => (i_dup rfl (i_ic (i_lc (sm_w6 h3 (by decide) (by decide) (by decide +kernel) (fun M4 h4 => (i_dup rfl (i_ic (i_lc (sm_w6 h4 (by decide) (by decide) (by decide +kernel) (fun M5 h5 => (i_dup rfl (i_ic (i_lc (sm_w6 h5 (by decide) (by decide) (by decide +kernel) (fun M6 h6 => (i_dup rfl (i_ic (i_lc (sm_w6 h6 (by decide) (by decide) (by decide +kernel) (fun M7 h7 => (i_dup rfl (i_ic (i_lc (sm_w6 h7 (by decide) (by decide) (by decide +kernel) (fun M8 h8 => (i_dup rfl (i_ic (i_lc (sm_w6 h8 (by decide) (by decide) (by decide +kernel) (fun M9 h9 => (i_dup rfl (i_ic (i_lc (sm_w6 h9 (by decide) (by decide) (by decide +kernel) (fun M10 h10 => (i_dup rfl (i_ic (i_lc (hk M10 h10)))))))))))))))))))))))))))))))))))))))))))))))))))
set_option maxRecDepth 100000 in
theorem mi_275 {G : Nat → KT} {K : RT} (hc : cloX13_init G K (605 + 1 + 44, true)) {M0 M : Mem} (h : MI M0 M 607 0 38 0) (hk : ∀ M', MI M0 M' 607 0 48 0 → G 345 [some (.ref 605), none] [.long 1836609394, .int 48, .ref 606, .ref 606, .ref 605] M') : G 275 [some (.ref 605), none] [.long 1936683636, .int 38, .ref 606, .ref 606, .ref 605] M :=
  hc.2.2.2.2.1 _ _ _ (sm_w6 h (by decide) (by decide) (by decide +kernel) (fun M1 h1 => (i_dup rfl (i_ic (i_lc (sm_w6 h1 (by decide) (by decide) (by decide +kernel) (fun M2 h2 => (i_dup rfl (i_ic (i_lc (sm_w6 h2 (by decide) (by decide) (by decide +kernel) (fun M3 h3 => (i_dup rfl (i_ic (i_lc (sm_w6 h3 (by decide) (by decide) (by decide +kernel) (fun M4 h4 => (i_dup rfl (i_ic (i_lc (sm_w6 h4 (by decide) (by decide) (by decide +kernel) (fun M5 h5 => (i_dup rfl (i_ic (i_lc (sm_w6 h5 (by decide) (by decide) (by decide +kernel) (fun M6 h6 => (i_dup rfl (i_ic (i_lc (sm_w6 h6 (by decide) (by decide) (by decide +kernel) (fun M7 h7 => (i_dup rfl (i_ic (i_lc (sm_w6 h7 (by decide) (by decide) (by decide +kernel) (fun M8 h8 => (i_dup rfl (i_ic (i_lc (sm_w6 h8 (by decide) (by decide) (by decide +kernel) (fun M9 h9 => (i_dup rfl (i_ic (i_lc (sm_w6 h9 (by decide) (by decide) (by decide +kernel) (fun M10 h10 => (i_dup rfl (i_ic (i_lc (hk M10 h10)))))))))))))))))))))))))))))))))))))))))))))))))))
set_option maxRecDepth 100000 in
theorem mi_345 {G : Nat → KT} {K : RT} (hc : cloX13_init G K (605 + 1 + 44, true)) {M0 M : Mem} (h : MI M0 M 607 0 48 0) (hk : ∀ M', MI M0 M' 607 0 58 0 → G 415 [some (.ref 605), none] [.long 1936876909, .int 58, .ref 606, .ref 606, .ref 605] M') : G 345 [some (.ref 605), none] [.long 1836609394, .int 48, .ref 606, .ref 606, .ref 605] M :=
  hc.2.2.2.2.2.1 _ _ _ (sm_w6 h (by decide) (by decide) (by decide +kernel) (fun M1 h1 => (i_dup rfl (i_ic (i_lc (sm_w6 h1 (by decide) (by decide) (by decide +kernel) (fun M2 h2 => (i_dup rfl (i_ic (i_lc (sm_w6 h2 (by decide) (by decide) (by decide +kernel) (fun M3 h3 => (i_dup rfl (i_ic (i_lc (sm_w6 h3 (by decide) (by decide) (by decide +kernel) (fun M4 h4 => (i_dup rfl (i_ic (i_lc (sm_w6 h4 (by decide) (by decide) (by decide +kernel) (fun M5 h5 => (i_dup rfl (i_ic (i_lc (sm_w6 h5 (by decide) (by decide) (by decide +kernel) (fun M6 h6 => (i_dup rfl (i_ic (i_lc (sm_w6 h6 (by decide) (by decide) (by decide +kernel) (fun M7 h7 => (i_dup rfl (i_ic (i_lc (sm_w6 h7 (by decide) (by decide) (by decide +kernel) (fun M8 h8 => (i_dup rfl (i_ic (i_lc (sm_w6 h8 (by decide) (by decide) (by decide +kernel) (fun M9 h9 => (i_dup rfl (i_ic (i_lc (sm_w6 h9 (by decide) (by decide) (by decide +kernel) (fun M10 h10 => (i_dup rfl (i_ic (i_lc (hk M10 h10)))))))))))))))))))))))))))))))))))))))))))))))))))
set_option maxRecDepth 100000 in
theorem mi_415 {G : Nat → KT} {K : RT} (hc : cloX13_init G K (605 + 1 + 44, true)) {M0 M : Mem} (h : MI M0 M 607 0 58 0) (hk : ∀ M', MI M0 M' 607 1 68 0 → G 485 [some (.ref 605), none] [.int 68, .ref 605] M') : G 415 [some (.ref 605), none] [.long 1936876909, .int 58, .ref 606, .ref 606, .ref 605] M :=
  hc.2.2.2.2.2.2.1 _ _ _ (sm_w6 h (by decide) (by decide) (by decide +kernel) (fun M1 h1 => (i_dup rfl (i_ic (i_lc (sm_w6 h1 (by decide) (by decide) (by decide +kernel) (fun M2 h2 => (i_dup rfl (i_ic (i_lc (sm_w6 h2 (by decide) (by decide) (by decide +kernel) (fun M3 h3 => (i_dup rfl (i_ic (i_lc (sm_w6 h3 (by decide) (by decide) (by decide +kernel) (fun M4 h4 => (i_dup rfl (i_ic (i_lc (sm_w6 h4 (by decide) (by decide) (by decide +kernel) (fun M5 h5 => (i_dup rfl (i_ic (i_lc (sm_w6 h5 (by decide) (by decide) (by decide +kernel) (fun M6 h6 => (i_dup rfl (i_ic (i_lc (sm_w6 h6 (by decide) (by decide) (by decide +kernel) (fun M7 h7 => (i_dup rfl (i_ic (i_lc (sm_w6 h7 (by decide) (by decide) (by decide +kernel) (fun M8 h8 => (i_dup rfl (i_ic (i_lc (sm_w6 h8 (by decide) (by decide) (by decide +kernel) (fun M9 h9 => (i_dup rfl (i_ic (i_lc (sm_w6 h9 (by decide) (by decide) (by decide +kernel) (fun M10 h10 => (sm_put h10 (by decide) (by decide) (by decide +kernel) (by decide +kernel) (fun M11 h11 => (i_aload rfl (i_ic (hk M11 h11))))))))))))))))))))))))))))))))))))))))))))))))))))
set_option maxRecDepth 100000 in
theorem mi_485 {G : Nat → KT} {K : RT} (hc : cloX13_init G K (605 + 1 + 44, true)) {M0 M : Mem} (h : MI M0 M 607 1 68 0) (hk : ∀ M', MI M0 M' 608 1 68 9 → G 550 [some (.ref 605), none] [.long 5658198, .int 9, .ref 607, .ref 607, .ref 605] M') : G 485 [some (.ref 605), none] [.int 68, .ref 605] M :=
  hc.2.2.2.2.2.2.2.1 _ _ _ (sm_new h (show Sh 607 = (14, 68) by decide +kernel) (by decide) (by decide) (by decide) (by decide) (by decide) (by decide) (fun M1 h1 => (i_dup rfl (i_ic (i_lc (sm_w7 h1 (by decide) (by decide) (by decide +kernel) (fun M2 h2 => (i_dup rfl (i_ic (i_lc (sm_w7 h2 (by decide) (by decide) (by decide +kernel) (fun M3 h3 => (i_dup rfl (i_ic (i_lc (sm_w7 h3 (by decide) (by decide) (by decide +kernel) (fun M4 h4 => (i_dup rfl (i_ic (i_lc (sm_w7 h4 (by decide) (by decide) (by decide +kernel) (fun M5 h5 => (i_dup rfl (i_ic (i_lc (sm_w7 h5 (by decide) (by decide) (by decide +kernel) (fun M6 h6 => (i_dup rfl (i_ic (i_lc (sm_w7 h6 (by decide) (by decide) (by decide +kernel) (fun M7 h7 => (i_dup rfl (i_ic (i_lc (sm_w7 h7 (by decide) (by decide) (by decide +kernel) (fun M8 h8 => (i_dup rfl (i_ic (i_lc (sm_w7 h8 (by decide) (by decide) (by decide +kernel) (fun M9 h9 => (i_dup rfl (i_ic (i_lc (sm_w7 h9 (by decide) (by decide) (by decide +kernel) (fun M10 h10 => (i_dup rfl (i_ic (i_lc (hk M10 h10)))))))))))))))))))))))))))))))))))))))))))))))))))
set_option maxRecDepth 100000 in
theorem mi_550 {G : Nat → KT} {K : RT} (hc : cloX13_init G K (605 + 1 + 44, true)) {M0 M : Mem} (h : MI M0 M 608 1 68 9) (hk : ∀ M', MI M0 M' 608 1 68 19 → G 620 [some (.ref 605), none] [.long 5068374, .int 19, .ref 607, .ref 607, .ref 605] M') : G 550 [some (.ref 605), none] [.long 5658198, .int 9, .ref 607, .ref 607, .ref 605] M :=
  hc.2.2.2.2.2.2.2.2.1 _ _ _ (sm_w7 h (by decide) (by decide) (by decide +kernel) (fun M1 h1 => (i_dup rfl (i_ic (i_lc (sm_w7 h1 (by decide) (by decide) (by decide +kernel) (fun M2 h2 => (i_dup rfl (i_ic (i_lc (sm_w7 h2 (by decide) (by decide) (by decide +kernel) (fun M3 h3 => (i_dup rfl (i_ic (i_lc (sm_w7 h3 (by decide) (by decide) (by decide +kernel) (fun M4 h4 => (i_dup rfl (i_ic (i_lc (sm_w7 h4 (by decide) (by decide) (by decide +kernel) (fun M5 h5 => (i_dup rfl (i_ic (i_lc (sm_w7 h5 (by decide) (by decide) (by decide +kernel) (fun M6 h6 => (i_dup rfl (i_ic (i_lc (sm_w7 h6 (by decide) (by decide) (by decide +kernel) (fun M7 h7 => (i_dup rfl (i_ic (i_lc (sm_w7 h7 (by decide) (by decide) (by decide +kernel) (fun M8 h8 => (i_dup rfl (i_ic (i_lc (sm_w7 h8 (by decide) (by decide) (by decide +kernel) (fun M9 h9 => (i_dup rfl (i_ic (i_lc (sm_w7 h9 (by decide) (by decide) (by decide +kernel) (fun M10 h10 => (i_dup rfl (i_ic (i_lc (hk M10 h10)))))))))))))))))))))))))))))))))))))))))))))))))))
set_option maxRecDepth 100000 in
theorem mi_620 {G : Nat → KT} {K : RT} (hc : cloX13_init G K (605 + 1 + 44, true)) {M0 M : Mem} (h : MI M0 M 608 1 68 19) (hk : ∀ M', MI M0 M' 608 1 68 29 → G 690 [some (.ref 605), none] [.long 5652819, .int 29, .ref 607, .ref 607, .ref 605] M') : G 620 [some (.ref 605), none] [.long 5068374, .int 19, .ref 607, .ref 607, .ref 605] M :=
  hc.2.2.2.2.2.2.2.2.2.1 _ _ _ (sm_w7 h (by decide) (by decide) (by decide +kernel) (fun M1 h1 => (i_dup rfl (i_ic (i_lc (sm_w7 h1 (by decide) (by decide) (by decide +kernel) (fun M2 h2 => (i_dup rfl (i_ic (i_lc (sm_w7 h2 (by decide) (by decide) (by decide +kernel) (fun M3 h3 => (i_dup rfl (i_ic (i_lc (sm_w7 h3 (by decide) (by decide) (by decide +kernel) (fun M4 h4 => (i_dup rfl (i_ic (i_lc (sm_w7 h4 (by decide) (by decide) (by decide +kernel) (fun M5 h5 => (i_dup rfl (i_ic (i_lc (sm_w7 h5 (by decide) (by decide) (by decide +kernel) (fun M6 h6 => (i_dup rfl (i_ic (i_lc (sm_w7 h6 (by decide) (by decide) (by decide +kernel) (fun M7 h7 => (i_dup rfl (i_ic (i_lc (sm_w7 h7 (by decide) (by decide) (by decide +kernel) (fun M8 h8 => (i_dup rfl (i_ic (i_lc (sm_w7 h8 (by decide) (by decide) (by decide +kernel) (fun M9 h9 => (i_dup rfl (i_ic (i_lc (sm_w7 h9 (by decide) (by decide) (by decide +kernel) (fun M10 h10 => (i_dup rfl (i_ic (i_lc (hk M10 h10)))))))))))))))))))))))))))))))))))))))))))))))))))
set_option maxRecDepth 100000 in
theorem mi_690 {G : Nat → KT} {K : RT} (hc : cloX13_init G K (605 + 1 + 44, true)) {M0 M : Mem} (h : MI M0 M 608 1 68 29) (hk : ∀ M', MI M0 M' 608 1 68 39 → G 760 [some (.ref 605), none] [.long 22102, .int 39, .ref 607, .ref 607, .ref 605] M') : G 690 [some (.ref 605), none] [.long 5652819, .int 29, .ref 607, .ref 607, .ref 605] M :=
  hc.2.2.2.2.2.2.2.2.2.2.1 _ _ _ (sm_w7 h (by decide) (by decide) (by decide +kernel) (fun M1 h1 => (i_dup rfl (i_ic (i_lc (sm_w7 h1 (by decide) (by decide) (by decide +kernel) (fun M2 h2 => (i_dup rfl (i_ic (i_lc (sm_w7 h2 (by decide) (by decide) (by decide +kernel) (fun M3 h3 => (i_dup rfl (i_ic (i_lc (sm_w7 h3 (by decide) (by decide) (by decide +kernel) (fun M4 h4 => (i_dup rfl (i_ic (i_lc (sm_w7 h4 (by decide) (by decide) (by decide +kernel) (fun M5 h5 => (i_dup rfl (i_ic (i_lc (sm_w7 h5 (by decide) (by decide) (by decide +kernel) (fun M6 h6 => (i_dup rfl (i_ic (i_lc (sm_w7 h6 (by decide) (by decide) (by decide +kernel) (fun M7 h7 => (i_dup rfl (i_ic (i_lc (sm_w7 h7 (by decide) (by decide) (by decide +kernel) (fun M8 h8 => (i_dup rfl (i_ic (i_lc (sm_w7 h8 (by decide) (by decide) (by decide +kernel) (fun M9 h9 => (i_dup rfl (i_ic (i_lc (sm_w7 h9 (by decide) (by decide) (by decide +kernel) (fun M10 h10 => (i_dup rfl (i_ic (i_lc (hk M10 h10)))))))))))))))))))))))))))))))))))))))))))))))))))
set_option maxRecDepth 100000 in
theorem mi_760 {G : Nat → KT} {K : RT} (hc : cloX13_init G K (605 + 1 + 44, true)) {M0 M : Mem} (h : MI M0 M 608 1 68 39) (hk : ∀ M', MI M0 M' 608 1 68 49 → G 830 [some (.ref 605), none] [.long 19789, .int 49, .ref 607, .ref 607, .ref 605] M') : G 760 [some (.ref 605), none] [.long 22102, .int 39, .ref 607, .ref 607, .ref 605] M :=
  hc.2.2.2.2.2.2.2.2.2.2.2.1 _ _ _ (sm_w7 h (by decide) (by decide) (by decide +kernel) (fun M1 h1 => (i_dup rfl (i_ic (i_lc (sm_w7 h1 (by decide) (by decide) (by decide +kernel) (fun M2 h2 => (i_dup rfl (i_ic (i_lc (sm_w7 h2 (by decide) (by decide) (by decide +kernel) (fun M3 h3 => (i_dup rfl (i_ic (i_lc (sm_w7 h3 (by decide) (by decide) (by decide +kernel) (fun M4 h4 => (i_dup rfl (i_ic (i_lc (sm_w7 h4 (by decide) (by decide) (by decide +kernel) (fun M5 h5 => (i_dup rfl (i_ic (i_lc (sm_w7 h5 (by decide) (by decide) (by decide +kernel) (fun M6 h6 => (i_dup rfl (i_ic (i_lc (sm_w7 h6 (by decide) (by decide) (by decide +kernel) (fun M7 h7 => (i_dup rfl (i_ic (i_lc (sm_w7 h7 (by decide) (by decide) (by decide +kernel) (fun M8 h8 => (i_dup rfl (i_ic (i_lc (sm_w7 h8 (by decide) (by decide) (by decide +kernel) (fun M9 h9 => (i_dup rfl (i_ic (i_lc (sm_w7 h9 (by decide) (by decide) (by decide +kernel) (fun M10 h10 => (i_dup rfl (i_ic (i_lc (hk M10 h10)))))))))))))))))))))))))))))))))))))))))))))))))))
set_option maxRecDepth 100000 in
theorem mi_830 {G : Nat → KT} {K : RT} (hc : cloX13_init G K (605 + 1 + 44, true)) {M0 M : Mem} (h : MI M0 M 608 1 68 49) (hk : ∀ M', MI M0 M' 608 1 68 59 → G 900 [some (.ref 605), none] [.long 76, .int 59, .ref 607, .ref 607, .ref 605] M') : G 830 [some (.ref 605), none] [.long 19789, .int 49, .ref 607, .ref 607, .ref 605] M :=
  hc.2.2.2.2.2.2.2.2.2.2.2.2.1 _ _ _ (sm_w7 h (by decide) (by decide) (by decide +kernel) (fun M1 h1 => (i_dup rfl (i_ic (i_lc (sm_w7 h1 (by decide) (by decide) (by decide +kernel) (fun M2 h2 => (i_dup rfl (i_ic (i_lc (sm_w7 h2 (by decide) (by decide) (by decide +kernel) (fun M3 h3 => (i_dup rfl (i_ic (i_lc (sm_w7 h3 (by decide) (by decide) (by decide +kernel) (fun M4 h4 => (i_dup rfl (i_ic (i_lc (sm_w7 h4 (by decide) (by decide) (by decide +kernel) (fun M5 h5 => (i_dup rfl (i_ic (i_lc (sm_w7 h5 (by decide) (by decide) (by decide +kernel) (fun M6 h6 => (i_dup rfl (i_ic (i_lc (sm_w7 h6 (by decide) (by decide) (by decide +kernel) (fun M7 h7 => (i_dup rfl (i_ic (i_lc (sm_w7 h7 (by decide) (by decide) (by decide +kernel) (fun M8 h8 => (i_dup rfl (i_ic (i_lc (sm_w7 h8 (by decide) (by decide) (by decide +kernel) (fun M9 h9 => (i_dup rfl (i_ic (i_lc (sm_w7 h9 (by decide) (by decide) (by decide +kernel) (fun M10 h10 => (i_dup rfl (i_ic (i_lc (hk M10 h10)))))))))))))))))))))))))))))))))))))))))))))))))))
set_option maxRecDepth 100000 in
theorem mi_900 {G : Nat → KT} {K : RT} (hc : cloX13_init G K (605 + 1 + 44, true)) {M0 M : Mem} (h : MI M0 M 608 1 68 59) (hk : ∀ M', MI M0 M' 609 4 68 68 → G 968 [some (.ref 605), none] [.int 100, .ref 605] M') : G 900 [some (.ref 605), none] [.long 76, .int 59, .ref 607, .ref 607, .ref 605] M :=
  hc.2.2.2.2.2.2.2.2.2.2.2.2.2.1 _ _ _ (sm_w7 h (by decide) (by decide) (by decide +kernel) (fun M1 h1 => (i_dup rfl (i_ic (i_lc (sm_w7 h1 (by decide) (by decide) (by decide +kernel) (fun M2 h2 => (i_dup rfl (i_ic (i_lc (sm_w7 h2 (by decide) (by decide) (by decide +kernel) (fun M3 h3 => (i_dup rfl (i_ic (i_lc (sm_w7 h3 (by decide) (by decide) (by decide +kernel) (fun M4 h4 => (i_dup rfl (i_ic (i_lc (sm_w7 h4 (by decide) (by decide) (by decide +kernel) (fun M5 h5 => (i_dup rfl (i_ic (i_lc (sm_w7 h5 (by decide) (by decide) (by decide +kernel) (fun M6 h6 => (i_dup rfl (i_ic (i_lc (sm_w7 h6 (by decide) (by decide) (by decide +kernel) (fun M7 h7 => (i_dup rfl (i_ic (i_lc (sm_w7 h7 (by decide) (by decide) (by decide +kernel) (fun M8 h8 => (i_dup rfl (i_ic (i_lc (sm_w7 h8 (by decide) (by decide) (by decide +kernel) (fun M9 h9 => (sm_put h9 (by decide) (by decide) (by decide +kernel) (by decide +kernel) (fun M10 h10 => (i_aload rfl (i_ic (sm_new h10 (show Sh 608 = (11, 4000) by decide +kernel) (by decide) (by decide) (by decide) (by decide) (by decide) (by decide) (fun M11 h11 => (sm_put h11 (by decide) (by decide) (by decide +kernel) (by decide +kernel) (fun M12 h12 => (i_aload rfl (i_ic (hk M12 h12)))))))))))))))))))))))))))))))))))))))))))))))))))))
set_option maxRecDepth 100000 in
theorem mi_968 {G : Nat → KT} {K : RT} (hc : cloX13_init G K (605 + 1 + 44, true)) {M0 M : Mem} (h : MI M0 M 609 4 68 68) (hk : ∀ M', MI M0 M' 619 25 68 68 → G 1050 [some (.ref 605), none] [.int 400, .ref 605] M') : G 968 [some (.ref 605), none] [.int 100, .ref 605] M :=
  hc.2.2.2.2.2.2.2.2.2.2.2.2.2.2.1 _ _ _ (sm_new h (show Sh 609 = (13, 100) by decide +kernel) (by decide) (by decide) (by decide) (by decide) (by decide) (by decide) (fun M1 h1 => (sm_put h1 (by decide) (by decide) (by decide +kernel) (by decide +kernel) (fun M2 h2 => (i_aload rfl (i_ic (sm_new h2 (show Sh 610 = (14, 400) by decide +kernel) (by decide) (by decide) (by decide) (by decide) (by decide) (by decide) (fun M3 h3 => (sm_put h3 (by decide) (by decide) (by decide +kernel) (by decide +kernel) (fun M4 h4 => (i_aload rfl (i_ic (sm_new h4 (show Sh 611 = (13, 100) by decide +kernel) (by decide) (by decide) (by decide) (by decide) (by decide) (by decide) (fun M5 h5 => (sm_put h5 (by decide) (by decide) (by decide +kernel) (by decide +kernel) (fun M6 h6 => (i_aload rfl (i_ic (sm_new h6 (show Sh 612 = (13, 40) by decide +kernel) (by decide) (by decide) (by decide) (by decide) (by decide) (by decide) (fun M7 h7 => (sm_put h7 (by decide) (by decide) (by decide +kernel) (by decide +kernel) (fun M8 h8 => (i_aload rfl (i_ic (sm_new h8 (show Sh 613 = (13, 40) by decide +kernel) (by decide) (by decide) (by decide) (by decide) (by decide) (by decide) (fun M9 h9 => (sm_put h9 (by decide) (by decide) (by decide +kernel) (by decide +kernel) (fun M10 h10 => (i_aload rfl (i_ic (sm_new h10 (show Sh 614 = (13, 40) by decide +kernel) (by decide) (by decide) (by decide) (by decide) (by decide) (by decide) (fun M11 h11 => (sm_put h11 (by decide) (by decide) (by decide +kernel) (by decide +kernel) (fun M12 h12 => (i_aload rfl (i_ic (sm_new h12 (show Sh 615 = (13, 100) by decide +kernel) (by decide) (by decide) (by decide) (by decide) (by decide) (by decide) (fun M13 h13 => (sm_put h13 (by decide) (by decide) (by decide +kernel) (by decide +kernel) (fun M14 h14 => (i_aload rfl (i_ic (sm_new h14 (show Sh 616 = (13, 100) by decide +kernel) (by decide) (by decide) (by decide) (by decide) (by decide) (by decide) (fun M15 h15 => (sm_put h15 (by decide) (by decide) (by decide +kernel) (by decide +kernel) (fun M16 h16 => (i_aload rfl (i_ic (sm_new h16 (show Sh 617 = (13, 100) by decide +kernel) (by decide) (by decide) (by decide) (by decide) (by decide) (by decide) (fun M17 h17 => (sm_put h17 (by decide) (by decide) (by decide +kernel) (by decide +kernel) (fun M18 h18 => (i_aload rfl (i_ic (sm_new h18 (show Sh 618 = (13, 100) by decide +kernel) (by decide) (by decide) (by decide) (by decide) (by decide) (by decide) (fun M19 h19 => (sm_put h19 (by decide) (by decide) (by decide +kernel) (by decide +kernel) (fun M20 h20 => (i_aload rfl (i_ic (hk M20 h20)))))))))))))))))))))))))))))))))))))))))))))))))))))))))))))
set_option maxRecDepth 100000 in
theorem mi_1050 {G : Nat → KT} {K : RT} (hc : cloX13_init G K (605 + 1 + 44, true)) {M0 M : Mem} (h : MI M0 M 619 25 68 68) (hk : ∀ M', MI M0 M' 629 39 68 68 → G 1133 [some (.ref 605), none] [.int 8, .ref 605] M') : G 1050 [some (.ref 605), none] [.int 400, .ref 605] M :=
  hc.2.2.2.2.2.2.2.2.2.2.2.2.2.2.2.1 _ _ _ (sm_new h (show Sh 619 = (14, 400) by decide +kernel) (by decide) (by decide) (by decide) (by decide) (by decide) (by decide) (fun M1 h1 => (sm_put h1 (by decide) (by decide) (by decide +kernel) (by decide +kernel) (fun M2 h2 => (i_aload rfl (i_ic (sm_new h2 (show Sh 620 = (13, 100) by decide +kernel) (by decide) (by decide) (by decide) (by decide) (by decide) (by decide) (fun M3 h3 => (sm_put h3 (by decide) (by decide) (by decide +kernel) (by decide +kernel) (fun M4 h4 => (i_aload rfl (i_ic (sm_new h4 (show Sh 621 = (13, 100) by decide +kernel) (by decide) (by decide) (by decide) (by decide) (by decide) (by decide) (fun M5 h5 => (sm_put h5 (by decide) (by decide) (by decide +kernel) (by decide +kernel) (fun M6 h6 => (i_aload rfl (i_ic (sm_new h6 (show Sh 622 = (14, 400) by decide +kernel) (by decide) (by decide) (by decide) (by decide) (by decide) (by decide) (fun M7 h7 => (sm_put h7 (by decide) (by decide) (by decide +kernel) (by decide +kernel) (fun M8 h8 => (i_aload rfl (i_ic (sm_new h8 (show Sh 623 = (13, 100) by decide +kernel) (by decide) (by decide) (by decide) (by decide) (by decide) (by decide) (fun M9 h9 => (sm_put h9 (by decide) (by decide) (by decide +kernel) (by decide +kernel) (fun M10 h10 => (i_aload rfl (i_ic (sm_new h10 (show Sh 624 = (13, 8) by decide +kernel) (by decide) (by decide) (by decide) (by decide) (by decide) (by decide) (fun M11 h11 => (sm_put h11 (by decide) (by decide) (by decide +kernel) (by decide +kernel) (fun M12 h12 => (i_aload rfl (i_ic (sm_new h12 (show Sh 625 = (13, 8) by decide +kernel) (by decide) (by decide) (by decide) (by decide) (by decide) (by decide) (fun M13 h13 => (sm_put h13 (by decide) (by decide) (by decide +kernel) (by decide +kernel) (fun M14 h14 => (i_aload rfl (i_ic (sm_new h14 (show Sh 626 = (14, 768) by decide +kernel) (by decide) (by decide) (by decide) (by decide) (by decide) (by decide) (fun M15 h15 => (sm_put h15 (by decide) (by decide) (by decide +kernel) (by decide +kernel) (fun M16 h16 => (i_aload rfl (i_ic (sm_new h16 (show Sh 627 = (12, 768) by decide +kernel) (by decide) (by decide) (by decide) (by decide) (by decide) (by decide) (fun M17 h17 => (sm_put h17 (by decide) (by decide) (by decide +kernel) (by decide +kernel) (fun M18 h18 => (i_aload rfl (i_ic (sm_new h18 (show Sh 628 = (13, 8) by decide +kernel) (by decide) (by decide) (by decide) (by decide) (by decide) (by decide) (fun M19 h19 => (sm_put h19 (by decide) (by decide) (by decide +kernel) (by decide +kernel) (fun M20 h20 => (i_aload rfl (i_ic (hk M20 h20)))))))))))))))))))))))))))))))))))))))))))))))))))))))))))))
set_option maxRecDepth 100000 in
theorem mi_1133 {G : Nat → KT} {K : RT} (hc : cloX13_init G K (605 + 1 + 44, true)) {M0 M : Mem} (h : MI M0 M 629 39 68 68) (hk : ∀ M', MI M0 M' 639 57 68 68 → G 1216 [some (.ref 605), none] [.int 69, .ref 605] M') : G 1133 [some (.ref 605), none] [.int 8, .ref 605] M :=
  hc.2.2.2.2.2.2.2.2.2.2.2.2.2.2.2.2.1 _ _ _ (sm_new h (show Sh 629 = (13, 8) by decide +kernel) (by decide) (by decide) (by decide) (by decide) (by decide) (by decide) (fun M1 h1 => (sm_put h1 (by decide) (by decide) (by decide +kernel) (by decide +kernel) (fun M2 h2 => (i_aload rfl (i_ic (sm_new h2 (show Sh 630 = (13, 4) by decide +kernel) (by decide) (by decide) (by decide) (by decide) (by decide) (by decide) (fun M3 h3 => (sm_put h3 (by decide) (by decide) (by decide +kernel) (by decide +kernel) (fun M4 h4 => (i_aload rfl (i_ic (sm_new h4 (show Sh 631 = (14, 8) by decide +kernel) (by decide) (by decide) (by decide) (by decide) (by decide) (by decide) (fun M5 h5 => (sm_put h5 (by decide) (by decide) (by decide +kernel) (by decide +kernel) (fun M6 h6 => (i_aload rfl (i_ic (sm_new h6 (show Sh 632 = (13, 16) by decide +kernel) (by decide) (by decide) (by decide) (by decide) (by decide) (by decide) (fun M7 h7 => (sm_put h7 (by decide) (by decide) (by decide +kernel) (by decide +kernel) (fun M8 h8 => (i_aload rfl (i_ic (sm_new h8 (show Sh 633 = (15, 100) by decide +kernel) (by decide) (by decide) (by decide) (by decide) (by decide) (by decide) (fun M9 h9 => (sm_put h9 (by decide) (by decide) (by decide +kernel) (by decide +kernel) (fun M10 h10 => (i_aload rfl (i_ic (sm_new h10 (show Sh 634 = (15, 512) by decide +kernel) (by decide) (by decide) (by decide) (by decide) (by decide) (by decide) (fun M11 h11 => (sm_put h11 (by decide) (by decide) (by decide +kernel) (by decide +kernel) (fun M12 h12 => (i_aload rfl (i_ic (sm_new h12 (show Sh 635 = (14, 53820) by decide +kernel) (by decide) (by decide) (by decide) (by decide) (by decide) (by decide) (fun M13 h13 => (sm_put h13 (by decide) (by decide) (by decide +kernel) (by decide +kernel) (fun M14 h14 => (i_aload rfl (i_ic (sm_new h14 (show Sh 636 = (12, 52992) by decide +kernel) (by decide) (by decide) (by decide) (by decide) (by decide) (by decide) (fun M15 h15 => (sm_put h15 (by decide) (by decide) (by decide +kernel) (by decide +kernel) (fun M16 h16 => (i_aload rfl (i_ic (sm_new h16 (show Sh 637 = (13, 3864) by decide +kernel) (by decide) (by decide) (by decide) (by decide) (by decide) (by decide) (fun M17 h17 => (sm_put h17 (by decide) (by decide) (by decide +kernel) (by decide +kernel) (fun M18 h18 => (i_aload rfl (i_ic (sm_new h18 (show Sh 638 = (14, 69) by decide +kernel) (by decide) (by decide) (by decide) (by decide) (by decide) (by decide) (fun M19 h19 => (sm_put h19 (by decide) (by decide) (by decide +kernel) (by decide +kernel) (fun M20 h20 => (i_aload rfl (i_ic (hk M20 h20)))))))))))))))))))))))))))))))))))))))))))))))))))))))))))))
set_option maxRecDepth 100000 in
theorem mi_1216 {G : Nat → KT} {K : RT} (hc : cloX13_init G K (605 + 1 + 44, true)) {M0 M : Mem} (h : MI M0 M 639 57 68 68) (hk : ∀ M', MI M0 M' 649 74 68 68 → G 1297 [some (.ref 605), none] [.int 100, .ref 605] M') : G 1216 [some (.ref 605), none] [.int 69, .ref 605] M :=
  hc.2.2.2.2.2.2.2.2.2.2.2.2.2.2.2.2.2.1 _ _ _ (sm_new h (show Sh 639 = (14, 69) by decide +kernel) (by decide) (by decide) (by decide) (by decide) (by decide) (by decide) (fun M1 h1 => (sm_put h1 (by decide) (by decide) (by decide +kernel) (by decide +kernel) (fun M2 h2 => (i_aload rfl (i_ic (sm_new h2 (show Sh 640 = (15, 4) by decide +kernel) (by decide) (by decide) (by decide) (by decide) (by decide) (by decide) (fun M3 h3 => (sm_put h3 (by decide) (by decide) (by decide +kernel) (by decide +kernel) (fun M4 h4 => (i_aload rfl (i_ic (sm_new h4 (show Sh 641 = (13, 64) by decide +kernel) (by decide) (by decide) (by decide) (by decide) (by decide) (by decide) (fun M5 h5 => (sm_put h5 (by decide) (by decide) (by decide +kernel) (by decide +kernel) (fun M6 h6 => (i_aload rfl (i_ic (sm_new h6 (show Sh 642 = (13, 64) by decide +kernel) (by decide) (by decide) (by decide) (by decide) (by decide) (by decide) (fun M7 h7 => (sm_put h7 (by decide) (by decide) (by decide +kernel) (by decide +kernel) (fun M8 h8 => (i_aload rfl (i_ic (sm_new h8 (show Sh 643 = (14, 32) by decide +kernel) (by decide) (by decide) (by decide) (by decide) (by decide) (by decide) (fun M9 h9 => (sm_put h9 (by decide) (by decide) (by decide +kernel) (by decide +kernel) (fun M10 h10 => (i_aload rfl (i_ic (sm_new h10 (show Sh 644 = (12, 32) by decide +kernel) (by decide) (by decide) (by decide) (by decide) (by decide) (by decide) (fun M11 h11 => (sm_put h11 (by decide) (by decide) (by decide +kernel) (by decide +kernel) (fun M12 h12 => (i_aload rfl (i_ic (sm_new h12 (show Sh 645 = (14, 32) by decide +kernel) (by decide) (by decide) (by decide) (by decide) (by decide) (by decide) (fun M13 h13 => (sm_put h13 (by decide) (by decide) (by decide +kernel) (by decide +kernel) (fun M14 h14 => (i_aload rfl (i_ic (sm_new h14 (show Sh 646 = (12, 32) by decide +kernel) (by decide) (by decide) (by decide) (by decide) (by decide) (by decide) (fun M15 h15 => (sm_put h15 (by decide) (by decide) (by decide +kernel) (by decide +kernel) (fun M16 h16 => (i_aload rfl (i_ic (sm_new h16 (show Sh 647 = (14, 512) by decide +kernel) (by decide) (by decide) (by decide) (by decide) (by decide) (by decide) (fun M17 h17 => (sm_put h17 (by decide) (by decide) (by decide +kernel) (by decide +kernel) (fun M18 h18 => (i_aload rfl (i_ic (sm_new h18 (show Sh 648 = (15, 180000) by decide +kernel) (by decide) (by decide) (by decide) (by decide) (by decide) (by decide) (fun M19 h19 => (sm_put h19 (by decide) (by decide) (by decide +kernel) (by decide +kernel) (fun M20 h20 => (i_aload rfl (i_ic (hk M20 h20)))))))))))))))))))))))))))))))))))))))))))))))))))))))))))))
set_option maxRecDepth 100000 in
theorem mi_1297 {G : Nat → KT} {K : RT} (hc : cloX13_init G K (605 + 1 + 44, true)) {M0 M : Mem} (h : MI M0 M 649 74 68 68) (hk : ∀ M', MI M0 M' 650 75 68 68 → G 1304 [some (.ref 605), some (.int 0)] [] M') : G 1297 [some (.ref 605), none] [.int 100, .ref 605] M :=
  hc.2.2.2.2.2.2.2.2.2.2.2.2.2.2.2.2.2.2.1 _ _ _ (sm_new h (show Sh 649 = (15, 100) by decide +kernel) (by decide) (by decide) (by decide) (by decide) (by decide) (by decide) (fun M1 h1 => (sm_put h1 (by decide) (by decide) (by decide +kernel) (by decide +kernel) (fun M2 h2 => (i_ic (i_istore (Nat.le_of_ble_eq_true rfl) (hk M2 h2)))))))
theorem c_noF0 {k : Nat} (hN : M.1 = (k, true)) (hk : 605 < k) (h : K none (uI (uI (uI M 605 48 0) 605 49 (-1)) 605 50 (-1))) : sp_X13_noFault [.ref 605] M K := by
  have ha : (Sh 605).1 = 10 := by decide +kernel
  exact ⟨Nat.le_of_ble_eq_true rfl, fun G hc => hc _ _ _ (i_aload rfl (i_ic (i_putI (okI hN ha hk) (i_aload rfl (i_ic (i_putI (okI hN ha hk) (i_aload rfl (i_ic (i_putI (okI hN ha hk) (i_vret rfl h))))))))))⟩
/-- BEGIN, while the objects are being made -/
theorem c_beg0 {k : Nat} (hN : M.1 = (k, true)) (hk : 650 ≤ k) (r34 : gR M 605 34 = some 624) (r35 : gR M 605 35 = some 625) (r40 : gR M 605 40 = some 630) (h23 : gI M 605 23 = 0)
    (h : ∀ M', FrC begS M M' → (gI M' 605 2 = 0 ∧ gI M' 605 42 = 0 ∧ gI M' 605 44 = 0 ∧ gI M' 605 47 = 1 ∧ gI M' 605 48 = 0 ∧ gI M' 605 49 = -1 ∧ gI M' 605 50 = -1 ∧ gI M' 605 59 = 0 ∧ gL M' 605 45 = 0 ∧ gL M' 605 46 = 0) → (∀ v, v < 8 → gI M' 624 v = -1 ∧ gI M' 625 v = 0) → (∀ m, m < 4 → gI M' 630 m = 0) → K none M') : sp_X13_begin [.ref 605] M K := by
  have ha : (Sh 605).1 = 10 := by decide +kernel
  have e4 : Sh 624 = (13, 8) := by decide +kernel
  have e5 : Sh 625 = (13, 8) := by decide +kernel
  have e0 : Sh 630 = (13, 4) := by decide +kernel
  refine ⟨Nat.le_of_ble_eq_true rfl, fun G hc => ?_⟩
  have ok : ∀ M1, FrC begS M M1 → okA M1 605 10 := fun M1 f => okI (f.1.trans hN) ha (by omega)
  have rr : ∀ M1, FrC begS M M1 → gR M1 605 34 = some 624 ∧ gR M1 605 35 = some 625 ∧ gR M1 605 40 = some 630 := fun M1 f => by rw [f.2.1]; exact ⟨r34, r35, r40⟩
  -- the scalars
  have fin : ∀ M1 (o : Option Value), FrC begS M M1 → gI M1 605 2 = 0 → (∀ v, v < 8 → gI M1 624 v = -1 ∧ gI M1 625 v = 0) → (∀ m, m < 4 → gI M1 630 m = 0) → G 53 [some (.ref 605), o] [] M1 := by
    intro M1 o f z2 zk zm
    have f1 : FrC begS M1 (uL (uL (uI (uI M1 605 42 0) 605 44 0) 605 45 0) 605 46 0) := (((FrC_uI (by unfold begS; omega)).tr (FrC_uI (by unfold begS; omega))).tr (FrC_uL (by unfold begS; omega))).tr (FrC_uL (by unfold begS; omega))
    have g23 : gI (uL (uL (uI (uI M1 605 42 0) 605 44 0) 605 45 0) 605 46 0) 605 23 = 0 := by rw [f1.i (by unfold begS; omega), f.i (by unfold begS; omega)]; exact h23
    have v42 : gI (uL (uL (uI (uI M1 605 42 0) 605 44 0) 605 45 0) 605 46 0) 605 42 = 0 := by show gI (uI (uI M1 605 42 0) 605 44 0) 605 42 = 0; rw [gI_uI, if_neg (by omega), gI_uI, if_pos ⟨rfl, rfl⟩]
    have v44 : gI (uL (uL (uI (uI M1 605 42 0) 605 44 0) 605 45 0) 605 46 0) 605 44 = 0 := by show gI (uI (uI M1 605 42 0) 605 44 0) 605 44 = 0; rw [gI_uI, if_pos ⟨rfl, rfl⟩]
    have v45 : gL (uL (uL (uI (uI M1 605 42 0) 605 44 0) 605 45 0) 605 46 0) 605 45 = 0 := by rw [gL_uL, if_neg (by omega), gL_uL, if_pos ⟨rfl, rfl⟩]
    have v46 : gL (uL (uL (uI (uI M1 605 42 0) 605 44 0) 605 45 0) 605 46 0) 605 46 = 0 := by rw [gL_uL, if_pos ⟨rfl, rfl⟩]
    have v2 : gI (uL (uL (uI (uI M1 605 42 0) 605 44 0) 605 45 0) 605 46 0) 605 2 = 0 := by show gI (uI (uI M1 605 42 0) 605 44 0) 605 2 = 0; rw [gI_uI, if_neg (by omega), gI_uI, if_neg (by omega)]; exact z2
    have same : ∀ a j, a ≠ 605 → gI (uL (uL (uI (uI M1 605 42 0) 605 44 0) 605 45 0) 605 46 0) a j = gI M1 a j := fun a j hn => by show gI (uI (uI M1 605 42 0) 605 44 0) a j = _; rw [gI_uI, if_neg (by omega), gI_uI, if_neg (by omega)]
    refine hc.2.2.2.2.2.2.1 _ _ _ (i_aload rfl (i_ic (i_putI (ok M1 f) (i_aload rfl (i_ic (i_putI (ok M1 f) (i_aload rfl (i_lc (i_putL (ok M1 f) (i_aload rfl (i_lc (i_putL (ok M1 f) (i_aload rfl (i_aload rfl ?_))))))))))))))
    have f2 := f.tr f1
    generalize uL (uL (uI (uI M1 605 42 0) 605 44 0) 605 45 0) 605 46 0 = M2 at f1 f2 g23 v42 v44 v45 v46 v2 same ⊢
    refine i_getIE (ok M2 f2) g23 (i_if_ne (fun z => absurd rfl z) (fun _ => hc.2.2.2.2.2.2.2.1 _ _ _ (i_ic (hc.2.2.2.2.2.2.2.2.2 _ _ _ (i_putZ (ok M2 f2) (Or.inr rfl) (i_aload rfl ?_))))))
    have f3 : FrC begS M (uI M2 605 47 1) := f2.tr (FrC_uI (by unfold begS; omega))
    refine i_callV1 (Nat.le_of_ble_eq_true rfl) (ok _ f3) (c_noF0 (f3.1.trans hN) (by omega) (i_rN (i_aload rfl (i_ic ?_))))
    have f4 : FrC begS M (uI (uI (uI (uI M2 605 47 1) 605 48 0) 605 49 (-1)) 605 50 (-1)) := ((f3.tr (FrC_uI (by unfold begS; omega))).tr (FrC_uI (by unfold begS; omega))).tr (FrC_uI (by unfold begS; omega))
    refine i_putI (ok _ f4) (i_vret (f4.1 : (uI (uI (uI (uI M2 605 47 1) 605 48 0) 605 49 (-1)) 605 50 (-1)).1 = M.1) (h _ (f4.tr (FrC_uI (by unfold begS; omega))) ⟨?_, ?_, ?_, ?_, ?_, ?_, ?_, ?_, ?_, ?_⟩ (fun v hv => ?_) (fun m hm => ?_)))
    · simp [gI_uI]; exact v2
    · simp [gI_uI]; exact v42
    · simp [gI_uI]; exact v44
    · simp [gI_uI]
    · simp [gI_uI]
    · simp [gI_uI]
    · simp [gI_uI]
    · simp [gI_uI]
    · exact v45
    · exact v46
    · simp only [gI_uI]
      rw [if_neg (by omega), if_neg (by omega), if_neg (by omega), if_neg (by omega), if_neg (by omega), if_neg (by omega), if_neg (by omega), if_neg (by omega), if_neg (by omega), if_neg (by omega), same _ _ (by decide), same _ _ (by decide)]
      exact zk v hv
    · simp only [gI_uI]
      rw [if_neg (by omega), if_neg (by omega), if_neg (by omega), if_neg (by omega), if_neg (by omega), same _ _ (by decide)]
      exact zm m hm
  have masks : ∀ f i : Nat, i + f = 4 → ∀ M1, FrC begS M M1 → gI M1 605 2 = 0 → (∀ v, v < 8 → gI M1 624 v = -1 ∧ gI M1 625 v = 0) → (∀ m, m < i → gI M1 630 m = 0) → G 35 [some (.ref 605), some (.int (nI i))] [] M1 := by
    intro f
    induction f with
    | zero =>
      intro i hi M1 f1 z2 zk zm
      have hi : i = 4 := by omega
      subst hi
      exact hc.2.2.2.2.1 _ _ _ (i_iload rfl (i_ic (i_icmp_ge (fun _ => fin M1 _ f1 z2 zk zm) (fun z => absurd (by decide) z))))
    | succ f ih =>
      intro i hi M1 f1 z2 zk zm
      refine hc.2.2.2.2.1 _ _ _ (i_iload rfl (i_ic (i_icmp_ge (fun z => absurd ((nI_leI (a := 4) (by decide) (by omega)).mp z) (by omega)) (fun _ => hc.2.2.2.2.2.1 _ _ _ (i_aload rfl (i_getR (ok M1 f1) (rr M1 f1).2.2 (i_iload rfl (i_ic (i_iastO (okI (f1.1.trans hN) (by rw [e0]) (by omega)) e0 (vpN (show i < 4 by omega) (by decide)) (i_iinc rfl ?_))))))))))
      rw [nI_clamp (by omega)]
      have f2 : FrC begS M1 (uI M1 630 i 0) := FrC_uI (by unfold begS; omega)
      have := ih (i + 1) (by omega) (uI M1 630 i 0) (f1.tr f2) (by rw [gI_uI, if_neg (by omega)]; exact z2) (fun v hv => by rw [gI_uI, if_neg (by omega), gI_uI, if_neg (by omega)]; exact zk v hv) (fun m hm => by
        rw [gI_uI]
        by_cases w : m = i
        · rw [if_pos ⟨rfl, w⟩]
        · rw [if_neg (fun z => w z.2)]; exact zm m (by omega))
      rw [← nI_1] at this
      exact this
  have kinds : ∀ f i : Nat, i + f = 8 → ∀ M1, FrC begS M M1 → gI M1 605 2 = 0 → (∀ v, v < i → gI M1 624 v = -1 ∧ gI M1 625 v = 0) → G 7 [some (.ref 605), some (.int (nI i))] [] M1 := by
    intro f
    induction f with
    | zero =>
      intro i hi M1 f1 z2 zk
      have hi : i = 8 := by omega
      subst hi
      exact hc.2.1 _ _ _ (i_iload rfl (i_ic (i_icmp_ge (fun _ => hc.2.2.2.1 _ _ _ (i_ic (i_istore (Nat.le_of_ble_eq_true rfl) (masks 4 0 rfl M1 f1 z2 zk (fun m hm => absurd hm (Nat.not_lt_zero m)))))) (fun z => absurd (by decide) z))))
    | succ f ih =>
      intro i hi M1 f1 z2 zk
      have f2 : FrC begS M1 (uI M1 624 i (-1)) := FrC_uI (by unfold begS; omega)
      have f12 := f1.tr f2
      refine hc.2.1 _ _ _ (i_iload rfl (i_ic (i_icmp_ge (fun z => absurd ((nI_leI (a := 8) (by decide) (by omega)).mp z) (by omega)) (fun _ => hc.2.2.1 _ _ _ (i_aload rfl (i_getR (ok M1 f1) (rr M1 f1).1 (i_iload rfl (i_ic (i_iastO (okI (f1.1.trans hN) (by rw [e4]) (by omega)) e4 (vpN (show i < 8 by omega) (by decide)) (i_aload rfl ?_))))))))))
      rw [nI_clamp (by omega)]
      refine i_getR (ok _ f12) (rr _ f12).2.1 (i_iload rfl (i_ic (i_iastO (okI (f12.1.trans hN) (by rw [e5]) (by omega)) e5 (vpN (show i < 8 by omega) (by decide)) (i_iinc rfl ?_))))
      rw [nI_clamp (by omega)]
      have f3 : FrC begS M (uI (uI M1 624 i (-1)) 625 i 0) := f12.tr (FrC_uI (by unfold begS; omega))
      have := ih (i + 1) (by omega) _ f3 (by rw [gI_uI, if_neg (by omega), gI_uI, if_neg (by omega)]; exact z2) (fun v hv => by
        rw [gI_uI, gI_uI, gI_uI, gI_uI]
        by_cases w : v = i
        · rw [if_neg (by omega), if_pos ⟨rfl, w⟩, if_pos ⟨rfl, w⟩]
          exact ⟨rfl, rfl⟩
        · rw [if_neg (by omega), if_neg (fun z => w z.2), if_neg (fun z => w z.2), if_neg (by omega)]; exact zk v (by omega))
      rw [← nI_1] at this
      exact this
  have f0 : FrC begS M (uI M 605 2 0) := FrC_uI (by unfold begS; omega)
  exact hc.1 _ _ _ (i_aload rfl (i_ic (i_putI (okI hN ha (by omega)) (i_ic (i_istore (Nat.le_of_ble_eq_true rfl) (kinds 8 0 rfl _ f0 (by rw [gI_uI, if_pos ⟨rfl, rfl⟩]) (fun v hv => absurd hv (Nat.not_lt_zero v))))))))
/-- the reference, made -/
def MF (M0 M : Mem) : Prop := M.1 = (650, true) ∧ Fb 605 M0 M ∧ (∀ j, gR M 605 j = if j < 75 then fx 605 j else none) ∧ (∀ b, 605 < b → b < 650 → gR M b = rn) ∧ RK M ∧ (∀ b j, 605 ≤ b → b < 650 → ¬ begS b j → b ≠ 628 → gI M b j = 0) ∧ (∀ b j, 605 ≤ b → b < 650 → b ≠ 606 → b ≠ 607 → ¬ begS b j → gL M b j = 0) ∧ (gI M 605 2 = 0 ∧ gI M 605 42 = 0 ∧ gI M 605 44 = 0 ∧ gI M 605 47 = 1 ∧ gI M 605 48 = 0 ∧ gI M 605 49 = -1 ∧ gI M 605 50 = -1 ∧ gI M 605 59 = 0 ∧ gL M 605 45 = 0 ∧ gL M 605 46 = 0) ∧ (∀ v, v < 8 → gI M 624 v = -1 ∧ gI M 625 v = 0 ∧ gI M 628 v = -1) ∧ ∀ m, m < 4 → gI M 630 m = 0
theorem c_ini13 (hN : M.1 = (606, true)) (h0 : OB M 605 z0 rn) (h : ∀ M', MF M M' → K none M') : sp_X13_init [.ref 605] M K := by
  refine ⟨Nat.le_of_ble_eq_true rfl, fun G hc => ?_⟩
  rw [t1_is (a := 605) hN] at hc
  have ha : (Sh 605).1 = 10 := by decide +kernel
  have e4 : Sh 624 = (13, 8) := by decide +kernel
  have e8 : Sh 628 = (13, 8) := by decide +kernel
  have hM : MI M M 606 0 0 0 := ⟨hN, Fb.rf, h0.1, h0.2.1, fun j => by rw [h0.2.2.2, if_neg (Nat.not_lt_zero j)]; rfl, fun b b1 b2 => by omega, fun z => absurd z (by decide), fun z => absurd z (by decide)⟩
  refine mi_0 hc hM (fun M1 h1 => mi_65 hc h1 (fun M2 h2 => mi_135 hc h2 (fun M3 h3 => mi_205 hc h3 (fun M4 h4 => mi_275 hc h4 (fun M5 h5 => mi_345 hc h5 (fun M6 h6 => mi_415 hc h6 (fun M7 h7 => mi_485 hc h7 (fun M8 h8 => mi_550 hc h8 (fun M9 h9 => mi_620 hc h9 (fun M10 h10 => mi_690 hc h10 (fun M11 h11 => mi_760 hc h11 (fun M12 h12 => mi_830 hc h12 (fun M13 h13 => mi_900 hc h13 (fun M14 h14 => mi_968 hc h14 (fun M15 h15 => mi_1050 hc h15 (fun M16 h16 => mi_1133 hc h16 (fun M17 h17 => mi_1216 hc h17 (fun M18 h18 => mi_1297 hc h18 (fun M19 h19 => ?_)))))))))))))))))))
  obtain ⟨qN, q1, q2, q3, q4, q5, q6, q7⟩ := h19
  have r34 : gR M19 605 34 = some 624 := by rw [q4]; decide +kernel
  have r35 : gR M19 605 35 = some 625 := by rw [q4]; decide +kernel
  have r38 : gR M19 605 38 = some 628 := by rw [q4]; decide +kernel
  have r40 : gR M19 605 40 = some 630 := by rw [q4]; decide +kernel
  have loop : ∀ f i : Nat, i + f = 8 → ∀ M1, FrC (fun a _ => a = 624 ∨ a = 628) M19 M1 → (∀ b j, gL M1 b j = gL M19 b j) → (∀ v, v < i → gI M1 624 v = -1 ∧ gI M1 628 v = -1) → G 1304 [some (.ref 605), some (.int (nI i))] [] M1 := by
    intro f
    induction f with
    | zero =>
      intro i hi M1 f1 fl zk
      have hi : i = 8 := by omega
      subst hi
      have hN1 := f1.1.trans qN
      refine hc.2.2.2.2.2.2.2.2.2.2.2.2.2.2.2.2.2.2.2.1 _ _ _ (i_iload rfl (i_ic (i_icmp_ge (fun _ => hc.2.2.2.2.2.2.2.2.2.2.2.2.2.2.2.2.2.2.2.2.2 _ _ _ (i_aload rfl (i_callV1 (Nat.le_of_ble_eq_true rfl) (okI hN1 ha (by decide)) (c_beg0 hN1 (Nat.le_refl _) (by rw [f1.2.1]; exact r34) (by rw [f1.2.1]; exact r35) (by rw [f1.2.1]; exact r40) (by rw [f1.i (by omega), q2]; rfl) (fun M2 f2 v1 v2 v3 => i_rN (i_vret (f2.1.trans hN1) (h M2 ?_))))))) (fun z => absurd (by decide) z))))
      have gI0 : ∀ b j, 605 ≤ b → b < 650 → gI M19 b j = 0 := fun b j b1 b2 => by
        by_cases w : b = 605
        · rw [w, q2]; rfl
        · rw [(q5 b (by omega) b2).1]; rfl
      have gL0 : ∀ b j, 605 ≤ b → b < 650 → b ≠ 606 → b ≠ 607 → gL M19 b j = 0 := fun b j b1 b2 n6 n7 => by
        by_cases w : b = 605
        · rw [w, q3]
        · rw [(q5 b (by omega) b2).2.2.2 n6 n7]
      refine ⟨f2.1.trans hN1, fun b hb => ?_, fun j => by rw [f2.2.1, f1.2.1]; exact q4 j, fun b b1 b2 => by rw [f2.2.1, f1.2.1]; exact (q5 b b1 b2).2.2.1, fun o ho => ?_, fun b j b1 b2 n1 n2 => ?_, fun b j b1 b2 n6 n7 w => ?_, v1, fun v hv => ⟨(v2 v hv).1, (v2 v hv).2, ?_⟩, v3⟩
      · obtain ⟨x1, x2, x3, x4⟩ := q1 b hb
        refine ⟨?_, ?_, ?_, by rw [f2.2.1, f1.2.1]; exact x4⟩
        · rw [← x1]; exact funext fun j => by rw [f2.i (by unfold begS; omega), f1.i (by omega)]
        · rw [← x2]; exact funext fun j => by rw [f2.l (by unfold begS; omega), f1.l (by omega)]
        · rw [← x3]; exact funext fun j => by rw [f2.d (by unfold begS; omega), f1.d (by omega)]
      · rw [f2.l (by unfold begS; omega), f1.l (by omega), f2.l (by unfold begS; omega), f1.l (by omega), q6 (by decide), q7 (by decide), if_pos ho, if_pos ho]
        exact ⟨rfl, rfl⟩
      · rw [f2.i n1]
        by_cases w : b = 624
        · subst w; exact absurd (by unfold begS; omega) n1
        · rw [f1.i (by omega)]; exact gI0 b j b1 b2
      · rw [f2.l w, fl]; exact gL0 b j b1 b2 n6 n7
      · rw [f2.i (by unfold begS; omega)]; exact (zk v hv).2
    | succ f ih =>
      intro i hi M1 f1 fl zk
      have hN1 := f1.1.trans qN
      have f2 : FrC (fun a _ => a = 624 ∨ a = 628) M1 (uI M1 624 i (-1)) := FrC_uI (Or.inl rfl)
      have f12 := f1.tr f2
      refine hc.2.2.2.2.2.2.2.2.2.2.2.2.2.2.2.2.2.2.2.1 _ _ _ (i_iload rfl (i_ic (i_icmp_ge (fun z => absurd ((nI_leI (a := 8) (by decide) (by omega)).mp z) (by omega)) (fun _ => hc.2.2.2.2.2.2.2.2.2.2.2.2.2.2.2.2.2.2.2.2.1 _ _ _ (i_aload rfl (i_getR (okI hN1 ha (by decide)) (by rw [f1.2.1]; exact r34) (i_iload rfl (i_ic (i_iastO (okI hN1 (by rw [e4]) (by decide)) e4 (vpN (show i < 8 by omega) (by decide)) (i_aload rfl ?_))))))))))
      rw [nI_clamp (by omega)]
      refine i_getR (okI (f12.1.trans qN) ha (by decide)) (by rw [f12.2.1]; exact r38) (i_iload rfl (i_ic (i_iastO (okI (f12.1.trans qN) (by rw [e8]) (by decide)) e8 (vpN (show i < 8 by omega) (by decide)) (i_iinc rfl ?_))))
      rw [nI_clamp (by omega)]
      have := ih (i + 1) (by omega) _ (f12.tr (FrC_uI (Or.inr rfl))) fl (fun v hv => by
        rw [gI_uI, gI_uI, gI_uI, gI_uI]
        by_cases w : v = i
        · rw [if_neg (by omega), if_pos ⟨rfl, w⟩, if_pos ⟨rfl, w⟩]
          exact ⟨rfl, rfl⟩
        · rw [if_neg (by omega), if_neg (fun z => w z.2), if_neg (fun z => w z.2), if_neg (by omega)]; exact zk v (by omega))
      rw [← nI_1] at this
      exact this
  exact loop 8 0 rfl M19 FrC.rf (fun _ _ => rfl) (fun v hv => absurd hv (Nat.not_lt_zero v))
end
end MINIT
