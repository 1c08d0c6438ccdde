section INTRO
/-- after the start no object is made: 651 objects -/
def wT : Nat × Bool := (651, false)
/-- references that never change -/
def fx (a k : Nat) : Option Nat :=
  let c := (Sh a).1
  if c = 5 then (if k = 2 then some (a + 1) else none)
  else if c = 6 then (if k = 3 then some (a + 1) else none)
  else if c = 3 then (if k = 2 then some (a + 1) else none)
  else if c = 7 then (if k < 4 then some (a + 1 + k) else none)
  else if c = 16 then (if (Sh (a - 1)).1 = 7 ∧ k < 8 then some (a + 4 + 4 * k) else if (Sh (a - 2)).1 = 7 ∧ (Sh (a - 1)).1 = 16 ∧ k < 8 then some (a + 5 + 4 * k) else none)
  else if a = 0 then [some 1, some 7, some 8, some 405, some 447, some 449, some 453, some 454, some 455, some 456].getD k none
  else if a = 1 then [none, some 2, some 4, none, none, none, none, none, none, some 5, some 6].getD k none
  else if a = 7 then [some 8, some 10, none, none, none, none, none, none, none, none, some 404, some 405, some 442, some 408, some 409, some 446].getD k none
  else if a = 10 then [none, some 11, some 12, some 13, some 14, none, none, some 18, some 19].getD k none
  else if a = 404 then [some 405, some 442, none, none, some 443, none, none, none, none, none, some 444, some 445].getD k none
  else if a = 449 then [some 450, some 451, some 452].getD k none
  else if a = 453 then [some 457, some 494, some 531, some 568].getD k none
  else if a = 605 then [some 606, some 607, none, some 608, none, none, none, none, none, none, none, none, some 609, some 610, some 611, none, some 612, some 613, some 614, none, some 615, some 616, some 617, none, some 618, some 619, some 620, none, some 621, some 622, some 623, none, none, none, some 624, some 625, some 626, some 627, some 628, some 629, some 630, some 631, none, some 632, none, none, none, none, none, none, none, some 633, some 634, some 635, some 636, some 637, some 638, some 639, some 640, none, none, some 641, some 642, none, none, some 643, some 644, some 645, some 646, none, none, none, some 647, some 648, some 649, none].getD k none
  else none
/-- references that change: the class of what they name -/
def mx (a k : Nat) : Option Nat :=
  if a = 443 then (if k < 3 then some 5 else none)
  else if a = 404 then (if k = 5 then some 5 else none)
  else if a = 10 then (if k = 5 then some 6 else none)
  else if a = 18 ∨ a = 19 then (if k < 64 then some 6 else none)
  else none
def Wf (M : Mem) : Prop := M.1 = wT ∧ (∀ a k r, fx a k = some r → gR M a k = some r) ∧ ∀ a k c, mx a k = some c → ∃ r, gR M a k = some r ∧ (Sh r).1 = c
def rR (M : Mem) (a k : Nat) : Nat := (gR M a k).getD 0
/-- a truth as an int -/
noncomputable def pI (P : Prop) : Int32 := @ite _ P (Classical.propDecidable P) 1 0
theorem pI_t {P : Prop} (h : P) : pI P = 1 := by unfold pI; rw [if_pos h]
theorem pI_f {P : Prop} (h : ¬ P) : pI P = 0 := by unfold pI; rw [if_neg h]
theorem pI_01 (P : Prop) : pI P = 0 ∨ pI P = 1 := by
  by_cases h : P
  · exact Or.inr (pI_t h)
  · exact Or.inl (pI_f h)
theorem pI_0 {P : Prop} : pI P = 0 ↔ ¬ P := by
  by_cases h : P
  · rw [pI_t h]; exact ⟨fun q => absurd q (by decide), fun q => absurd h q⟩
  · rw [pI_f h]; exact ⟨fun _ => h, fun _ => rfl⟩
theorem pI_1 {P : Prop} : pI P = 1 ↔ P := by
  by_cases h : P
  · rw [pI_t h]; exact ⟨fun _ => h, fun _ => rfl⟩
  · rw [pI_f h]; exact ⟨fun q => absurd q (by decide), fun q => absurd q h⟩
theorem pI_inj {P Q : Prop} : pI P = pI Q ↔ (P ↔ Q) := by
  by_cases h : P
  · rw [pI_t h]
    by_cases q : Q
    · rw [pI_t q]; exact ⟨fun _ => ⟨fun _ => q, fun _ => h⟩, fun _ => rfl⟩
    · rw [pI_f q]; exact ⟨fun z => absurd z (by decide), fun z => absurd (z.mp h) q⟩
  · rw [pI_f h]
    by_cases q : Q
    · rw [pI_t q]; exact ⟨fun z => absurd z (by decide), fun z => absurd (z.mpr q) h⟩
    · rw [pI_f q]; exact ⟨fun _ => ⟨fun z => absurd z h, fun z => absurd z q⟩, fun _ => rfl⟩
theorem pI_ite {P : Prop} {d : Decidable P} : @ite _ P d (1 : Int32) 0 = pI P := by
  by_cases h : P
  · rw [if_pos h, pI_t h]
  · rw [if_neg h, pI_f h]
theorem pI_iten {P : Prop} {d : Decidable P} : @ite _ P d (0 : Int32) 1 = pI (¬ P) := by
  by_cases h : P
  · rw [if_pos h, pI_f (fun q => q h)]
  · rw [if_neg h, pI_t h]
theorem pI_congr {P Q : Prop} (h : P ↔ Q) : pI P = pI Q := pI_inj.mpr h
theorem Wf.fix {M : Mem} (h : Wf M) {a k r : Nat} (e : fx a k = some r) : gR M a k = some r := h.2.1 a k r e
theorem Wf.mut {M : Mem} (h : Wf M) {a k c : Nat} (e : mx a k = some c) : gR M a k = some (rR M a k) := by
  obtain ⟨r, h1, h2⟩ := h.2.2 a k c e
  unfold rR
  rw [h1]
  rfl
theorem Wf.mutS {M : Mem} (h : Wf M) {a k c : Nat} (e : mx a k = some c) : (Sh (rR M a k)).1 = c := by
  obtain ⟨r, h1, h2⟩ := h.2.2 a k c e
  unfold rR
  rw [h1]
  exact h2
theorem Wf.E {M : Mem} (h : Wf M) : gE M = false := by show M.1.2 = false; rw [h.1]; rfl
theorem okS {M : Mem} (h : Wf M) {a c : Nat} (e : (Sh a).1 = c) : okA M a c := ⟨e, fun q => by rw [h.E] at q; cases q⟩
theorem okT {M : Mem} (h : Wf M) {a c n : Nat} (e : Sh a = (c, n)) : okA M a c := okS h (by rw [e])
theorem Wf_uR {M : Mem} (h : Wf M) {a k c x : Nat} (e : mx a k = some c) (hf : fx a k = none) (hx : (Sh x).1 = c) : Wf (uR M a k (some x)) := by
  refine ⟨h.1, fun b j r q => ?_, fun b j c' q => ?_⟩
  · rw [gR_uR]
    split
    · rename_i z
      rw [z.1, z.2, hf] at q
      cases q
    · exact h.2.1 b j r q
  · rw [gR_uR]
    split
    · rename_i z
      rw [z.1, z.2, e] at q
      cases q
      exact ⟨x, rfl, hx⟩
    · exact h.2.2 b j c' q
theorem fx_row {a : Nat} (h : (Sh a).1 = 5) : fx a 2 = some (a + 1) := by simp [fx, h]
theorem fx_sav {a : Nat} (h : (Sh a).1 = 6) : fx a 3 = some (a + 1) := by simp [fx, h]
theorem fx_prg {a : Nat} (h : (Sh a).1 = 3) : fx a 2 = some (a + 1) := by simp [fx, h]
theorem fx_st {a k : Nat} (h : (Sh a).1 = 7) (hk : k < 4) : fx a k = some (a + 1 + k) := by simp [fx, h, hk]
theorem Sh_lt' {a c : Nat} (h : (Sh a).1 = c) (hc : c ≤ 18) : a < 651 := Sh_lt (by omega)
theorem tab_row : ∀ a, a < 651 → (Sh a).1 = 5 → Sh (a + 1) = (14, 64) := by decide +kernel
theorem tab_sav : ∀ a, a < 651 → (Sh a).1 = 6 → (Sh (a + 1)).1 = 5 := by decide +kernel
theorem tab_prg : ∀ a, a < 651 → (Sh a).1 = 3 → Sh (a + 1) = (14, 600) := by decide +kernel
theorem tab_st : ∀ a, a < 651 → (Sh a).1 = 7 → Sh (a + 1) = (16, 8) ∧ Sh (a + 2) = (16, 8) ∧ Sh (a + 3) = (13, 4) ∧ Sh (a + 4) = (14, 8) := by decide +kernel
theorem tab_stR : ∀ a, a < 651 → (Sh a).1 = 7 → ∀ k, k < 8 → fx (a + 1) k = some (a + 5 + 4 * k) ∧ fx (a + 2) k = some (a + 7 + 4 * k) ∧ (Sh (a + 5 + 4 * k)).1 = 5 ∧ (Sh (a + 7 + 4 * k)).1 = 5 := by decide +kernel
theorem tab_k : ∀ k, k < 4 → fx 453 k = some (457 + 37 * k) ∧ (Sh (457 + 37 * k)).1 = 7 := by decide +kernel
theorem Srow {a : Nat} (h : (Sh a).1 = 5) : Sh (a + 1) = (14, 64) := tab_row a (Sh_lt' h (by decide)) h
theorem Ssav {a : Nat} (h : (Sh a).1 = 6) : (Sh (a + 1)).1 = 5 := tab_sav a (Sh_lt' h (by decide)) h
theorem Sprg {a : Nat} (h : (Sh a).1 = 3) : Sh (a + 1) = (14, 600) := tab_prg a (Sh_lt' h (by decide)) h
theorem Sst {a : Nat} (h : (Sh a).1 = 7) : Sh (a + 1) = (16, 8) ∧ Sh (a + 2) = (16, 8) ∧ Sh (a + 3) = (13, 4) ∧ Sh (a + 4) = (14, 8) := tab_st a (Sh_lt' h (by decide)) h
theorem SstR {a k : Nat} (h : (Sh a).1 = 7) (hk : k < 8) : (Sh (a + 5 + 4 * k)).1 = 5 := (tab_stR a (Sh_lt' h (by decide)) h k hk).2.2.1
theorem SstA {a k : Nat} (h : (Sh a).1 = 7) (hk : k < 8) : (Sh (a + 7 + 4 * k)).1 = 5 := (tab_stR a (Sh_lt' h (by decide)) h k hk).2.2.2
theorem nvRow {M : Mem} (hW : Wf M) {a : Nat} (h : (Sh a).1 = 5) : gR M a 2 = some (a + 1) := hW.fix (fx_row h)
theorem nvSav {M : Mem} (hW : Wf M) {a : Nat} (h : (Sh a).1 = 6) : gR M a 3 = some (a + 1) := hW.fix (fx_sav h)
theorem nvPrg {M : Mem} (hW : Wf M) {a : Nat} (h : (Sh a).1 = 3) : gR M a 2 = some (a + 1) := hW.fix (fx_prg h)
theorem nvSt0 {M : Mem} (hW : Wf M) {a : Nat} (h : (Sh a).1 = 7) : gR M a 0 = some (a + 1) := hW.fix (fx_st h (by decide))
theorem nvSt1 {M : Mem} (hW : Wf M) {a : Nat} (h : (Sh a).1 = 7) : gR M a 1 = some (a + 2) := hW.fix (fx_st h (by decide))
theorem nvSt2 {M : Mem} (hW : Wf M) {a : Nat} (h : (Sh a).1 = 7) : gR M a 2 = some (a + 3) := hW.fix (fx_st h (by decide))
theorem nvSt3 {M : Mem} (hW : Wf M) {a : Nat} (h : (Sh a).1 = 7) : gR M a 3 = some (a + 4) := hW.fix (fx_st h (by decide))
theorem vp_lt {i : Int32} {n : Nat} (h : vp_in i n) : i.toNatClampNeg < n := Nat.lt_of_not_le fun q => h (Or.inr q)
theorem nvReg {M : Mem} (hW : Wf M) {a : Nat} (h : (Sh a).1 = 7) {k : Nat} (hk : k < 8) : gR M (a + 1) k = some (a + 5 + 4 * k) := hW.fix (tab_stR a (Sh_lt' h (by decide)) h k hk).1
theorem nvArr {M : Mem} (hW : Wf M) {a : Nat} (h : (Sh a).1 = 7) {k : Nat} (hk : k < 8) : gR M (a + 2) k = some (a + 7 + 4 * k) := hW.fix (tab_stR a (Sh_lt' h (by decide)) h k hk).2.1
theorem nvKept {M : Mem} (hW : Wf M) {k : Nat} (hk : k < 4) : gR M 453 k = some (457 + 37 * k) := hW.fix (tab_k k hk).1
theorem SKept {k : Nat} (hk : k < 4) : (Sh (457 + 37 * k)).1 = 7 := (tab_k k hk).2
theorem mx_rows {k : Nat} (h : k < 3) : mx 443 k = some 5 := by unfold mx; rw [if_pos rfl, if_pos h]
theorem mx_ahead {k : Nat} (h : k < 64) : mx 18 k = some 6 := by unfold mx; rw [if_neg (by decide), if_neg (by decide), if_neg (by decide), if_pos (by decide), if_pos h]
theorem mx_behind {k : Nat} (h : k < 64) : mx 19 k = some 6 := by unfold mx; rw [if_neg (by decide), if_neg (by decide), if_neg (by decide), if_pos (by decide), if_pos h]
theorem fx_rows (k : Nat) : fx 443 k = none := by
  have h1 : (Sh 443).1 = 16 := by decide +kernel
  have h2 : ¬ (Sh (443 - 1)).1 = 7 := by decide +kernel
  have h3 : ¬ (Sh (443 - 2)).1 = 7 := by decide +kernel
  unfold fx
  simp only [h1, h2, h3, false_and, if_false]
  simp
theorem fx_17 {a : Nat} (k : Nat) (h1 : (Sh a).1 = 17) (h2 : ¬ a = 0) (h3 : ¬ a = 1) (h4 : ¬ a = 7) (h5 : ¬ a = 10) (h6 : ¬ a = 404) (h7 : ¬ a = 449) (h8 : ¬ a = 453) (h9 : ¬ a = 605) : fx a k = none := by
  unfold fx
  simp only [h1, h2, h3, h4, h5, h6, h7, h8, h9, if_false]
  simp
theorem fx_ahead (k : Nat) : fx 18 k = none := fx_17 k (by decide +kernel) (by decide) (by decide) (by decide) (by decide) (by decide) (by decide) (by decide) (by decide)
theorem fx_behind (k : Nat) : fx 19 k = none := fx_17 k (by decide +kernel) (by decide) (by decide) (by decide) (by decide) (by decide) (by decide) (by decide) (by decide)
theorem Ss_0 : Sh 0 = (9, 0) := by decide +kernel
theorem Sk_0 : (Sh 0).1 = 9 := by rw [Ss_0]
theorem Ss_1 : Sh 1 = (4, 0) := by decide +kernel
theorem Sk_1 : (Sh 1).1 = 4 := by rw [Ss_1]
theorem Ss_2 : Sh 2 = (3, 0) := by decide +kernel
theorem Sk_2 : (Sh 2).1 = 3 := by rw [Ss_2]
theorem Ss_3 : Sh 3 = (14, 600) := by decide +kernel
theorem Sk_3 : (Sh 3).1 = 14 := by rw [Ss_3]
theorem Ss_4 : Sh 4 = (13, 4000) := by decide +kernel
theorem Sk_4 : (Sh 4).1 = 13 := by rw [Ss_4]
theorem Ss_5 : Sh 5 = (13, 40) := by decide +kernel
theorem Sk_5 : (Sh 5).1 = 13 := by rw [Ss_5]
theorem Ss_6 : Sh 6 = (13, 40) := by decide +kernel
theorem Sk_6 : (Sh 6).1 = 13 := by rw [Ss_6]
theorem Ss_7 : Sh 7 = (2, 0) := by decide +kernel
theorem Sk_7 : (Sh 7).1 = 2 := by rw [Ss_7]
theorem Ss_8 : Sh 8 = (3, 0) := by decide +kernel
theorem Sk_8 : (Sh 8).1 = 3 := by rw [Ss_8]
theorem Ss_9 : Sh 9 = (14, 600) := by decide +kernel
theorem Sk_9 : (Sh 9).1 = 14 := by rw [Ss_9]
theorem Ss_10 : Sh 10 = (8, 0) := by decide +kernel
theorem Sk_10 : (Sh 10).1 = 8 := by rw [Ss_10]
theorem Ss_11 : Sh 11 = (13, 64) := by decide +kernel
theorem Sk_11 : (Sh 11).1 = 13 := by rw [Ss_11]
theorem Ss_12 : Sh 12 = (13, 64) := by decide +kernel
theorem Sk_12 : (Sh 12).1 = 13 := by rw [Ss_12]
theorem Ss_13 : Sh 13 = (13, 64) := by decide +kernel
theorem Sk_13 : (Sh 13).1 = 13 := by rw [Ss_13]
theorem Ss_14 : Sh 14 = (13, 64) := by decide +kernel
theorem Sk_14 : (Sh 14).1 = 13 := by rw [Ss_14]
theorem Ss_15 : Sh 15 = (6, 0) := by decide +kernel
theorem Sk_15 : (Sh 15).1 = 6 := by rw [Ss_15]
theorem Ss_18 : Sh 18 = (17, 64) := by decide +kernel
theorem Sk_18 : (Sh 18).1 = 17 := by rw [Ss_18]
theorem Ss_19 : Sh 19 = (17, 64) := by decide +kernel
theorem Sk_19 : (Sh 19).1 = 17 := by rw [Ss_19]
theorem Ss_404 : Sh 404 = (1, 0) := by decide +kernel
theorem Sk_404 : (Sh 404).1 = 1 := by rw [Ss_404]
theorem Ss_405 : Sh 405 = (7, 0) := by decide +kernel
theorem Sk_405 : (Sh 405).1 = 7 := by rw [Ss_405]
theorem Ss_406 : Sh 406 = (16, 8) := by decide +kernel
theorem Sk_406 : (Sh 406).1 = 16 := by rw [Ss_406]
theorem Ss_407 : Sh 407 = (16, 8) := by decide +kernel
theorem Sk_407 : (Sh 407).1 = 16 := by rw [Ss_407]
theorem Ss_408 : Sh 408 = (13, 4) := by decide +kernel
theorem Sk_408 : (Sh 408).1 = 13 := by rw [Ss_408]
theorem Ss_409 : Sh 409 = (14, 8) := by decide +kernel
theorem Sk_409 : (Sh 409).1 = 14 := by rw [Ss_409]
theorem Ss_442 : Sh 442 = (14, 6) := by decide +kernel
theorem Sk_442 : (Sh 442).1 = 14 := by rw [Ss_442]
theorem Ss_443 : Sh 443 = (16, 3) := by decide +kernel
theorem Sk_443 : (Sh 443).1 = 16 := by rw [Ss_443]
theorem Ss_444 : Sh 444 = (14, 32) := by decide +kernel
theorem Sk_444 : (Sh 444).1 = 14 := by rw [Ss_444]
theorem Ss_445 : Sh 445 = (14, 32) := by decide +kernel
theorem Sk_445 : (Sh 445).1 = 14 := by rw [Ss_445]
theorem Ss_446 : Sh 446 = (13, 16) := by decide +kernel
theorem Sk_446 : (Sh 446).1 = 13 := by rw [Ss_446]
theorem Ss_447 : Sh 447 = (3, 0) := by decide +kernel
theorem Sk_447 : (Sh 447).1 = 3 := by rw [Ss_447]
theorem Ss_448 : Sh 448 = (14, 600) := by decide +kernel
theorem Sk_448 : (Sh 448).1 = 14 := by rw [Ss_448]
theorem Ss_449 : Sh 449 = (0, 0) := by decide +kernel
theorem Sk_449 : (Sh 449).1 = 0 := by rw [Ss_449]
theorem Ss_450 : Sh 450 = (13, 6400) := by decide +kernel
theorem Sk_450 : (Sh 450).1 = 13 := by rw [Ss_450]
theorem Ss_451 : Sh 451 = (15, 100) := by decide +kernel
theorem Sk_451 : (Sh 451).1 = 15 := by rw [Ss_451]
theorem Ss_452 : Sh 452 = (15, 100) := by decide +kernel
theorem Sk_452 : (Sh 452).1 = 15 := by rw [Ss_452]
theorem Ss_453 : Sh 453 = (18, 4) := by decide +kernel
theorem Sk_453 : (Sh 453).1 = 18 := by rw [Ss_453]
theorem Ss_454 : Sh 454 = (15, 4) := by decide +kernel
theorem Sk_454 : (Sh 454).1 = 15 := by rw [Ss_454]
theorem Ss_455 : Sh 455 = (15, 100) := by decide +kernel
theorem Sk_455 : (Sh 455).1 = 15 := by rw [Ss_455]
theorem Ss_456 : Sh 456 = (14, 8) := by decide +kernel
theorem Sk_456 : (Sh 456).1 = 14 := by rw [Ss_456]
theorem Ss_457 : Sh 457 = (7, 0) := by decide +kernel
theorem Sk_457 : (Sh 457).1 = 7 := by rw [Ss_457]
theorem Ss_458 : Sh 458 = (16, 8) := by decide +kernel
theorem Sk_458 : (Sh 458).1 = 16 := by rw [Ss_458]
theorem Ss_459 : Sh 459 = (16, 8) := by decide +kernel
theorem Sk_459 : (Sh 459).1 = 16 := by rw [Ss_459]
theorem Ss_460 : Sh 460 = (13, 4) := by decide +kernel
theorem Sk_460 : (Sh 460).1 = 13 := by rw [Ss_460]
theorem Ss_461 : Sh 461 = (14, 8) := by decide +kernel
theorem Sk_461 : (Sh 461).1 = 14 := by rw [Ss_461]
theorem Ss_494 : Sh 494 = (7, 0) := by decide +kernel
theorem Sk_494 : (Sh 494).1 = 7 := by rw [Ss_494]
theorem Ss_495 : Sh 495 = (16, 8) := by decide +kernel
theorem Sk_495 : (Sh 495).1 = 16 := by rw [Ss_495]
theorem Ss_496 : Sh 496 = (16, 8) := by decide +kernel
theorem Sk_496 : (Sh 496).1 = 16 := by rw [Ss_496]
theorem Ss_497 : Sh 497 = (13, 4) := by decide +kernel
theorem Sk_497 : (Sh 497).1 = 13 := by rw [Ss_497]
theorem Ss_498 : Sh 498 = (14, 8) := by decide +kernel
theorem Sk_498 : (Sh 498).1 = 14 := by rw [Ss_498]
theorem Ss_531 : Sh 531 = (7, 0) := by decide +kernel
theorem Sk_531 : (Sh 531).1 = 7 := by rw [Ss_531]
theorem Ss_532 : Sh 532 = (16, 8) := by decide +kernel
theorem Sk_532 : (Sh 532).1 = 16 := by rw [Ss_532]
theorem Ss_533 : Sh 533 = (16, 8) := by decide +kernel
theorem Sk_533 : (Sh 533).1 = 16 := by rw [Ss_533]
theorem Ss_534 : Sh 534 = (13, 4) := by decide +kernel
theorem Sk_534 : (Sh 534).1 = 13 := by rw [Ss_534]
theorem Ss_535 : Sh 535 = (14, 8) := by decide +kernel
theorem Sk_535 : (Sh 535).1 = 14 := by rw [Ss_535]
theorem Ss_568 : Sh 568 = (7, 0) := by decide +kernel
theorem Sk_568 : (Sh 568).1 = 7 := by rw [Ss_568]
theorem Ss_569 : Sh 569 = (16, 8) := by decide +kernel
theorem Sk_569 : (Sh 569).1 = 16 := by rw [Ss_569]
theorem Ss_570 : Sh 570 = (16, 8) := by decide +kernel
theorem Sk_570 : (Sh 570).1 = 16 := by rw [Ss_570]
theorem Ss_571 : Sh 571 = (13, 4) := by decide +kernel
theorem Sk_571 : (Sh 571).1 = 13 := by rw [Ss_571]
theorem Ss_572 : Sh 572 = (14, 8) := by decide +kernel
theorem Sk_572 : (Sh 572).1 = 14 := by rw [Ss_572]
theorem Ss_605 : Sh 605 = (10, 0) := by decide +kernel
theorem Sk_605 : (Sh 605).1 = 10 := by rw [Ss_605]
theorem Ss_606 : Sh 606 = (14, 68) := by decide +kernel
theorem Sk_606 : (Sh 606).1 = 14 := by rw [Ss_606]
theorem Ss_607 : Sh 607 = (14, 68) := by decide +kernel
theorem Sk_607 : (Sh 607).1 = 14 := by rw [Ss_607]
theorem Ss_608 : Sh 608 = (11, 4000) := by decide +kernel
theorem Sk_608 : (Sh 608).1 = 11 := by rw [Ss_608]
theorem Ss_609 : Sh 609 = (13, 100) := by decide +kernel
theorem Sk_609 : (Sh 609).1 = 13 := by rw [Ss_609]
theorem Ss_610 : Sh 610 = (14, 400) := by decide +kernel
theorem Sk_610 : (Sh 610).1 = 14 := by rw [Ss_610]
theorem Ss_611 : Sh 611 = (13, 100) := by decide +kernel
theorem Sk_611 : (Sh 611).1 = 13 := by rw [Ss_611]
theorem Ss_612 : Sh 612 = (13, 40) := by decide +kernel
theorem Sk_612 : (Sh 612).1 = 13 := by rw [Ss_612]
theorem Ss_613 : Sh 613 = (13, 40) := by decide +kernel
theorem Sk_613 : (Sh 613).1 = 13 := by rw [Ss_613]
theorem Ss_614 : Sh 614 = (13, 40) := by decide +kernel
theorem Sk_614 : (Sh 614).1 = 13 := by rw [Ss_614]
theorem Ss_615 : Sh 615 = (13, 100) := by decide +kernel
theorem Sk_615 : (Sh 615).1 = 13 := by rw [Ss_615]
theorem Ss_616 : Sh 616 = (13, 100) := by decide +kernel
theorem Sk_616 : (Sh 616).1 = 13 := by rw [Ss_616]
theorem Ss_617 : Sh 617 = (13, 100) := by decide +kernel
theorem Sk_617 : (Sh 617).1 = 13 := by rw [Ss_617]
theorem Ss_618 : Sh 618 = (13, 100) := by decide +kernel
theorem Sk_618 : (Sh 618).1 = 13 := by rw [Ss_618]
theorem Ss_619 : Sh 619 = (14, 400) := by decide +kernel
theorem Sk_619 : (Sh 619).1 = 14 := by rw [Ss_619]
theorem Ss_620 : Sh 620 = (13, 100) := by decide +kernel
theorem Sk_620 : (Sh 620).1 = 13 := by rw [Ss_620]
theorem Ss_621 : Sh 621 = (13, 100) := by decide +kernel
theorem Sk_621 : (Sh 621).1 = 13 := by rw [Ss_621]
theorem Ss_622 : Sh 622 = (14, 400) := by decide +kernel
theorem Sk_622 : (Sh 622).1 = 14 := by rw [Ss_622]
theorem Ss_623 : Sh 623 = (13, 100) := by decide +kernel
theorem Sk_623 : (Sh 623).1 = 13 := by rw [Ss_623]
theorem Ss_624 : Sh 624 = (13, 8) := by decide +kernel
theorem Sk_624 : (Sh 624).1 = 13 := by rw [Ss_624]
theorem Ss_625 : Sh 625 = (13, 8) := by decide +kernel
theorem Sk_625 : (Sh 625).1 = 13 := by rw [Ss_625]
theorem Ss_626 : Sh 626 = (14, 768) := by decide +kernel
theorem Sk_626 : (Sh 626).1 = 14 := by rw [Ss_626]
theorem Ss_627 : Sh 627 = (12, 768) := by decide +kernel
theorem Sk_627 : (Sh 627).1 = 12 := by rw [Ss_627]
theorem Ss_628 : Sh 628 = (13, 8) := by decide +kernel
theorem Sk_628 : (Sh 628).1 = 13 := by rw [Ss_628]
theorem Ss_629 : Sh 629 = (13, 8) := by decide +kernel
theorem Sk_629 : (Sh 629).1 = 13 := by rw [Ss_629]
theorem Ss_630 : Sh 630 = (13, 4) := by decide +kernel
theorem Sk_630 : (Sh 630).1 = 13 := by rw [Ss_630]
theorem Ss_631 : Sh 631 = (14, 8) := by decide +kernel
theorem Sk_631 : (Sh 631).1 = 14 := by rw [Ss_631]
theorem Ss_632 : Sh 632 = (13, 16) := by decide +kernel
theorem Sk_632 : (Sh 632).1 = 13 := by rw [Ss_632]
theorem Ss_633 : Sh 633 = (15, 100) := by decide +kernel
theorem Sk_633 : (Sh 633).1 = 15 := by rw [Ss_633]
theorem Ss_634 : Sh 634 = (15, 512) := by decide +kernel
theorem Sk_634 : (Sh 634).1 = 15 := by rw [Ss_634]
theorem Ss_635 : Sh 635 = (14, 53820) := by decide +kernel
theorem Sk_635 : (Sh 635).1 = 14 := by rw [Ss_635]
theorem Ss_636 : Sh 636 = (12, 52992) := by decide +kernel
theorem Sk_636 : (Sh 636).1 = 12 := by rw [Ss_636]
theorem Ss_637 : Sh 637 = (13, 3864) := by decide +kernel
theorem Sk_637 : (Sh 637).1 = 13 := by rw [Ss_637]
theorem Ss_638 : Sh 638 = (14, 69) := by decide +kernel
theorem Sk_638 : (Sh 638).1 = 14 := by rw [Ss_638]
theorem Ss_639 : Sh 639 = (14, 69) := by decide +kernel
theorem Sk_639 : (Sh 639).1 = 14 := by rw [Ss_639]
theorem Ss_640 : Sh 640 = (15, 4) := by decide +kernel
theorem Sk_640 : (Sh 640).1 = 15 := by rw [Ss_640]
theorem Ss_641 : Sh 641 = (13, 64) := by decide +kernel
theorem Sk_641 : (Sh 641).1 = 13 := by rw [Ss_641]
theorem Ss_642 : Sh 642 = (13, 64) := by decide +kernel
theorem Sk_642 : (Sh 642).1 = 13 := by rw [Ss_642]
theorem Ss_643 : Sh 643 = (14, 32) := by decide +kernel
theorem Sk_643 : (Sh 643).1 = 14 := by rw [Ss_643]
theorem Ss_644 : Sh 644 = (12, 32) := by decide +kernel
theorem Sk_644 : (Sh 644).1 = 12 := by rw [Ss_644]
theorem Ss_645 : Sh 645 = (14, 32) := by decide +kernel
theorem Sk_645 : (Sh 645).1 = 14 := by rw [Ss_645]
theorem Ss_646 : Sh 646 = (12, 32) := by decide +kernel
theorem Sk_646 : (Sh 646).1 = 12 := by rw [Ss_646]
theorem Ss_647 : Sh 647 = (14, 512) := by decide +kernel
theorem Sk_647 : (Sh 647).1 = 14 := by rw [Ss_647]
theorem Ss_648 : Sh 648 = (15, 180000) := by decide +kernel
theorem Sk_648 : (Sh 648).1 = 15 := by rw [Ss_648]
theorem Ss_649 : Sh 649 = (15, 100) := by decide +kernel
theorem Sk_649 : (Sh 649).1 = 15 := by rw [Ss_649]
theorem Ss_650 : Sh 650 = (14, 1) := by decide +kernel
theorem Sk_650 : (Sh 650).1 = 14 := by rw [Ss_650]
theorem nv_0_0 {M : Mem} (hW : Wf M) : gR M 0 0 = some 1 := hW.fix (by decide +kernel)
theorem nv_0_1 {M : Mem} (hW : Wf M) : gR M 0 1 = some 7 := hW.fix (by decide +kernel)
theorem nv_0_2 {M : Mem} (hW : Wf M) : gR M 0 2 = some 8 := hW.fix (by decide +kernel)
theorem nv_0_3 {M : Mem} (hW : Wf M) : gR M 0 3 = some 405 := hW.fix (by decide +kernel)
theorem nv_0_4 {M : Mem} (hW : Wf M) : gR M 0 4 = some 447 := hW.fix (by decide +kernel)
theorem nv_0_5 {M : Mem} (hW : Wf M) : gR M 0 5 = some 449 := hW.fix (by decide +kernel)
theorem nv_0_6 {M : Mem} (hW : Wf M) : gR M 0 6 = some 453 := hW.fix (by decide +kernel)
theorem nv_0_7 {M : Mem} (hW : Wf M) : gR M 0 7 = some 454 := hW.fix (by decide +kernel)
theorem nv_0_8 {M : Mem} (hW : Wf M) : gR M 0 8 = some 455 := hW.fix (by decide +kernel)
theorem nv_0_9 {M : Mem} (hW : Wf M) : gR M 0 9 = some 456 := hW.fix (by decide +kernel)
theorem nv_1_1 {M : Mem} (hW : Wf M) : gR M 1 1 = some 2 := hW.fix (by decide +kernel)
theorem nv_1_2 {M : Mem} (hW : Wf M) : gR M 1 2 = some 4 := hW.fix (by decide +kernel)
theorem nv_1_9 {M : Mem} (hW : Wf M) : gR M 1 9 = some 5 := hW.fix (by decide +kernel)
theorem nv_1_10 {M : Mem} (hW : Wf M) : gR M 1 10 = some 6 := hW.fix (by decide +kernel)
theorem nv_2_2 {M : Mem} (hW : Wf M) : gR M 2 2 = some 3 := hW.fix (by decide +kernel)
theorem nv_7_0 {M : Mem} (hW : Wf M) : gR M 7 0 = some 8 := hW.fix (by decide +kernel)
theorem nv_7_1 {M : Mem} (hW : Wf M) : gR M 7 1 = some 10 := hW.fix (by decide +kernel)
theorem nv_7_10 {M : Mem} (hW : Wf M) : gR M 7 10 = some 404 := hW.fix (by decide +kernel)
theorem nv_7_11 {M : Mem} (hW : Wf M) : gR M 7 11 = some 405 := hW.fix (by decide +kernel)
theorem nv_7_12 {M : Mem} (hW : Wf M) : gR M 7 12 = some 442 := hW.fix (by decide +kernel)
theorem nv_7_13 {M : Mem} (hW : Wf M) : gR M 7 13 = some 408 := hW.fix (by decide +kernel)
theorem nv_7_14 {M : Mem} (hW : Wf M) : gR M 7 14 = some 409 := hW.fix (by decide +kernel)
theorem nv_7_15 {M : Mem} (hW : Wf M) : gR M 7 15 = some 446 := hW.fix (by decide +kernel)
theorem nv_8_2 {M : Mem} (hW : Wf M) : gR M 8 2 = some 9 := hW.fix (by decide +kernel)
theorem nv_10_1 {M : Mem} (hW : Wf M) : gR M 10 1 = some 11 := hW.fix (by decide +kernel)
theorem nv_10_2 {M : Mem} (hW : Wf M) : gR M 10 2 = some 12 := hW.fix (by decide +kernel)
theorem nv_10_3 {M : Mem} (hW : Wf M) : gR M 10 3 = some 13 := hW.fix (by decide +kernel)
theorem nv_10_4 {M : Mem} (hW : Wf M) : gR M 10 4 = some 14 := hW.fix (by decide +kernel)
theorem nv_10_7 {M : Mem} (hW : Wf M) : gR M 10 7 = some 18 := hW.fix (by decide +kernel)
theorem nv_10_8 {M : Mem} (hW : Wf M) : gR M 10 8 = some 19 := hW.fix (by decide +kernel)
theorem nv_404_0 {M : Mem} (hW : Wf M) : gR M 404 0 = some 405 := hW.fix (by decide +kernel)
theorem nv_404_1 {M : Mem} (hW : Wf M) : gR M 404 1 = some 442 := hW.fix (by decide +kernel)
theorem nv_404_4 {M : Mem} (hW : Wf M) : gR M 404 4 = some 443 := hW.fix (by decide +kernel)
theorem nv_404_10 {M : Mem} (hW : Wf M) : gR M 404 10 = some 444 := hW.fix (by decide +kernel)
theorem nv_404_11 {M : Mem} (hW : Wf M) : gR M 404 11 = some 445 := hW.fix (by decide +kernel)
theorem nv_405_0 {M : Mem} (hW : Wf M) : gR M 405 0 = some 406 := hW.fix (by decide +kernel)
theorem nv_405_1 {M : Mem} (hW : Wf M) : gR M 405 1 = some 407 := hW.fix (by decide +kernel)
theorem nv_405_2 {M : Mem} (hW : Wf M) : gR M 405 2 = some 408 := hW.fix (by decide +kernel)
theorem nv_405_3 {M : Mem} (hW : Wf M) : gR M 405 3 = some 409 := hW.fix (by decide +kernel)
theorem nv_447_2 {M : Mem} (hW : Wf M) : gR M 447 2 = some 448 := hW.fix (by decide +kernel)
theorem nv_449_0 {M : Mem} (hW : Wf M) : gR M 449 0 = some 450 := hW.fix (by decide +kernel)
theorem nv_449_1 {M : Mem} (hW : Wf M) : gR M 449 1 = some 451 := hW.fix (by decide +kernel)
theorem nv_449_2 {M : Mem} (hW : Wf M) : gR M 449 2 = some 452 := hW.fix (by decide +kernel)
theorem nv_457_0 {M : Mem} (hW : Wf M) : gR M 457 0 = some 458 := hW.fix (by decide +kernel)
theorem nv_457_1 {M : Mem} (hW : Wf M) : gR M 457 1 = some 459 := hW.fix (by decide +kernel)
theorem nv_457_2 {M : Mem} (hW : Wf M) : gR M 457 2 = some 460 := hW.fix (by decide +kernel)
theorem nv_457_3 {M : Mem} (hW : Wf M) : gR M 457 3 = some 461 := hW.fix (by decide +kernel)
theorem nv_494_0 {M : Mem} (hW : Wf M) : gR M 494 0 = some 495 := hW.fix (by decide +kernel)
theorem nv_494_1 {M : Mem} (hW : Wf M) : gR M 494 1 = some 496 := hW.fix (by decide +kernel)
theorem nv_494_2 {M : Mem} (hW : Wf M) : gR M 494 2 = some 497 := hW.fix (by decide +kernel)
theorem nv_494_3 {M : Mem} (hW : Wf M) : gR M 494 3 = some 498 := hW.fix (by decide +kernel)
theorem nv_531_0 {M : Mem} (hW : Wf M) : gR M 531 0 = some 532 := hW.fix (by decide +kernel)
theorem nv_531_1 {M : Mem} (hW : Wf M) : gR M 531 1 = some 533 := hW.fix (by decide +kernel)
theorem nv_531_2 {M : Mem} (hW : Wf M) : gR M 531 2 = some 534 := hW.fix (by decide +kernel)
theorem nv_531_3 {M : Mem} (hW : Wf M) : gR M 531 3 = some 535 := hW.fix (by decide +kernel)
theorem nv_568_0 {M : Mem} (hW : Wf M) : gR M 568 0 = some 569 := hW.fix (by decide +kernel)
theorem nv_568_1 {M : Mem} (hW : Wf M) : gR M 568 1 = some 570 := hW.fix (by decide +kernel)
theorem nv_568_2 {M : Mem} (hW : Wf M) : gR M 568 2 = some 571 := hW.fix (by decide +kernel)
theorem nv_568_3 {M : Mem} (hW : Wf M) : gR M 568 3 = some 572 := hW.fix (by decide +kernel)
theorem nv_605_0 {M : Mem} (hW : Wf M) : gR M 605 0 = some 606 := hW.fix (by decide +kernel)
theorem nv_605_1 {M : Mem} (hW : Wf M) : gR M 605 1 = some 607 := hW.fix (by decide +kernel)
theorem nv_605_3 {M : Mem} (hW : Wf M) : gR M 605 3 = some 608 := hW.fix (by decide +kernel)
theorem nv_605_12 {M : Mem} (hW : Wf M) : gR M 605 12 = some 609 := hW.fix (by decide +kernel)
theorem nv_605_13 {M : Mem} (hW : Wf M) : gR M 605 13 = some 610 := hW.fix (by decide +kernel)
theorem nv_605_14 {M : Mem} (hW : Wf M) : gR M 605 14 = some 611 := hW.fix (by decide +kernel)
theorem nv_605_16 {M : Mem} (hW : Wf M) : gR M 605 16 = some 612 := hW.fix (by decide +kernel)
theorem nv_605_17 {M : Mem} (hW : Wf M) : gR M 605 17 = some 613 := hW.fix (by decide +kernel)
theorem nv_605_18 {M : Mem} (hW : Wf M) : gR M 605 18 = some 614 := hW.fix (by decide +kernel)
theorem nv_605_20 {M : Mem} (hW : Wf M) : gR M 605 20 = some 615 := hW.fix (by decide +kernel)
theorem nv_605_21 {M : Mem} (hW : Wf M) : gR M 605 21 = some 616 := hW.fix (by decide +kernel)
theorem nv_605_22 {M : Mem} (hW : Wf M) : gR M 605 22 = some 617 := hW.fix (by decide +kernel)
theorem nv_605_24 {M : Mem} (hW : Wf M) : gR M 605 24 = some 618 := hW.fix (by decide +kernel)
theorem nv_605_25 {M : Mem} (hW : Wf M) : gR M 605 25 = some 619 := hW.fix (by decide +kernel)
theorem nv_605_26 {M : Mem} (hW : Wf M) : gR M 605 26 = some 620 := hW.fix (by decide +kernel)
theorem nv_605_28 {M : Mem} (hW : Wf M) : gR M 605 28 = some 621 := hW.fix (by decide +kernel)
theorem nv_605_29 {M : Mem} (hW : Wf M) : gR M 605 29 = some 622 := hW.fix (by decide +kernel)
theorem nv_605_30 {M : Mem} (hW : Wf M) : gR M 605 30 = some 623 := hW.fix (by decide +kernel)
theorem nv_605_34 {M : Mem} (hW : Wf M) : gR M 605 34 = some 624 := hW.fix (by decide +kernel)
theorem nv_605_35 {M : Mem} (hW : Wf M) : gR M 605 35 = some 625 := hW.fix (by decide +kernel)
theorem nv_605_36 {M : Mem} (hW : Wf M) : gR M 605 36 = some 626 := hW.fix (by decide +kernel)
theorem nv_605_37 {M : Mem} (hW : Wf M) : gR M 605 37 = some 627 := hW.fix (by decide +kernel)
theorem nv_605_38 {M : Mem} (hW : Wf M) : gR M 605 38 = some 628 := hW.fix (by decide +kernel)
theorem nv_605_39 {M : Mem} (hW : Wf M) : gR M 605 39 = some 629 := hW.fix (by decide +kernel)
theorem nv_605_40 {M : Mem} (hW : Wf M) : gR M 605 40 = some 630 := hW.fix (by decide +kernel)
theorem nv_605_41 {M : Mem} (hW : Wf M) : gR M 605 41 = some 631 := hW.fix (by decide +kernel)
theorem nv_605_43 {M : Mem} (hW : Wf M) : gR M 605 43 = some 632 := hW.fix (by decide +kernel)
theorem nv_605_51 {M : Mem} (hW : Wf M) : gR M 605 51 = some 633 := hW.fix (by decide +kernel)
theorem nv_605_52 {M : Mem} (hW : Wf M) : gR M 605 52 = some 634 := hW.fix (by decide +kernel)
theorem nv_605_53 {M : Mem} (hW : Wf M) : gR M 605 53 = some 635 := hW.fix (by decide +kernel)
theorem nv_605_54 {M : Mem} (hW : Wf M) : gR M 605 54 = some 636 := hW.fix (by decide +kernel)
theorem nv_605_55 {M : Mem} (hW : Wf M) : gR M 605 55 = some 637 := hW.fix (by decide +kernel)
theorem nv_605_56 {M : Mem} (hW : Wf M) : gR M 605 56 = some 638 := hW.fix (by decide +kernel)
theorem nv_605_57 {M : Mem} (hW : Wf M) : gR M 605 57 = some 639 := hW.fix (by decide +kernel)
theorem nv_605_58 {M : Mem} (hW : Wf M) : gR M 605 58 = some 640 := hW.fix (by decide +kernel)
theorem nv_605_61 {M : Mem} (hW : Wf M) : gR M 605 61 = some 641 := hW.fix (by decide +kernel)
theorem nv_605_62 {M : Mem} (hW : Wf M) : gR M 605 62 = some 642 := hW.fix (by decide +kernel)
theorem nv_605_65 {M : Mem} (hW : Wf M) : gR M 605 65 = some 643 := hW.fix (by decide +kernel)
theorem nv_605_66 {M : Mem} (hW : Wf M) : gR M 605 66 = some 644 := hW.fix (by decide +kernel)
theorem nv_605_67 {M : Mem} (hW : Wf M) : gR M 605 67 = some 645 := hW.fix (by decide +kernel)
theorem nv_605_68 {M : Mem} (hW : Wf M) : gR M 605 68 = some 646 := hW.fix (by decide +kernel)
theorem nv_605_72 {M : Mem} (hW : Wf M) : gR M 605 72 = some 647 := hW.fix (by decide +kernel)
theorem nv_605_73 {M : Mem} (hW : Wf M) : gR M 605 73 = some 648 := hW.fix (by decide +kernel)
theorem nv_605_74 {M : Mem} (hW : Wf M) : gR M 605 74 = some 649 := hW.fix (by decide +kernel)
end INTRO
