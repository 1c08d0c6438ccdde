section TOKENS
section
variable {M M' : Mem} {K : RT} {t : Nat → Nat} {n : Nat} {x : TK}
def minL : Int64 := -9223372036854775808
/-- what a token can be -/
def TkOK (t : Nat → Nat) (n : Nat) (x : TK) : Prop := sT x ≤ eT x ∧ eT x ≤ n ∧ (kT x = 119 → sT x < n ∧ eT x = scF t n isWd (sT x) ∧ isLet (t (sT x)) = true) ∧ (kT x = 110 → sT x < n ∧ eT x = scF t n isDig (sT x + 1) ∧ ¬ isLet (t (sT x)) = true ∧ (isDig (t (sT x)) = true ∨ (t (sT x) = 45 ∧ isDig (bN t n (sT x + 1)) = true))) ∧ (oT x = true → kT x = 101) ∧ kT x < 256
theorem tok_ok {p : Nat} (hp : p ≤ n) (h256 : ∀ j, j < n → t j < 256) : TkOK t n (tok t n p) ∧ p ≤ sT (tok t n p) := by
  have h1 := scF_le t n isBl hp
  have h2 := scF_ge t n isBl p
  unfold tok tokA TkOK
  generalize scF t n isBl p = s at h1 h2 ⊢
  split
  · exact ⟨⟨Nat.le_refl s, h1, fun z => absurd (show (101 : Nat) = 119 from z) (by decide), fun z => absurd (show (101 : Nat) = 110 from z) (by decide), fun _ => rfl, show (101 : Nat) < 256 by decide⟩, h2⟩
  · rename_i g1
    split
    · rename_i g2
      exact ⟨⟨scF_ge t n isWd s, scF_le t n isWd h1, fun _ => ⟨by show s < n; omega, rfl, g2⟩, fun z => absurd (show (119 : Nat) = 110 from z) (by decide), fun z => absurd (show false = true from z) (by decide), show (119 : Nat) < 256 by decide⟩, h2⟩
    · rename_i g2
      split
      · rename_i g3
        have := scF_ge t n isDig (s + 1)
        exact ⟨⟨by show s ≤ scF t n isDig (s + 1); omega, scF_le t n isDig (by omega), fun z => absurd (show (110 : Nat) = 119 from z) (by decide), fun _ => ⟨by show s < n; omega, rfl, g2, g3⟩, fun z => absurd (show false = true from z) (by decide), show (110 : Nat) < 256 by decide⟩, h2⟩
      · split
        · rename_i g4
          exact ⟨⟨Nat.le_succ s, by show s + 1 ≤ n; omega, fun z => by have : t s = 119 := z; omega, fun z => by have : t s = 110 := z; omega, fun z => absurd (show false = true from z) (by decide), h256 s (by omega)⟩, h2⟩
        · split
          · split
            · rename_i g6
              have := scF_ge t n noLf s
              exact ⟨⟨by show s ≤ scF t n noLf s + 1; omega, g6, fun z => absurd (show (101 : Nat) = 119 from z) (by decide), fun z => absurd (show (101 : Nat) = 110 from z) (by decide), fun _ => rfl, show (101 : Nat) < 256 by decide⟩, h2⟩
            · exact ⟨⟨scF_ge t n noLf s, scF_le t n noLf h1, fun z => absurd (show (101 : Nat) = 119 from z) (by decide), fun z => absurd (show (101 : Nat) = 110 from z) (by decide), fun _ => rfl, show (101 : Nat) < 256 by decide⟩, h2⟩
          · exact ⟨⟨Nat.le_refl s, h1, fun z => absurd (show (98 : Nat) = 119 from z) (by decide), fun z => absurd (show (98 : Nat) = 110 from z) (by decide), fun z => absurd (show false = true from z) (by decide), show (98 : Nat) < 256 by decide⟩, h2⟩
def ovL (q : Option Int64) : Int64 := match q with | none => minL | some v => v
theorem tk_len (hT : RdT M t n) (hx : TkOK t n x) (hr : TkR x M) : gI M 1 4 - gI M 1 6 = nI (eT x - sT x) := by
  rw [hr.1, hr.2.2.1, pk_sub hx.1]
theorem tk_byte {i : Nat} (hT : RdT M t n) (hi : i < n) : q_X7_byteAt (nI i) M ∧ f_X7_byteAt (nI i) M = nI (t i) ∧ t i < 256 := by
  have hn := hT.1
  obtain ⟨a, b⟩ := byte_f (i := i) hT (by omega)
  rw [if_pos hi] at b
  exact ⟨a, b, (hT.2.2 i hi).2⟩
theorem c_numd {ch m : Nat} (hT : RdT M t n) (hx : TkOK t n x) (hr : TkR x M) (hch : ch < 256) (hm : m ≤ 8) : q_X7_numbered (nI ch) (nI m) M ∧ f_X7_numbered (nI ch) (nI m) M = ovL (nbT t ch m x) := by
  have hn := hT.1
  have hlen := tk_len hT hx hr
  have e5 : gI M 1 5 = 119 ↔ kT x = 119 := by rw [hr.2.1]; exact nI_eq (b := 119) (by have := hx.2.2.2.2.2; omega) (by decide)
  have el : (gI M 1 4 - gI M 1 6) = 2 ↔ eT x - sT x = 2 := by rw [hlen]; exact nI_eq (b := 2) (by have := hx.2.1; omega) (by decide)
  unfold q_X7_numbered f_X7_numbered nbT
  rw [hr.2.2.1] at el ⊢
  by_cases z : kT x = 119
  · obtain ⟨w1, w2, w3⟩ := hx.2.2.1 z
    rw [if_pos (e5.mpr z)]
    by_cases y : eT x - sT x = 2
    · have hx2 := hx.2.1
      obtain ⟨b1, b2, b3⟩ := tk_byte (i := sT x) hT w1
      obtain ⟨b4, b5, b6⟩ := tk_byte (i := sT x + 1) hT (by omega)
      rw [if_pos (el.mpr y), b2, nI_1, b5]
      refine ⟨fun _ _ => ⟨b1, fun _ => b4⟩, ?_⟩
      have ech : nI (t (sT x)) = nI ch ↔ t (sT x) = ch := nI_eq (by omega) (by omega)
      by_cases v : t (sT x) = ch
      · rw [if_pos (ech.mpr v)]
        have ei : nI (t (sT x + 1)) - (48 : Int32) = iI ((t (sT x + 1) : Int) - 48) := by rw [← iI_sub]; rfl
        have e0 : iI ((t (sT x + 1) : Int) - 48) < 0 ↔ t (sT x + 1) < 48 := by
          rw [Int32.lt_iff_toInt_lt, iI_toInt (by omega) (by omega)]
          have : (0 : Int32).toInt = 0 := rfl
          omega
        have e1 : nI m ≤ iI ((t (sT x + 1) : Int) - 48) ↔ 48 + m ≤ t (sT x + 1) := by
          rw [Int32.le_iff_toInt_le, iI_toInt (by omega) (by omega), nI_toInt (by omega)]
          omega
        rw [ei]
        by_cases u : t (sT x + 1) < 48
        · rw [if_pos (e0.mpr u), if_neg (fun g => by omega)]
          rfl
        · rw [if_neg (fun g => u (e0.mp g))]
          by_cases g : 48 + m ≤ t (sT x + 1)
          · rw [if_pos (e1.mpr g), if_neg (fun f => by omega)]
            rfl
          · rw [if_neg (fun f => g (e1.mp f)), if_pos ⟨z, y, v, by omega, by omega⟩]
            have : iI ((t (sT x + 1) : Int) - 48) = nI (t (sT x + 1) - 48) := by
              rw [← ei, show (48 : Int32) = nI 48 from rfl, pk_sub (by omega)]
            rw [this, nI_toL (by omega)]
            rfl
      · rw [if_neg (fun g => v (ech.mp g)), if_neg (fun g => v g.2.2.1)]
        rfl
    · rw [if_neg (fun g => y (el.mp g)), if_neg (fun g => y g.2.1)]
      exact ⟨fun _ g => absurd (el.mp g) y, rfl⟩
  · rw [if_neg (fun g => z (e5.mp g)), if_neg (fun g => z g.1)]
    exact ⟨fun g => absurd (e5.mp g) z, rfl⟩
theorem kd_ix : ∀ b ∈ List.range 256, ixJ (tI 100297) b = if kdN b < 7 then nI (kdN b) else -1 := by decide +kernel
theorem c_kind (hW : Wf M) (hT : RdT M t n) (hx : TkOK t n x) (hr : TkR x M) (h : K (some (.long (ovL (kdT t x)))) M) : sp_X7_kind [.ref 1] M K := by
  have hn := hT.1
  have hlen := tk_len hT hx hr
  have e5 : gI M 1 5 = 119 ↔ kT x = 119 := by rw [hr.2.1]; exact nI_eq (b := 119) (by have := hx.2.2.2.2.2; omega) (by decide)
  have el : (gI M 1 4 - gI M 1 6) = 1 ↔ eT x - sT x = 1 := by rw [hlen]; exact nI_eq (b := 1) (by have := hx.2.1; omega) (by decide)
  unfold kdT at h
  refine wX7_kind hW (fun {G} hc => ⟨fun z => ?_, fun z => ⟨fun y => ?_, fun y => ?_⟩⟩)
  · rw [if_neg (fun g => z (e5.mpr g.1))] at h; exact h
  · have z := e5.mp z
    have y := el.mp y
    obtain ⟨w1, w2, w3⟩ := hx.2.2.1 z
    obtain ⟨b1, b2, b3⟩ := tk_byte (i := sT x) hT w1
    rw [hr.2.2.1, b2, nI_char b3]
    refine ⟨b1, c_indexOf hW isTx_kinds b3 (rX7_kind_26_6 hc hW ?_)⟩
    rw [kd_ix _ (List.mem_range.mpr b3)]
    by_cases v : kdN (t (sT x)) < 7
    · rw [if_pos ⟨z, y, v⟩] at h
      rw [if_pos v, nI_toL (by omega)]
      exact ⟨fun _ => h, fun g => absurd (nI_pos' (by omega)) g⟩
    · rw [if_neg (fun g => v g.2.2)] at h
      rw [if_neg v]
      exact ⟨fun g => absurd g (by decide), fun _ => h⟩
  · rw [if_neg (fun g => y (el.mpr g.2.1))] at h; exact h
theorem dgV_lt : ∀ (f p v b : Nat), (∀ i, p ≤ i → i < p + f → t i - 48 < 10) → v < 10 ^ b → dgV t f p v < 10 ^ (b + f) := by
  intro f
  induction f with
  | zero => intro p v b _ h; exact h
  | succ f ih =>
    intro p v b h1 h2
    have := h1 p (Nat.le_refl _) (by omega)
    have e : 10 ^ (b + 1) = 10 ^ b * 10 := Nat.pow_succ 10 b
    have := ih (p + 1) (v * 10 + (t p - 48)) (b + 1) (fun i a c => h1 i (by omega) (by omega)) (by omega)
    rw [show b + (f + 1) = b + 1 + f by omega]
    exact this
theorem lN_m10 (v d : Nat) : lN v * (10 : Int64) + lN d = lN (v * 10 + d) := by
  rw [show (10 : Int64) = lN 10 from rfl]
  have : lN v * lN 10 = lN (v * 10) := (Int64.ofNat_mul v 10).symm
  rw [this, wb_ad]
theorem nm_dig (hx : TkOK t n x) (hk : kT x = 110) : sT x ≤ nfT t x ∧ nfT t x ≤ sT x + 1 ∧ nfT t x < eT x ∧ ∀ i, nfT t x ≤ i → i < eT x → isDig (t i) = true := by
  obtain ⟨w1, w2, w3, w4⟩ := hx.2.2.2.1 hk
  have hge := scF_ge t n isDig (sT x + 1)
  unfold nfT isNeg
  by_cases z : t (sT x) = 45
  · rw [if_pos (decide_eq_true z)]
    have hd : isDig (bN t n (sT x + 1)) = true := by
      rcases w4 with y | y
      · rw [z] at y; exact absurd y (by decide)
      · exact y.2
    have hlt : sT x + 1 < n := by
      unfold bN at hd
      by_cases y : sT x + 1 < n
      · exact y
      · rw [if_neg y] at hd; exact absurd hd (by decide)
    have : sT x + 1 < eT x := by
      unfold bN at hd
      rw [if_pos hlt] at hd
      rw [w2, scF_t t n isDig hlt hd]
      have := scF_ge t n isDig (sT x + 1 + 1)
      omega
    exact ⟨by omega, by omega, this, fun i h1 h2 => (scF_in t n isDig h1 (by rw [← w2]; exact h2)).2⟩
  · rw [if_neg (fun y => z (of_decide_eq_true y))]
    refine ⟨Nat.le_refl _, by omega, by omega, fun i h1 h2 => ?_⟩
    by_cases y : i = sT x
    · subst y
      rcases w4 with u | u
      · exact u
      · exact absurd u.1 z
    · exact (scF_in t n isDig (p := sT x + 1) (by omega) (by rw [← w2]; exact h2)).2
theorem c_numO {lo hi : Int} (hlo : -9223372036854775807 ≤ lo ∧ lo ≤ 1) (hhi : 0 ≤ hi ∧ hi ≤ 9223372036854775807) (hW : Wf M) (hT : RdT M t n) (hx : TkOK t n x) (hr : TkR x M) (h : K (some (.long (ovL (nmT t lo hi x)))) M) : sp_X7_number [.ref 1, .long (Int64.ofInt lo), .long (Int64.ofInt hi)] M K := by
  have hn := hT.1
  have e5 : gI M 1 5 = 110 ↔ kT x = 110 := by rw [hr.2.1]; exact nI_eq (b := 110) (by have := hx.2.2.2.2.2; omega) (by decide)
  unfold nmT at h
  refine wX7_number hW (fun {G} hc => ⟨fun z => ?_, fun z => by rw [if_neg (fun g => z (e5.mpr g.1))] at h; exact h⟩)
  have z := e5.mp z
  obtain ⟨w1, w2, w3, w4⟩ := hx.2.2.2.1 z
  obtain ⟨d1, d2, d3, d4⟩ := nm_dig hx z
  obtain ⟨b1, b2, b3⟩ := tk_byte (i := sT x) hT w1
  have hen := hx.2.1
  have tooLong : ¬ eT x - nfT t x ≤ 18 → K (some (.long minL)) M := fun y => by rw [if_neg (fun g => y g.2.1)] at h; exact h
  -- the digits
  have main : eT x - nfT t x ≤ 18 → ∀ s0 : Int32, (s0 = 0 ↔ isNeg t x = false) → ∀ o6 : Option Value, (∀ j q : Nat, q + j = eT x → nfT t x ≤ q → ∀ v, dgV t j q v = dgV t (eT x - nfT t x) (nfT t x) 0 → ∀ o6, G 76 [some (.ref 1), some (.long (Int64.ofInt lo)), none, some (.long (Int64.ofInt hi)), none, some (.int s0), o6, some (.long (lN v)), none, some (.int (nI q))] [] M) := by
    intro hlen s0 hs0 _ j
    induction j with
    | zero =>
      intro q hq hq2 v hv o6
      have hv : v = dgV t (eT x - nfT t x) (nfT t x) 0 := hv
      have hlt : v < 10 ^ 18 := by
        rw [hv]
        have := dgV_lt (t := t) (eT x - nfT t x) (nfT t x) 0 0 (fun i a c => by have := d4 i a (by omega); unfold isDig at this; have := of_decide_eq_true this; omega) (by decide)
        exact Nat.lt_of_lt_of_le this (Nat.pow_le_pow_right (by decide) (by omega))
      have hq : q = eT x := by omega
      have nmv : nmV t x = if isNeg t x = true then -(v : Int) else v := by unfold nmV; rw [hv]
      have hV : -(10 : Int) ^ 18 < nmV t x ∧ nmV t x < (10 : Int) ^ 18 := by rw [nmv]; split <;> omega
      have hIV : (Int64.ofInt (nmV t x)).toInt = nmV t x := Int64.toInt_ofInt_of_le (by omega) (by omega)
      have hIl : (Int64.ofInt lo).toInt = lo := Int64.toInt_ofInt_of_le (by omega) (by omega)
      have hIh : (Int64.ofInt hi).toInt = hi := Int64.toInt_ofInt_of_le (by omega) (by omega)
      have fin : G 123 [some (.ref 1), some (.long (Int64.ofInt lo)), none, some (.long (Int64.ofInt hi)), none, some (.int s0), o6, some (.long (lN v)), none, some (.int (nI q))] [.long (Int64.ofInt (nmV t x))] M := by
        refine eX7_number_123 hc hW ⟨fun y => ?_, fun y => ⟨fun u => ?_, fun u => ?_⟩⟩
        · rw [Int64.lt_iff_toInt_lt, hIV, hIl] at y
          rw [if_neg (fun g => by omega)] at h
          exact h
        · rw [Int64.lt_iff_toInt_lt, hIV, hIh] at u
          rw [if_neg (fun g => by omega)] at h
          exact h
        · rw [Int64.lt_iff_toInt_lt, hIV, hIl] at y
          rw [Int64.lt_iff_toInt_lt, hIV, hIh] at u
          rw [if_pos ⟨z, hlen, by omega, by omega⟩] at h
          exact h
      refine eX7_number_76 hc hW ?_
      rw [hr.1]
      refine ⟨fun _ => ⟨fun y => ?_, fun y => ?_⟩, fun y => absurd (nI_le (by omega) (by omega)) y⟩
      · have y := hs0.mp y
        rw [y] at nmv
        have : lN v = Int64.ofInt (nmV t x) := by rw [nmv]; rfl
        rw [this] at fin ⊢
        exact fin
      · have y : isNeg t x = true := by
          cases g : isNeg t x with
          | true => rfl
          | false => exact absurd (hs0.mpr g) y
        rw [y] at nmv
        have : -lN v = Int64.ofInt (nmV t x) := by rw [nmv, if_pos rfl, Int64.ofInt_neg]; rfl
        rw [this]
        exact fin
    | succ j ih =>
      intro q hq hq2 v hv o6
      obtain ⟨c1, c2, c3⟩ := tk_byte (i := q) hT (by omega)
      refine eX7_number_76 hc hW ?_
      rw [hr.1, c2]
      refine ⟨fun y => absurd ((nI_leI (by omega) (by omega)).mp y) (by omega), fun _ => ⟨c1, fun y1 hy1 => ?_⟩⟩
      have hd := d4 q hq2 (by omega)
      unfold isDig at hd
      have hd := of_decide_eq_true hd
      rw [show (48 : Int32) = nI 48 from rfl, pk_sub (by omega), nI_toL (by omega), lN_m10] at hy1
      rw [hy1, nI_1]
      exact ih (q + 1) (by omega) (by omega) _ hv _
  rw [hr.2.2.1, b2]
  have e45 : nI (t (sT x)) = 45 ↔ t (sT x) = 45 := nI_eq (b := 45) (by omega) (by decide)
  have hneg : isNeg t x = true ↔ t (sT x) = 45 := by unfold isNeg; exact decide_eq_true_iff
  rw [e45]
  refine ⟨b1, fun y => eX7_number_31 hc hW ?_, fun y => eX7_number_31 hc hW ?_⟩
  · have y2 : isNeg t x = false := by
      cases g : isNeg t x with
      | true => exact absurd (hneg.mp g) y
      | false => rfl
    have ef : nfT t x = sT x := by unfold nfT; rw [y2]; rfl
    rw [ef] at main tooLong d3
    rw [tk_len hT hx hr, show (18 : Int32) = nI 18 from rfl, nI_leI (by omega) (by omega), hr.2.2.1]
    refine ⟨fun _ => ⟨fun g => main g 0 ⟨fun _ => y2, fun _ => rfl⟩ none _ (sT x) (by omega) (Nat.le_refl _) 0 rfl _, tooLong⟩, fun g => absurd rfl g⟩
  · have y2 : isNeg t x = true := hneg.mpr y
    have ef : nfT t x = sT x + 1 := by unfold nfT; rw [if_pos y2]
    rw [ef] at main tooLong d3
    have e18 : nI (eT x) - nI (sT x + 1) ≤ (18 : Int32) ↔ eT x - (sT x + 1) ≤ 18 := by rw [pk_sub (by omega), show (18 : Int32) = nI 18 from rfl, nI_leI (by omega) (by omega)]
    rw [hr.2.2.1, nI_1, hr.1, e18]
    refine ⟨fun g => absurd g (by decide), fun _ => ⟨fun g => main g 1 ⟨fun u => absurd u (by decide), fun u => by rw [y2] at u; exact absurd u (by decide)⟩ none _ (sT x + 1) (by omega) (Nat.le_refl _) 0 rfl _, tooLong⟩⟩
theorem ov_ne {L : Nat} {v : Int64} (hn : n ≤ 4000) (hx : TkOK t n x) (hL : L < 128) (h : opT t L x = some v) : v ≠ minL := by
  have small : ∀ q : Nat, q < 2 ^ 63 → lN q ≠ minL := fun q hq z => by
    have := congrArg Int64.toInt z
    rw [lN_ti (by omega), if_pos hq] at this
    have e : minL.toInt = -9223372036854775808 := by decide
    omega
  by_cases z : L = 78
  · subst z
    have h : nmT t (-9223372036854775807) 9223372036854775807 x = some v := h
    unfold nmT at h
    split at h
    · rename_i g
      intro w
      rw [← Option.some.inj h] at w
      have := congrArg Int64.toInt w
      rw [Int64.toInt_ofInt_of_le (by omega) (by omega)] at this
      have e : minL.toInt = -9223372036854775808 := by decide
      omega
    · exact absurd h (by simp)
  · unfold opT at h
    split at h
    · obtain ⟨q, q1, q2⟩ := nbT_ok h; rw [q2]; exact small q (by omega)
    · split at h
      · obtain ⟨q, q1, q2⟩ := nbT_ok h; rw [q2]; exact small q (by omega)
      · split at h
        · obtain ⟨q, q1, q2⟩ := nbT_ok h; rw [q2]; exact small q (by omega)
        · split at h
          · obtain ⟨q, q1, q2⟩ := kdT_ok h; rw [q2]; exact small q (by omega)
          · split at h
            · split at h
              · have := hx.1; have := hx.2.1
                rw [← Option.some.inj h]; exact small _ (by omega)
              · exact absurd h (by simp)
            · split at h
              · obtain ⟨q, q1, q2, q3⟩ := nmT_ok (by decide) h; rw [q3]; exact small q (by omega)
              · split at h
                · obtain ⟨q, q1, q2, q3⟩ := nmT_ok (by decide) h; rw [q3]; exact small q (by omega)
                · split at h
                  · obtain ⟨q, q1, q2, q3⟩ := nmT_ok (by decide) h; rw [q3]; exact small q (by omega)
                  · obtain ⟨q, q1, q2⟩ := nbT_ok h; rw [q2]; exact small q (by omega)
theorem c_operand {L : Nat} (hW : Wf M) (hT : RdT M t n) (hx : TkOK t n x) (hr : TkR x M) (hL : L < 128) (h : K (some (.long (ovL (opT t L x)))) M) : sp_X7_operand [.ref 1, .int (nI L)] M K := by
  have hn := hT.1
  have N : ∀ ch m, ch < 256 → m ≤ 8 → opT t L x = nbT t ch m x → (q_X7_numbered (nI ch) (nI m) M) ∧ K (some (.long (f_X7_numbered (nI ch) (nI m) M))) M := fun ch m h1 h2 e => by
    obtain ⟨a, b⟩ := c_numd (ch := ch) (m := m) hT hx hr h1 h2
    rw [e] at h
    rw [b]
    exact ⟨a, h⟩
  have E : ∀ c : Nat, c < 128 → (nI L = nI c → L = c) := fun c hc => (nI_eq (by omega) (by omega)).mp
  refine wX7_operand hW (fun {G} hc => ?_)
  refine ⟨fun z => ?_, fun n65 => ?_⟩
  · have z : L = 65 := E 65 (by decide) z
    subst z
    exact N 97 8 (by decide) (by decide) rfl
  refine ⟨fun z => ?_, fun n66 => ?_⟩
  · have z : L = 66 := E 66 (by decide) z
    subst z
    exact N 118 8 (by decide) (by decide) rfl
  refine ⟨fun z => ?_, fun n67 => ?_⟩
  · have z : L = 67 := E 67 (by decide) z
    subst z
    exact N 118 8 (by decide) (by decide) rfl
  refine ⟨fun z => ?_, fun n68 => ?_⟩
  · have z : L = 68 := E 68 (by decide) z
    subst z
    exact N 118 8 (by decide) (by decide) rfl
  refine ⟨fun z => ?_, fun n69 => ?_⟩
  · have z : L = 69 := E 69 (by decide) z
    subst z
    exact N 118 8 (by decide) (by decide) rfl
  refine ⟨fun z => ?_, fun n70 => ?_⟩
  · have z : L = 70 := E 70 (by decide) z
    subst z
    exact N 118 8 (by decide) (by decide) rfl
  refine ⟨fun z => ?_, fun n71 => ?_⟩
  · have z : L = 71 := E 71 (by decide) z
    subst z
    exact N 118 8 (by decide) (by decide) rfl
  refine ⟨fun z => ?_, fun n72 => ?_⟩
  · have z : L = 72 := E 72 (by decide) z
    subst z
    exact N 118 8 (by decide) (by decide) rfl
  refine ⟨fun z => ?_, fun n73 => ?_⟩
  · have z : L = 73 := E 73 (by decide) z
    subst z
    exact N 118 8 (by decide) (by decide) rfl
  refine ⟨fun z => ?_, fun n74 => ?_⟩
  · have z : L = 74 := E 74 (by decide) z
    subst z
    exact N 118 8 (by decide) (by decide) rfl
  refine ⟨fun z => ?_, fun n75 => ?_⟩
  · have z : L = 75 := E 75 (by decide) z
    subst z
    exact c_kind hW hT hx hr (rX7_operand_126_1 hc hW h)
  refine ⟨fun z => ?_, fun n76 => ?_⟩
  · have z : L = 76 := E 76 (by decide) z
    subst z
    have e : opT t 76 x = (if kT x = 119 ∧ eT x - sT x ≤ 12 then some (lN (sT x)) else none) := rfl
    rw [e] at h
    have e5 : gI M 1 5 = 119 ↔ kT x = 119 := by rw [hr.2.1]; exact nI_eq (b := 119) (by have := hx.2.2.2.2.2; omega) (by decide)
    have hxe := hx.2.1
    rw [e5, tk_len hT hx hr, show (12 : Int32) = nI 12 from rfl, nI_ltI (by omega) (by omega), hr.2.2.1, nI_toL (by have := hx.1; omega)]
    refine ⟨fun z => by rw [if_neg (fun g => z g.1)] at h; exact h, fun z => ⟨fun y => by rw [if_neg (fun g => by omega)] at h; exact h, fun y => by rw [if_pos ⟨z, by omega⟩] at h; exact h⟩⟩
  refine ⟨fun z => ?_, fun n77 => ?_⟩
  · have z : L = 77 := E 77 (by decide) z
    subst z
    exact N 109 4 (by decide) (by decide) rfl
  refine ⟨fun z => ?_, fun n78 => ?_⟩
  · have z : L = 78 := E 78 (by decide) z
    subst z
    have h : K (some (.long (ovL (nmT t (-9223372036854775807) 9223372036854775807 x)))) M := h
    have e1 : (-9223372036854775807 : Int64) = Int64.ofInt (-9223372036854775807) := by decide
    have e2 : (9223372036854775807 : Int64) = Int64.ofInt 9223372036854775807 := by decide
    rw [e1, e2]
    exact c_numO (by decide) (by decide) hW hT hx hr (rX7_operand_193_3 hc hW h)
  refine ⟨fun z => ?_, fun n79 => ?_⟩
  · have z : L = 79 := E 79 (by decide) z
    subst z
    exact N 118 8 (by decide) (by decide) rfl
  refine ⟨fun z => ?_, fun n80 => ?_⟩
  · have z : L = 80 := E 80 (by decide) z
    subst z
    exact c_numO (lo := 0) (hi := 31) (by decide) (by decide) hW hT hx hr (rX7_operand_175_3 hc hW h)
  refine ⟨fun z => ?_, fun n81 => ?_⟩
  · have z : L = 81 := E 81 (by decide) z
    subst z
    exact N 118 8 (by decide) (by decide) rfl
  refine ⟨fun z => ?_, fun n82 => ?_⟩
  · have z : L = 82 := E 82 (by decide) z
    subst z
    exact N 118 8 (by decide) (by decide) rfl
  refine ⟨fun z => ?_, fun n83 => ?_⟩
  · have z : L = 83 := E 83 (by decide) z
    subst z
    exact N 115 8 (by decide) (by decide) rfl
  refine ⟨fun z => ?_, fun n84 => ?_⟩
  · have z : L = 84 := E 84 (by decide) z
    subst z
    exact c_numO (lo := 1) (hi := 32) (by decide) (by decide) hW hT hx hr (rX7_operand_166_3 hc hW h)
  refine ⟨fun z => ?_, fun n85 => ?_⟩
  · have z : L = 85 := E 85 (by decide) z
    subst z
    exact c_numO (lo := 0) (hi := 4294967295) (by decide) (by decide) hW hT hx hr (rX7_operand_184_3 hc hW h)
  have F : ∀ c : Nat, ¬ nI L = nI c → L ≠ c := fun c z y => z (by rw [y])
  refine N 118 8 (by decide) (by decide) ?_
  unfold opT
  rw [if_neg (F 77 n77), if_neg (F 83 n83), if_neg (F 65 n65), if_neg (F 75 n75), if_neg (F 76 n76), if_neg (F 84 n84), if_neg (F 80 n80), if_neg (F 85 n85), if_neg (F 78 n78)]
end
end TOKENS
