section RGOOD1
section
variable {M M' : Mem} {K : RT} {n i : Nat} {c : Nat → Nat → Int64}
def mayW (n : Nat) (c : Nat → Nat → Int64) (i v w : Nat) : Prop := Fa n c i (v * 256 + wq w)
theorem mb_is {v w : Nat} (hF : FlR M n c) (hi : i < 100) (hv : v < 8) (hw : w < 225) : q_X13_mayBe (nI i) (nI v) (nI w) M ∧ (f_X13_mayBe (nI i) (nI v) (nI w) M = 0 ↔ ¬ mayW n c i v w) := by
  have e : (1800 : Int32) * nI i + (225 : Int32) * nI v + nI w = nI (1800 * i + (225 * v + w)) := by
    rw [show (1800 : Int32) = nI 1800 from rfl, show (225 : Int32) = nI 225 from rfl, pk_mul, pk_mul, nI_add, nI_add, Nat.add_assoc]
  unfold q_X13_mayBe f_X13_mayBe
  rw [e, nI_clamp (by omega)]
  have h01 := hF.1 648 (1800 * i + (225 * v + w)) (Or.inl ⟨rfl, by omega⟩)
  have hm := hF.2.2 i v w hi hv hw
  refine ⟨⟨vpN (by omega) (by decide), h01⟩, ?_⟩
  unfold mayW
  rw [← hm]
  exact ⟨fun z y => by rw [z] at y; exact absurd y (by decide), fun z => h01.resolve_right z⟩
theorem way_is {p : Nat} (h1 : 1 ≤ p) (h2 : p < 225) : f_X13_kindOf (nI p) = nI ((p - 1) / 32) ∧ f_X13_lengthOf (nI p) = nI ((p - 1) % 32 + 1) := by
  have np : ¬ nI p = 0 := fun z => by have := (nI_eq (b := 0) (by omega) (by decide)).mp z; omega
  have e1 : nI p - (1 : Int32) = nI (p - 1) := pk_sub (b := 1) (by omega)
  unfold f_X13_kindOf f_X13_lengthOf
  rw [if_neg np, if_neg np, e1, show (32 : Int32) = nI 32 from rfl, pk_div (by omega) (by decide) (by decide)]
  refine ⟨rfl, ?_⟩
  have := pk_rem (a := p - 1) (d := 32) (by omega) (by decide) (by decide)
  rw [pk_div (by omega) (by decide) (by decide)] at this
  rw [this, nI_1]
/-- the third register's way -/
def rw3 (o p : Nat) : Nat := if o = 34 then 97 + (p - 1) % 32 else p
theorem rw3_lt {o p : Nat} (h1 : 1 ≤ p) (h2 : p < 225) : 1 ≤ rw3 o p ∧ rw3 o p < 225 ∧ (rw3 o p - 1) % 32 = (p - 1) % 32 := by unfold rw3; split <;> omega
/-- ways p and q are right -/
def gby (n : Nat) (c : Nat → Nat → Int64) (i p q : Nat) : Prop :=
  (1 < cntR (cn (c i) 0) 4 → rgN (cn (c i) 0) (c i) 1 = rgN (cn (c i) 0) (c i) 0 → q = p) ∧
  (2 < cntR (cn (c i) 0) 4 → mayW n c i (rgN (cn (c i) 0) (c i) 2) (rw3 (cn (c i) 0) p) ∧ (rgN (cn (c i) 0) (c i) 2 = rgN (cn (c i) 0) (c i) 0 → rw3 (cn (c i) 0) p = p) ∧ (rgN (cn (c i) 0) (c i) 2 = rgN (cn (c i) 0) (c i) 1 → rw3 (cn (c i) 0) p = q)) ∧
  (cn (c i) 0 = 44 → cn (c i) 3 < (p - 1) % 32 + 1) ∧ (cn (c i) 0 = 45 → cn (c i) 2 < (p - 1) % 32 + 1) ∧
  gdN (cn (c i) 0) ((p - 1) / 32) 0 ((p - 1) / 32) = true ∧ gdN (cn (c i) 0) ((p - 1) / 32) 1 (if 1 < cntR (cn (c i) 0) 4 then (q - 1) / 32 else 8) = true ∧ gdN (cn (c i) 0) ((p - 1) / 32) 2 (if 2 < cntR (cn (c i) 0) 4 then (rw3 (cn (c i) 0) p - 1) / 32 else 8) = true ∧
  (1 < cntR (cn (c i) 0) 4 → (q - 1) % 32 = (p - 1) % 32)
theorem jd0 {o k0 k1 k2 l0 l1 l2 : Nat} (ho : o < 46) (h0 : k0 < 9) (h1 : k1 < 9) (h2 : k2 < 9) (b0 : l0 < 100) (b1 : l1 < 100) (b2 : l2 < 100) : jdI (nI o) (kI k0) (nI l0) (kI k1) (nI l1) (kI k2) (nI l2) = 0 ↔ (gdN o k0 0 k0 = true ∧ gdN o k0 1 k1 = true ∧ gdN o k0 2 k2 = true) ∧ (k1 = 8 ∨ l1 = l0) ∧ (k2 = 8 ∨ l2 = l0) := by
  have g0 := gd_is (o := o) (k0 := k0) (j := 0) (k := k0) (by omega) (by omega) h0 h0
  have g1 := gd_is (o := o) (k0 := k0) (j := 1) (k := k1) (by omega) (by omega) h0 h1
  have g2 := gd_is (o := o) (k0 := k0) (j := 2) (k := k2) (by omega) (by omega) h0 h2
  have g0 : gdP (nI o) (kI k0) 0 (kI k0) ↔ _ := g0
  have g1 : gdP (nI o) (kI k0) 1 (kI k1) ↔ _ := g1
  have g2 : gdP (nI o) (kI k0) 2 (kI k2) ↔ _ := g2
  unfold jdI
  have a1 := (kI_is k1 (List.mem_range.mpr h1)).2.1
  have a2 := (kI_is k2 (List.mem_range.mpr h2)).2.1
  have a3 : nI l1 = nI l0 ↔ l1 = l0 := nI_eq (by omega) (by omega)
  have a4 : nI l2 = nI l0 ↔ l2 = l0 := nI_eq (by omega) (by omega)
  rw [g0, g1, g2]
  by_cases hg : gdN o k0 0 k0 = true ∧ gdN o k0 1 k1 = true ∧ gdN o k0 2 k2 = true
  · rw [iT_t hg]
    by_cases hl : (k1 = 8 ∨ l1 = l0) ∧ (k2 = 8 ∨ l2 = l0)
    · rw [if_pos ⟨hl.1.imp a1.mpr a3.mpr, hl.2.imp a2.mpr a4.mpr⟩]; exact ⟨fun _ => ⟨hg, hl⟩, fun _ => rfl⟩
    · rw [if_neg (fun y => hl ⟨y.1.imp a1.mp a3.mp, y.2.imp a2.mp a4.mp⟩)]; exact ⟨fun z => absurd z (by decide), fun z => absurd z.2 hl⟩
  · rw [iT_f hg]
    exact ⟨fun z => absurd z (by decide), fun z => absurd z.1 hg⟩
theorem l44P : 2 < (opL 44).length ∧ letN 44 2 = 80 ∧ 1 < (opL 45).length ∧ letN 45 1 = 80 := by decide +kernel
theorem c_goodBy13 {p q : Nat} (hW : Wf M) (hC : RC M n c i) (hF : FlR M n c) (h46 : cn (c i) 0 < 46) (p1 : 1 ≤ p) (p2 : p < 225) (q1 : 1 ≤ q) (q2 : q < 225) (h : K (some (.int (pI (gby n c i p q)))) M) : sp_X13_isGoodBy [.ref 605, .int (nI i), .int (nI p), .int (nI q)] M K := by
  have n100 := hC.2.2.1
  have hi := hC.2.2.2.1
  have hv := hC.2.2.2.2
  obtain ⟨o1, o2, o3⟩ := opI hC
  obtain ⟨-, m1, m2⟩ := pos_all (cn (c i) 0) (List.mem_range.mpr h46)
  have m2 := m2.1
  have rl := fun j (hj : j < cntR (cn (c i) 0) 4) => (rg_is h46 hv.vc hj).1
  generalize hm : cntR (cn (c i) 0) 4 = m at m1 m2 rl
  generalize ho : cn (c i) 0 = o at *
  have no : ¬ gby n c i p q → K (some (.int (0 : Int32))) M := fun z => by rw [pI_f z] at h; exact h
  have yes : gby n c i p q → K (some (.int (1 : Int32))) M := fun z => by rw [pI_t z] at h; exact h
  have gb : gby n c i p q ↔ (1 < m → rgN o (c i) 1 = rgN o (c i) 0 → q = p) ∧ (2 < m → mayW n c i (rgN o (c i) 2) (rw3 o p) ∧ (rgN o (c i) 2 = rgN o (c i) 0 → rw3 o p = p) ∧ (rgN o (c i) 2 = rgN o (c i) 1 → rw3 o p = q)) ∧ (o = 44 → cn (c i) 3 < (p - 1) % 32 + 1) ∧ (o = 45 → cn (c i) 2 < (p - 1) % 32 + 1) ∧ gdN o ((p - 1) / 32) 0 ((p - 1) / 32) = true ∧ gdN o ((p - 1) / 32) 1 (if 1 < m then (q - 1) / 32 else 8) = true ∧ gdN o ((p - 1) / 32) 2 (if 2 < m then (rw3 o p - 1) / 32 else 8) = true ∧ (1 < m → (q - 1) % 32 = (p - 1) % 32) := by
    unfold gby
    rw [ho, hm]
  rw [gb] at no yes
  have r0 : regI o (c i) 0 = nI (rgN o (c i) 0) := by unfold regI; rw [hm, if_pos ⟨h46, by omega⟩]
  have r1 : regI o (c i) 1 = if 1 < m then nI (rgN o (c i) 1) else -1 := by
    unfold regI; rw [hm]
    by_cases z : 1 < m
    · rw [if_pos ⟨h46, z⟩, if_pos z]
    · rw [if_neg (fun y => z y.2), if_neg z]
  have r2 : regI o (c i) 2 = if 2 < m then nI (rgN o (c i) 2) else -1 := by
    unfold regI; rw [hm]
    by_cases z : 2 < m
    · rw [if_pos ⟨h46, z⟩, if_pos z]
    · rw [if_neg (fun y => z y.2), if_neg z]
  have b0 := rl 0 (by omega)
  have rr := rw3_lt (o := o) p1 p2
  refine wX13_isGoodBy hW (fun {G} hc => ?_)
  refine c_regOf (k := 0) hW hC (by decide) (rX13_isGoodBy_0_3 hc hW (c_regOf (k := 1) hW hC (by decide) (rX13_isGoodBy_0_8 hc hW (c_regOf (k := 2) hW hC (by decide) (rX13_isGoodBy_0_13 hc hW ?_)))))
  rw [ho, r0]
  obtain ⟨kp, lp⟩ := way_is p1 p2
  obtain ⟨kq, lq⟩ := way_is q1 q2
  obtain ⟨kr, lr⟩ := way_is rr.1 rr.2.1
  have iq : ∀ k, k < 68 → (nI o = nI k ↔ o = k) := fun k hk => nI_eq (by omega) (by omega)
  have i34 : nI o = 34 ↔ o = 34 := iq 34 (by decide)
  have i44 : nI o = 44 ↔ o = 44 := iq 44 (by decide)
  have i45 : nI o = 45 ↔ o = 45 := iq 45 (by decide)
  -- the judgement
  have judge : ∀ (x4 o4 o8 : Option Value), (1 < m → rgN o (c i) 1 = rgN o (c i) 0 → q = p) → (2 < m → mayW n c i (rgN o (c i) 2) (rw3 o p) ∧ (rgN o (c i) 2 = rgN o (c i) 0 → rw3 o p = p) ∧ (rgN o (c i) 2 = rgN o (c i) 1 → rw3 o p = q)) → (o = 44 → cn (c i) 3 < (p - 1) % 32 + 1) → (o = 45 → cn (c i) 2 < (p - 1) % 32 + 1) → G 172 [some (.ref 605), some (.int (nI i)), some (.int (nI p)), some (.int (nI q)), o4, some (.int (regI o (c i) 1)), some (.int (regI o (c i) 2)), some (.int (nI (rw3 o p))), o8] [.int 1] M := by
    intro _ o4 o8 c1 c2 c3 c4
    refine eX13_isGoodBy_172 hc hW ⟨fun z => absurd z (by decide), fun _ => ⟨o1, ?_⟩⟩
    rw [o2, r1, kp, lp]
    -- with the kinds of the second
    have mid : ∀ (k1 : Nat), k1 = (if 1 < m then (q - 1) / 32 else 8) → G 207 [some (.ref 605), some (.int (nI i)), some (.int (nI p)), some (.int (nI q)), o4, some (.int (if 1 < m then nI (rgN o (c i) 1) else -1)), some (.int (regI o (c i) 2)), some (.int (nI (rw3 o p))), some (.int 1)] [.int (kI k1), .int (nI ((p - 1) % 32 + 1)), .int (nI ((p - 1) / 32)), .int (nI o)] M := by
      intro k1 hk1
      have k19 : k1 < 9 := by rw [hk1]; split <;> omega
      have fin : ∀ (k2 : Nat), k2 = (if 2 < m then (rw3 o p - 1) / 32 else 8) → sp_X13_judged [.int (nI o), .int (nI ((p - 1) / 32)), .int (nI ((p - 1) % 32 + 1)), .int (kI k1), .int (nI ((q - 1) % 32 + 1)), .int (kI k2), .int (nI ((rw3 o p - 1) % 32 + 1))] M (fun v M' => RX13_isGoodBy_226_2 G K [some (.ref 605), some (.int (nI i)), some (.int (nI p)), some (.int (nI q)), o4, some (.int (if 1 < m then nI (rgN o (c i) 1) else -1)), some (.int (regI o (c i) 2)), some (.int (nI (rw3 o p))), some (.int 1)] (v.toList ++ []) M') := by
        intro k2 hk2
        have k29 : k2 < 9 := by rw [hk2]; split <;> omega
        have e0 : nI ((p - 1) / 32) = kI ((p - 1) / 32) := (kI7 (by omega)).symm
        rw [e0]
        refine c_judged13 hW (rX13_isGoodBy_226_2 hc hW ?_)
        have e : jdI (nI o) (kI ((p - 1) / 32)) (nI ((p - 1) % 32 + 1)) (kI k1) (nI ((q - 1) % 32 + 1)) (kI k2) (nI ((rw3 o p - 1) % 32 + 1)) = 0 ↔ _ := jd0 (o := o) (k0 := (p - 1) / 32) (k1 := k1) (k2 := k2) (l0 := (p - 1) % 32 + 1) (l1 := (q - 1) % 32 + 1) (l2 := (rw3 o p - 1) % 32 + 1) h46 (by omega) k19 k29 (by omega) (by omega) (by omega)
        rw [e, hk1, hk2]
        refine ⟨fun z => no (fun y => z ⟨⟨y.2.2.2.2.1, y.2.2.2.2.2.1, y.2.2.2.2.2.2.1⟩, ?_, Or.inr (by rw [rr.2.2])⟩), fun z => yes ⟨c1, c2, c3, c4, z.1.1, z.1.2.1, z.1.2.2, fun y => ?_⟩⟩
        · by_cases w : 1 < m
          · exact Or.inr (by rw [y.2.2.2.2.2.2.2 w])
          · rw [if_neg w]; exact Or.inl rfl
        · have z1 := z.2.1
          rw [if_pos y] at z1
          omega
      refine eX13_isGoodBy_207 hc hW ?_
      rw [r2, lq, kr, lr]
      by_cases w : 2 < m
      · rw [if_pos w]
        refine ⟨fun _ => ?_, fun y => absurd (nI_pos' (by have := rl 2 w; omega)) y⟩
        have := fin ((rw3 o p - 1) / 32) (by rw [if_pos w])
        rw [kI7 (show (rw3 o p - 1) / 32 < 7 by omega), r2, if_pos w] at this
        exact this
      · rw [if_neg w]
        refine ⟨fun y => absurd y (by decide), fun _ => ?_⟩
        have := fin 8 (by rw [if_neg w])
        rw [r2, if_neg w] at this
        exact this
    by_cases w : 1 < m
    · rw [if_pos w, kq]
      refine ⟨fun _ => ?_, fun y => absurd (nI_pos' (by have := rl 1 w; omega)) y⟩
      have := mid ((q - 1) / 32) (by rw [if_pos w])
      rw [kI7 (show (q - 1) / 32 < 7 by omega), if_pos w] at this
      exact this
    · rw [if_neg w]
      refine ⟨fun y => absurd y (by decide), fun _ => ?_⟩
      have := mid 8 (by rw [if_neg w])
      rw [if_neg w] at this
      exact this
  -- the bound
  have bound : ∀ (x4 : Option Value) (o8 : Option Value), (1 < m → rgN o (c i) 1 = rgN o (c i) 0 → q = p) → (2 < m → mayW n c i (rgN o (c i) 2) (rw3 o p) ∧ (rgN o (c i) 2 = rgN o (c i) 0 → rw3 o p = p) ∧ (rgN o (c i) 2 = rgN o (c i) 1 → rw3 o p = q)) → (vp_in (nI i) 100 ∧ ((nI o = 44 → G 139 [some (.ref 605), some (.int (nI i)), some (.int (nI p)), some (.int (nI q)), x4, some (.int (regI o (c i) 1)), some (.int (regI o (c i) 2)), some (.int (nI (rw3 o p))), o8] [] M) ∧ (¬ nI o = 44 → (vp_in (nI i) 100 ∧ ((¬ nI o = 45 → G 172 [some (.ref 605), some (.int (nI i)), some (.int (nI p)), some (.int (nI q)), x4, some (.int (regI o (c i) 1)), some (.int (regI o (c i) 2)), some (.int (nI (rw3 o p))), o8] [.int 1] M) ∧ (nI o = 45 → G 139 [some (.ref 605), some (.int (nI i)), some (.int (nI p)), some (.int (nI q)), x4, some (.int (regI o (c i) 1)), some (.int (regI o (c i) 2)), some (.int (nI (rw3 o p))), o8] [] M)))))) := by
    intro x4 o8 c1 c2
    have zero : ¬ ((o = 44 → cn (c i) 3 < (p - 1) % 32 + 1) ∧ (o = 45 → cn (c i) 2 < (p - 1) % 32 + 1)) → G 172 [some (.ref 605), some (.int (nI i)), some (.int (nI p)), some (.int (nI q)), x4, some (.int (regI o (c i) 1)), some (.int (regI o (c i) 2)), some (.int (nI (rw3 o p))), o8] [.int 0] M := fun z =>
      eX13_isGoodBy_172 hc hW ⟨fun _ => no (fun y => z ⟨y.2.2.1, y.2.2.2.1⟩), fun y => absurd rfl y⟩
    have g139 : (o = 44 ∨ o = 45) → G 139 [some (.ref 605), some (.int (nI i)), some (.int (nI p)), some (.int (nI q)), x4, some (.int (regI o (c i) 1)), some (.int (regI o (c i) 2)), some (.int (nI (rw3 o p))), o8] [] M := by
      intro hh
      refine eX13_isGoodBy_139 hc hW ⟨o1, ?_⟩
      rw [o2, i44, lp]
      obtain ⟨l1, l2, l3, l4⟩ := l44P
      refine ⟨fun n44 => ?_, fun y44 => ?_⟩
      · have y45 : o = 45 := by omega
        obtain ⟨u1, u2⟩ := hv.pl (q := 1) (by rw [ho, y45]; exact l3) (by rw [ho, y45]; exact l4)
        have u1 : cn (c i) 2 < 32 := u1
        obtain ⟨w1, w2⟩ := opOf hC (show 1 < 4 by decide) u2
        have w1 : q_X13_operandOf (nI i) 1 M := w1
        have w2 : f_X13_operandOf (nI i) 1 M = nI (cn (c i) 2) := w2
        rw [w2, nI_leI (by omega) (by omega)]
        refine ⟨w1, fun y => zero (fun z => by have := z.2 y45; omega), fun y => judge x4 x4 o8 c1 c2 (fun z => by omega) (fun _ => by omega)⟩
      · obtain ⟨u1, u2⟩ := hv.pl (q := 2) (by rw [ho, y44]; exact l1) (by rw [ho, y44]; exact l2)
        have u1 : cn (c i) 3 < 32 := u1
        obtain ⟨w1, w2⟩ := opOf hC (show 2 < 4 by decide) u2
        have w1 : q_X13_operandOf (nI i) 2 M := w1
        have w2 : f_X13_operandOf (nI i) 2 M = nI (cn (c i) 3) := w2
        rw [w2, nI_leI (by omega) (by omega)]
        refine ⟨w1, fun y => zero (fun z => by have := z.1 y44; omega), fun y => judge x4 x4 o8 c1 c2 (fun _ => by omega) (fun z => by omega)⟩
    rw [i44, i45]
    exact ⟨o1, fun z => g139 (Or.inl z), fun n44 => ⟨o1, fun n45 => judge x4 x4 o8 c1 c2 (fun z => absurd z n44) (fun z => absurd z n45), fun z => g139 (Or.inr z)⟩⟩
  -- the third register
  have third : ∀ o7 o8 : Option Value, (1 < m → rgN o (c i) 1 = rgN o (c i) 0 → q = p) → G 70 [some (.ref 605), some (.int (nI i)), some (.int (nI p)), some (.int (nI q)), some (.int (nI (rgN o (c i) 0))), some (.int (regI o (c i) 1)), some (.int (regI o (c i) 2)), o7, o8] [.int (nI (rw3 o p))] M := by
    intro o7 o8 c1
    refine eX13_isGoodBy_70 hc hW ?_
    rw [o2]
    by_cases w : 2 < m
    · have b2 := rl 2 w
      have b1 := rl 1 (by omega)
      have e2 : regI o (c i) 2 = nI (rgN o (c i) 2) := by rw [r2, if_pos w]
      have e1 : regI o (c i) 1 = nI (rgN o (c i) 1) := by rw [r1, if_pos (by omega)]
      obtain ⟨y1, y2⟩ := mb_is (w := rw3 o p) hF (show i < 100 by omega) b2 rr.2.1
      have bd := bound (some (.int (nI (rgN o (c i) 0)))) o8 c1
      rw [e2, e1] at bd
      rw [e2, e1, y2, nI_eq (by omega) (by omega), nI_eq (by omega) (by omega)]
      refine ⟨fun y => absurd y (nI_pos (by omega)), fun _ => ⟨y1, fun z => no (fun y => z (y.2.1 w).1), fun z => ?_⟩⟩
      have z := Classical.not_not.mp z
      have g102 : (rgN o (c i) 2 = rgN o (c i) 0 → rw3 o p = p) → G 102 [some (.ref 605), some (.int (nI i)), some (.int (nI p)), some (.int (nI q)), some (.int (nI (rgN o (c i) 0))), some (.int (nI (rgN o (c i) 1))), some (.int (nI (rgN o (c i) 2))), some (.int (nI (rw3 o p))), o8] [] M := by
        intro c3
        refine eX13_isGoodBy_102 hc hW ?_
        rw [o2, nI_eq (by omega) (by omega), nI_eq (by omega) (by omega)]
        exact ⟨fun u => bd (fun _ => ⟨z, c3, fun y => absurd y u⟩), fun u => ⟨fun v => bd (fun _ => ⟨z, c3, fun _ => v⟩), fun v => no (fun y => v ((y.2.1 w).2.2 u))⟩⟩
      exact ⟨fun u => g102 (fun y => absurd y u), fun u => ⟨fun v => no (fun y => v ((y.2.1 w).2.1 u)), fun v => g102 (fun _ => v)⟩⟩
    · have e2 : regI o (c i) 2 = -1 := by rw [r2, if_neg w]
      have bd := bound (some (.int (nI (rgN o (c i) 0)))) o8 c1 (fun y => absurd y w)
      rw [e2] at bd ⊢
      exact ⟨fun _ => bd, fun y => absurd (by decide) y⟩
  have g38 : ∀ o7 o8 : Option Value, (1 < m → rgN o (c i) 1 = rgN o (c i) 0 → q = p) → G 38 [some (.ref 605), some (.int (nI i)), some (.int (nI p)), some (.int (nI q)), some (.int (nI (rgN o (c i) 0))), some (.int (regI o (c i) 1)), some (.int (regI o (c i) 2)), o7, o8] [] M := by
    intro o7 o8 c1
    have t := third o7 o8 c1
    refine eX13_isGoodBy_38 hc hW ⟨o1, ?_⟩
    rw [o2, i34]
    have np : ¬ nI p = 0 := fun z => by have := (nI_eq (b := 0) (by omega) (by decide)).mp z; omega
    refine ⟨fun z => ?_, fun z => ⟨fun _ => ?_, fun y => absurd y np⟩⟩
    · unfold rw3 at t
      rw [if_neg z] at t
      have e : rw3 o p = p := by unfold rw3; rw [if_neg z]
      exact t
    · unfold rw3 at t
      rw [if_pos z] at t
      have e : (97 : Int32) + f_X13_lengthOf (nI p) - 1 = nI (97 + (p - 1) % 32) := by
        rw [lp, show (97 : Int32) = nI 97 from rfl, nI_add, show (1 : Int32) = nI 1 from rfl, pk_sub (by omega)]
        congr 1
      rw [e]
      exact t
  by_cases w : 1 < m
  · have b1 := rl 1 w
    have e1 : regI o (c i) 1 = nI (rgN o (c i) 1) := by rw [r1, if_pos w]
    rw [e1] at g38 ⊢
    rw [nI_eq (by omega) (by omega), nI_eq (by omega) (by omega)]
    exact ⟨fun u => g38 _ _ (fun _ y => absurd y u), fun u => ⟨fun v => g38 _ _ (fun _ _ => v), fun v => no (fun y => v (y.1 w u))⟩⟩
  · have e1 : regI o (c i) 1 = -1 := by rw [r1, if_neg w]
    rw [e1] at g38 ⊢
    refine ⟨fun _ => g38 _ _ (fun y => absurd y w), fun u => ?_⟩
    have : nI (rgN o (c i) 0) < 0 := by rw [← u]; decide
    exact absurd this (nI_pos (by omega))
end
end RGOOD1
