section INIT2
variable {M M0 : Mem} {K : RT} {a : Nat}
theorem eR_regs (h7 : (Sh a).1 = 7) : XI M (a + 1) ↔ OB M (a + 1) z0 (fun t => if t < 8 then some (a + 5 + 4 * t) else none) := by
  obtain ⟨s1, s2, s3, s4⟩ := Sst h7
  have k1 : (Sh (a + 1)).1 = 16 := by rw [s1]
  have n442 := ne_kind h7 442 (by decide +kernel)
  have S := S443
  have e1 : eI (a + 1) = z0 := eI_z (by omega) (by omega) (ne_kind k1 7 (by omega))
  have e2 : eR (a + 1) = fun t => if t < 8 then some (a + 5 + 4 * t) else none := by
    rw [eR_fx (by omega) (ne_kind k1 404 (by omega)) (ne_kind k1 10 (by omega)) (ne_kind k1 18 (by omega)) (ne_kind k1 19 (by omega))]
    funext t
    by_cases w : t < 8
    · rw [if_pos w]; exact (tab_stR a (Sh_lt' h7 (by decide)) h7 t w).1
    · rw [if_neg w]
      unfold fx
      simp only [k1]
      simp [w]
  unfold XI
  rw [e1, e2]
theorem eR_arrs (h7 : (Sh a).1 = 7) : XI M (a + 2) ↔ OB M (a + 2) z0 (fun t => if t < 8 then some (a + 7 + 4 * t) else none) := by
  obtain ⟨s1, s2, s3, s4⟩ := Sst h7
  have k1 : (Sh (a + 2)).1 = 16 := by rw [s2]
  have n441 := ne_kind h7 441 (by decide +kernel)
  have S := S443
  have e1 : eI (a + 2) = z0 := eI_z (by omega) (by omega) (ne_kind k1 7 (by omega))
  have e2 : eR (a + 2) = fun t => if t < 8 then some (a + 7 + 4 * t) else none := by
    rw [eR_fx (by omega) (ne_kind k1 404 (by omega)) (ne_kind k1 10 (by omega)) (ne_kind k1 18 (by omega)) (ne_kind k1 19 (by omega))]
    funext t
    by_cases w : t < 8
    · rw [if_pos w]; exact (tab_stR a (Sh_lt' h7 (by decide)) h7 t w).2.1
    · rw [if_neg w]
      unfold fx
      simp only [k1]
      simp [w]
  unfold XI
  rw [e1, e2]
theorem eR_st (h7 : (Sh a).1 = 7) : up1 (up1 (up1 (up1 rn 0 (some (a + 1))) 1 (some (a + 2))) 2 (some (a + 3))) 3 (some (a + 4)) = eR a := by
  rw [eR_7 h7]
  funext k
  match k with
  | 0 => rfl
  | 1 => rfl
  | 2 => rfl
  | 3 => rfl
  | k + 4 => simp [up1, rn]
theorem c_ini10 (h7 : (Sh a).1 = 7) (hN : M.1 = (a + 1, true)) (h0 : OB M a z0 rn) (h : Ini 36 a M K) : sp_X10_init [.ref a] M K := by
  refine ⟨Nat.le_of_ble_eq_true rfl, fun G hc => ?_⟩
  rw [t1_is hN] at hc
  obtain ⟨s1, s2, s3, s4⟩ := Sst h7
  have loop : ∀ f i : Nat, i + f = 8 → ∀ (M1 : Mem) (r : Nat → Option Nat) (E : Nat → Prop), OP M M1 a (a + 5 + 4 * i) z0 r E → r = eR a → E (a + 1) → E (a + 2) → (∀ b, E b → b = a + 1 ∨ b = a + 2) → OB M1 (a + 1) z0 (fun t => if t < i then some (a + 5 + 4 * t) else none) → OB M1 (a + 2) z0 (fun t => if t < i then some (a + 7 + 4 * t) else none) → G 39 [some (.ref a), some (.int (nI i))] [] M1 := by
    intro f
    induction f with
    | zero =>
      intro i hi M1 r E p hr e1 e2 eo o1 o2
      have hi : i = 8 := by omega
      subst hi
      refine hc.2.1 _ _ _ (i_iload rfl (i_ic (i_icmp_ge (fun _ => hc.2.2.2 _ _ _ (p.done (eI_z (by omega) (by omega) (ne_kind h7 7 (by have := S443; omega))).symm hr (fun b hb _ _ => ?_) (by omega) rfl h)) (fun z => absurd (by decide) z))))
      rcases eo b hb with e | e
      · subst e; exact (eR_regs h7).mpr o1
      · subst e; exact (eR_arrs h7).mpr o2
    | succ f ih =>
      intro i hi M1 r E p hr e1 e2 eo o1 o2
      refine hc.2.1 _ _ _ (i_iload rfl (i_ic (i_icmp_ge (fun z => absurd ((nI_leI (a := 8) (by decide) (by omega)).mp z) (by omega)) (fun _ => hc.2.2.1 _ _ _ ?_))))
      have g0 : gR M1 a 0 = some (a + 1) := by rw [p.gr, hr, eR_7 h7]; rfl
      have r5 := SstR (k := i) h7 (by omega)
      have r7 := SstA (k := i) h7 (by omega)
      refine i_aload rfl (i_getR (okI p.1 h7 p.2.2.2.2) g0 (i_iload rfl (st_subA (f := fun t => a + 5 + 4 * t) p (fun M1 K1 x y z => c_ini8 r5 x y z) r5 (Nat.le_of_ble_eq_true rfl) (by show a + 5 + 4 * i + 1 + 1 ≤ a + 1 + 36; omega) e1 (by omega) (by omega) s1 (show i < 8 by omega) (by decide) rfl o1 rfl (fun M2 p2 o12 f2 => ?_))))
      have ek : a + 5 + 4 * i + 1 + 1 = a + 7 + 4 * i := by omega
      rw [ek] at p2
      have g1 : gR M2 a 1 = some (a + 2) := by rw [p2.gr, hr, eR_7 h7]; rfl
      have o22 := f2 (a + 2) _ _ (by omega) (by omega) o2
      refine i_aload rfl (i_getR (okI p2.1 h7 p2.2.2.2.2) g1 (i_iload rfl (st_subA (f := fun t => a + 7 + 4 * t) p2 (fun M1 K1 x y z => c_ini8 r7 x y z) r7 (Nat.le_of_ble_eq_true rfl) (by show a + 7 + 4 * i + 1 + 1 ≤ a + 1 + 36; omega) e2 (by omega) (by omega) s2 (show i < 8 by omega) (by decide) rfl o22 rfl (fun M3 p3 o23 f3 => i_iinc rfl ?_))))
      have ek2 : a + 7 + 4 * i + 1 + 1 = a + 5 + 4 * (i + 1) := by omega
      rw [ek2] at p3
      have := ih (i + 1) (by omega) M3 r E p3 hr e1 e2 eo (f3 (a + 1) _ _ (by omega) (by omega) o12) o23
      rw [← nI_1] at this
      exact this
  refine hc.1 _ _ _ (i_aload rfl (i_obj (Nat.le_of_ble_eq_true rfl) (i_aload rfl (i_ic (st_arrE (OP.start hN h0) s1 (by decide) (by decide) (by show a + 1 + 1 ≤ a + 1 + 36; omega) h7 (fun M1 p1 o1 _ => i_aload rfl (i_ic (st_arrE p1 s2 (by decide) (by decide) (by show a + 1 + 1 + 1 ≤ a + 1 + 36; omega) h7 (fun M2 p2 o2 f2 => i_aload rfl (i_ic (st_arr p2 s3 (by decide) (by decide) (by decide) (by show a + 1 + 1 + 1 + 1 ≤ a + 1 + 36; omega) h7 (fun M3 p3 f3 => i_aload rfl (i_ic (st_arr p3 s4 (by decide) (by decide) (by decide) (by show a + 1 + 1 + 1 + 1 + 1 ≤ a + 1 + 36; omega) h7 (fun M4 p4 f4 => i_ic (i_istore (Nat.le_of_ble_eq_true rfl) ?_))))))))))))))))
  have o1' := f4 _ _ _ (by omega) (by omega) (f3 _ _ _ (by omega) (by omega) (f2 _ _ _ (by omega) (by omega) o1))
  have o2' := f4 _ _ _ (by omega) (by omega) (f3 _ _ _ (by omega) (by omega) o2)
  exact loop 8 0 rfl M4 _ _ p4 (eR_st h7) (Or.inl (Or.inr rfl)) (Or.inr rfl) (fun b hb => hb.elim (fun z => z.elim (fun y => y.elim) Or.inl) Or.inr) (o1'.to rfl (by funext t; rw [if_neg (Nat.not_lt_zero t)]; rfl)) (o2'.to rfl (by funext t; rw [if_neg (Nat.not_lt_zero t)]; rfl))
theorem up_hi {r : Nat → Option Nat} {j : Nat} {x : Option Nat} (hj : j < 80) (h : ∀ k, 80 ≤ k → r k = none) : ∀ k, 80 ≤ k → up1 r j x k = none := fun k hk => by rw [up1_ne (by omega)]; exact h k hk
theorem rn_hi : ∀ k, 80 ≤ k → rn k = none := fun _ _ => rfl
-- Reader
theorem c_ini7 (hN : M.1 = (2, true)) (h0 : OB M 1 z0 rn) (h : Ini 5 1 M K) : sp_X7_init [.ref 1] M K := by
  refine ⟨Nat.le_of_ble_eq_true rfl, fun G hc => ?_⟩
  rw [t1_is (a := 1) hN] at hc
  have ha : (Sh 1).1 = 4 := by decide +kernel
  have s2 : (Sh 2).1 = 3 := by decide +kernel
  refine hc _ _ _ (i_aload rfl (i_obj (Nat.le_of_ble_eq_true rfl) (i_aload rfl (st_sub (OP.start (a := 1) hN h0) (fun M1 K1 x y z => c_ini6 s2 x y z) s2 (Nat.le_of_ble_eq_true rfl) (by decide) ha (fun M1 p1 _ => i_aload rfl (i_ic (st_arr p1 (show Sh 4 = (13, 4000) by decide +kernel) (by decide) (by decide) (by decide) (by decide) ha (fun M2 p2 _ => i_aload rfl (i_ic (st_arr p2 (show Sh 5 = (13, 40) by decide +kernel) (by decide) (by decide) (by decide) (by decide) ha (fun M3 p3 _ => i_aload rfl (i_ic (st_arr p3 (show Sh 6 = (13, 40) by decide +kernel) (by decide) (by decide) (by decide) (by decide) ha (fun M4 p4 _ => p4.done (eI_z (by omega) (by omega) (by decide)).symm ?_ (fun b hb => hb.elim) rfl rfl h))))))))))))))
  exact eqR (by decide +kernel) (up_hi (by decide) (up_hi (by decide) (up_hi (by decide) (up_hi (by decide) rn_hi))))
-- Flow
theorem c_ini1 (hN : M.1 = (450, true)) (h0 : OB M 449 z0 rn) (h : Ini 3 449 M K) : sp_X1_init [.ref 449] M K := by
  refine ⟨Nat.le_of_ble_eq_true rfl, fun G hc => ?_⟩
  rw [t1_is (a := 449) hN] at hc
  have ha : (Sh 449).1 = 0 := by decide +kernel
  refine hc _ _ _ (i_aload rfl (i_obj (Nat.le_of_ble_eq_true rfl) (i_aload rfl (i_ic (st_arr (OP.start (a := 449) hN h0) (show Sh 450 = (13, 6400) by decide +kernel) (by decide) (by decide) (by decide) (by decide) ha (fun M2 p2 _ => i_aload rfl (i_ic (st_arr p2 (show Sh 451 = (15, 100) by decide +kernel) (by decide) (by decide) (by decide) (by decide) ha (fun M3 p3 _ => i_aload rfl (i_ic (st_arr p3 (show Sh 452 = (15, 100) by decide +kernel) (by decide) (by decide) (by decide) (by decide) ha (fun M4 p4 _ => p4.done (eI_z (by omega) (by omega) (by decide)).symm ?_ (fun b hb => hb.elim) rfl rfl h))))))))))))
  exact eqR (by decide +kernel) (up_hi (by decide) (up_hi (by decide) (up_hi (by decide) rn_hi)))
-- Trail
theorem tab_ab : ∀ i ∈ List.range 64, (Sh (20 + 6 * i)).1 = 6 ∧ (Sh (23 + 6 * i)).1 = 6 := by decide +kernel
theorem c_ini11 (hN : M.1 = (11, true)) (h0 : OB M 10 z0 rn) (h : Ini 393 10 M K) : sp_X11_init [.ref 10] M K := by
  refine ⟨Nat.le_of_ble_eq_true rfl, fun G hc => ?_⟩
  rw [t1_is (a := 10) hN] at hc
  have ha : (Sh 10).1 = 8 := by decide +kernel
  have s15 : (Sh 15).1 = 6 := by decide +kernel
  have s18 : Sh 18 = (17, 64) := by decide +kernel
  have s19 : Sh 19 = (17, 64) := by decide +kernel
  have loop : ∀ f i : Nat, i + f = 64 → ∀ (M1 : Mem) (r : Nat → Option Nat) (E : Nat → Prop), OP M M1 10 (20 + 6 * i) z0 r E → r = eR 10 → E 18 → E 19 → (∀ b, E b → b = 18 ∨ b = 19) → OB M1 18 z0 (fun t => if t < i then some (20 + 6 * t) else none) → OB M1 19 z0 (fun t => if t < i then some (23 + 6 * t) else none) → G 67 [some (.ref 10), some (.int (nI i))] [] M1 := by
    intro f
    induction f with
    | zero =>
      intro i hi M1 r E p hr e1 e2 eo o1 o2
      have hi : i = 64 := by omega
      subst hi
      refine hc.2.1 _ _ _ (i_iload rfl (i_ic (i_icmp_ge (fun _ => hc.2.2.2 _ _ _ (p.done (eI_z (by omega) (by omega) (by decide)).symm hr (fun b hb _ _ => ?_) rfl rfl h)) (fun z => absurd (by decide) z))))
      have q8 : eI 18 = z0 := eI_z (by rw [s18]; decide) (by rw [s18]; decide) (by decide)
      have q9 : eI 19 = z0 := eI_z (by rw [s19]; decide) (by rw [s19]; decide) (by decide)
      rcases eo b hb with e | e
      · subst e; exact o1.to q8.symm (by funext t; rfl)
      · subst e; exact o2.to q9.symm (by funext t; rfl)
    | succ f ih =>
      intro i hi M1 r E p hr e1 e2 eo o1 o2
      refine hc.2.1 _ _ _ (i_iload rfl (i_ic (i_icmp_ge (fun z => absurd ((nI_leI (a := 64) (by decide) (by omega)).mp z) (by omega)) (fun _ => hc.2.2.1 _ _ _ ?_))))
      have g0 : gR M1 10 7 = some 18 := by rw [p.gr, hr]; decide +kernel
      obtain ⟨r5, r7⟩ := tab_ab i (List.mem_range.mpr (by omega))
      refine i_aload rfl (i_getR (okI p.1 ha p.2.2.2.2) g0 (i_iload rfl (st_subA (f := fun t => 20 + 6 * t) p (fun M1 K1 x y z => c_ini9 r5 x y z) r5 (Nat.le_of_ble_eq_true rfl) (by show 20 + 6 * i + 1 + 2 ≤ 10 + 1 + 393; omega) e1 (by omega) (by omega) s18 (show i < 64 by omega) (by decide) rfl o1 rfl (fun M2 p2 o12 f2 => ?_))))
      have ek : 20 + 6 * i + 1 + 2 = 23 + 6 * i := by omega
      rw [ek] at p2
      have g1 : gR M2 10 8 = some 19 := by rw [p2.gr, hr]; decide +kernel
      have o22 := f2 19 _ _ (by omega) (by omega) o2
      refine i_aload rfl (i_getR (okI p2.1 ha p2.2.2.2.2) g1 (i_iload rfl (st_subA (f := fun t => 23 + 6 * t) p2 (fun M1 K1 x y z => c_ini9 r7 x y z) r7 (Nat.le_of_ble_eq_true rfl) (by show 23 + 6 * i + 1 + 2 ≤ 10 + 1 + 393; omega) e2 (by omega) (by omega) s19 (show i < 64 by omega) (by decide) rfl o22 rfl (fun M3 p3 o23 f3 => i_iinc rfl ?_))))
      have ek2 : 23 + 6 * i + 1 + 2 = 20 + 6 * (i + 1) := by omega
      rw [ek2] at p3
      have := ih (i + 1) (by omega) M3 r E p3 hr e1 e2 eo (f3 18 _ _ (by omega) (by omega) o12) o23
      rw [← nI_1] at this
      exact this
  refine hc.1 _ _ _ (i_aload rfl (i_obj (Nat.le_of_ble_eq_true rfl) (i_aload rfl (i_ic (st_arr (OP.start (a := 10) hN h0) (show Sh 11 = (13, 64) by decide +kernel) (by decide) (by decide) (by decide) (by decide) ha (fun M1 p1 _ => i_aload rfl (i_ic (st_arr p1 (show Sh 12 = (13, 64) by decide +kernel) (by decide) (by decide) (by decide) (by decide) ha (fun M2 p2 _ => i_aload rfl (i_ic (st_arr p2 (show Sh 13 = (13, 64) by decide +kernel) (by decide) (by decide) (by decide) (by decide) ha (fun M3 p3 _ => i_aload rfl (i_ic (st_arr p3 (show Sh 14 = (13, 64) by decide +kernel) (by decide) (by decide) (by decide) (by decide) ha (fun M4 p4 _ => i_aload rfl (st_sub p4 (fun M1 K1 x y z => c_ini9 s15 x y z) s15 (Nat.le_of_ble_eq_true rfl) (by decide) ha (fun M5 p5 _ => i_aload rfl (i_ic (st_arrE p5 s18 (by decide) (by decide) (by decide) ha (fun M6 p6 o6 _ => i_aload rfl (i_ic (st_arrE p6 s19 (by decide) (by decide) (by decide) ha (fun M7 p7 o7 f7 => i_ic (i_istore (Nat.le_of_ble_eq_true rfl) ?_))))))))))))))))))))))))
  have o6' := f7 _ _ _ (by decide) (by decide) o6
  refine loop 64 0 rfl M7 _ _ p7 ?_ (Or.inl (Or.inr rfl)) (Or.inr rfl) (fun b hb => hb.elim (fun z => z.elim (fun y => y.elim) Or.inl) Or.inr) (o6'.to rfl (by funext t; rw [if_neg (Nat.not_lt_zero t)]; rfl)) (o7.to rfl (by funext t; rw [if_neg (Nat.not_lt_zero t)]; rfl))
  exact eqR (by decide +kernel) (up_hi (by decide) (up_hi (by decide) (up_hi (by decide) (up_hi (by decide) (up_hi (by decide) (up_hi (by decide) (up_hi (by decide) rn_hi)))))))
-- Lanes
theorem c_ini2 (hN : M.1 = (405, true)) (h0 : OB M 404 z0 rn) (h : Ini 41 404 M K) : sp_X2_init [.ref 404] M K := by
  refine ⟨Nat.le_of_ble_eq_true rfl, fun G hc => ?_⟩
  rw [t1_is (a := 404) hN] at hc
  have ha : (Sh 404).1 = 1 := by decide +kernel
  have s405 : (Sh 405).1 = 7 := by decide +kernel
  have s443 : Sh 443 = (16, 3) := by decide +kernel
  have s406 : Sh 406 = (16, 8) := by decide +kernel
  have s407 : Sh 407 = (16, 8) := by decide +kernel
  have s410 : (Sh 410).1 = 5 := by decide +kernel
  have loop : ∀ f i : Nat, i + f = 3 → ∀ (M1 : Mem) (r : Nat → Option Nat) (E : Nat → Prop), OP M M1 404 446 z0 r E → r = eR 404 → E 443 → (∀ b, E b → b = 443) → OB M1 443 z0 (fun t => if t < i then some 410 else none) → G 62 [some (.ref 404), some (.int (nI i))] [] M1 := by
    intro f
    induction f with
    | zero =>
      intro i hi M1 r E p hr e1 eo o1
      have hi : i = 3 := by omega
      subst hi
      have g4 : gR M1 404 4 = some 443 := by rw [p.gr, hr]; decide +kernel
      refine hc.2.1 _ _ _ (i_iload rfl (i_aload rfl (i_getR (okI p.1 ha (by decide)) g4 (i_alenO (okI p.1 (by rw [s443]) (by decide)) s443 (by decide) (i_icmp_ge (fun _ => hc.2.2.2 _ _ _ (p.done (eI_z (by omega) (by omega) (by decide)).symm hr (fun b hb _ _ => ?_) rfl rfl h)) (fun z => absurd (by decide) z))))))
      have q : eI 443 = z0 := eI_z (by rw [s443]; decide) (by rw [s443]; decide) (by decide)
      have e := eo b hb
      subst e
      exact o1.to q.symm (by funext t; rfl)
    | succ f ih =>
      intro i hi M1 r E p hr e1 eo o1
      have g4 : gR M1 404 4 = some 443 := by rw [p.gr, hr]; decide +kernel
      have g0 : gR M1 404 0 = some 405 := by rw [p.gr, hr]; decide +kernel
      have n405 : ¬ E 405 := fun z => absurd (eo _ z) (by decide)
      have n406 : ¬ E 406 := fun z => absurd (eo _ z) (by decide)
      have g5 : gR M1 405 0 = some 406 := by rw [p.xr (by decide) (by decide) n405]; decide +kernel
      have g6 : gR M1 406 0 = some 410 := by rw [p.xr (by decide) (by decide) n406]; decide +kernel
      refine hc.2.1 _ _ _ (i_iload rfl (i_aload rfl (i_getR (okI p.1 ha (by decide)) g4 (i_alenO (okI p.1 (by rw [s443]) (by decide)) s443 (by decide) (i_icmp_ge (fun z => absurd ((nI_leI (a := 3) (by decide) (by omega)).mp z) (by omega)) (fun _ => hc.2.2.1 _ _ _ ?_))))))
      refine i_aload rfl (i_getR (okI p.1 ha (by decide)) g4 (i_iload rfl (i_aload rfl (i_getR (okI p.1 ha (by decide)) g0 (i_getR (okI p.1 s405 (by decide)) g5 (i_ic (i_aaldO (okI p.1 (by rw [s406]) (by decide)) s406 (vpd rfl) g6 (i_aastO (okI p.1 (by rw [s443]) (by decide)) s443 (okI p.1 s410 (by decide)) (vpN (show i < 3 by omega) (by decide)) (i_iinc rfl ?_)))))))))
      rw [nI_clamp (by omega)]
      obtain ⟨hN', hf, ho, hb, hak⟩ := p
      have := ih (i + 1) (by omega) (uR M1 443 i (some 410)) r E ⟨hN', hf.tr (Fb.pR (by decide)), ho.pR (by decide), fun b h1 h2 h3 => (hb b h1 h2 h3).pR (fun z => h3 (by rw [z]; exact e1)), hak⟩ hr e1 eo ((o1.pRs).to rfl (by
        funext t
        show (if t = i then some 410 else (if t < i then some 410 else none)) = _
        by_cases w : t = i
        · rw [if_pos w, if_pos (by omega)]
        · rw [if_neg w]
          by_cases y : t < i
          · rw [if_pos y, if_pos (by omega)]
          · rw [if_neg y, if_neg (by omega)]))
      rw [← nI_1] at this
      exact this
  refine hc.1 _ _ _ (i_aload rfl (i_obj (Nat.le_of_ble_eq_true rfl) (i_aload rfl (st_sub (OP.start (a := 404) hN h0) (fun M1 K1 x y z => c_ini10 s405 x y z) s405 (Nat.le_of_ble_eq_true rfl) (by decide) ha (fun M1 p1 _ => i_aload rfl (i_ic (st_arr p1 (show Sh 442 = (14, 6) by decide +kernel) (by decide) (by decide) (by decide) (by decide) ha (fun M2 p2 _ => i_aload rfl (i_ic (st_arrE p2 s443 (by decide) (by decide) (by decide) ha (fun M3 p3 o3 _ => i_aload rfl (i_aload rfl ?_))))))))))))
  have n405 : ¬ (False ∨ (405 : Nat) = 443) := by decide
  have n407 : ¬ (False ∨ (407 : Nat) = 443) := by decide
  have g0 : gR M3 404 0 = some 405 := by rw [p3.gr]; rfl
  have g5 : gR M3 405 1 = some 407 := by rw [p3.xr (by decide) (by decide) n405]; decide +kernel
  have g6 : gR M3 407 0 = some 412 := by rw [p3.xr (by decide) (by decide) n407]; decide +kernel
  refine i_getR (okI p3.1 ha (by decide)) g0 (i_getR (okI p3.1 s405 (by decide)) g5 (i_ic (i_aaldO (okI p3.1 (by rw [s407]) (by decide)) s407 (vpd rfl) g6 (st_put p3 ha (fun M4 p4 f4 => i_aload rfl (i_ic (st_arr p4 (show Sh 444 = (14, 32) by decide +kernel) (by decide) (by decide) (by decide) (by decide) ha (fun M5 p5 f5 => i_aload rfl (i_ic (st_arr p5 (show Sh 445 = (14, 32) by decide +kernel) (by decide) (by decide) (by decide) (by decide) ha (fun M6 p6 f6 => i_ic (i_istore (Nat.le_of_ble_eq_true rfl) ?_))))))))))))
  have o3' := f6 _ _ _ (by decide) (by decide) (f5 _ _ _ (by decide) (by decide) (f4 _ _ _ (by decide) (by decide) o3))
  refine loop 3 0 rfl M6 _ _ p6 ?_ (Or.inr rfl) (fun b hb => hb.elim (fun z => z.elim) id) (o3'.to rfl (by funext t; rw [if_neg (Nat.not_lt_zero t)]; rfl))
  exact eqR (by decide +kernel) (up_hi (by decide) (up_hi (by decide) (up_hi (by decide) (up_hi (by decide) (up_hi (by decide) (up_hi (by decide) rn_hi))))))
-- Processor
theorem c_ini5 (hN : M.1 = (8, true)) (h0 : OB M 7 z0 rn) (h : Ini 439 7 M K) : sp_X5_init [.ref 7] M K := by
  refine ⟨Nat.le_of_ble_eq_true rfl, fun G hc => ?_⟩
  rw [t1_is (a := 7) hN] at hc
  have ha : (Sh 7).1 = 2 := by decide +kernel
  have s8 : (Sh 8).1 = 3 := by decide +kernel
  have s10 : (Sh 10).1 = 8 := by decide +kernel
  have s404 : (Sh 404).1 = 1 := by decide +kernel
  have s405 : (Sh 405).1 = 7 := by decide +kernel
  refine hc.1 _ _ _ (i_aload rfl (i_obj (Nat.le_of_ble_eq_true rfl) (i_aload rfl (st_sub (OP.start (a := 7) hN h0) (fun M1 K1 x y z => c_ini6 s8 x y z) s8 (Nat.le_of_ble_eq_true rfl) (by decide) ha (fun M1 p1 _ => i_aload rfl (st_sub p1 (fun M1 K1 x y z => c_ini11 x y z) s10 (Nat.le_of_ble_eq_true rfl) (by decide) ha (fun M2 p2 _ => i_aload rfl (i_ic (i_putZ (okI p2.1 ha (by decide)) (Or.inr rfl) ?_)))))))))
  have p3 : OP M (uI M2 7 6 1) 7 404 (up1 z0 6 1) (up1 (up1 rn 0 (some 8)) 1 (some 10)) (fun _ => False) := ⟨p2.1, p2.2.1.tr (Fb.pI (Nat.le_refl 7)), p2.2.2.1.pIs, fun b h1 h2 h3 => (p2.2.2.2.1 b h1 h2 h3).pI (by omega), by decide⟩
  generalize uI M2 7 6 1 = M3 at p3 ⊢
  refine i_aload rfl (st_sub p3 (fun M1 K1 x y z => c_ini2 x y z) s404 (Nat.le_of_ble_eq_true rfl) (by decide) ha (fun M4 p4 _ => i_aload rfl (i_aload rfl ?_)))
  have g0 : gR M4 7 10 = some 404 := by rw [p4.gr]; rfl
  have g1 : gR M4 404 0 = some 405 := by rw [p4.xr (by decide) (by decide) (fun z => z)]; decide +kernel
  refine i_getR (okI p4.1 ha (by decide)) g0 (i_getR (okI p4.1 s404 (by decide)) g1 (st_put p4 ha (fun M5 p5 _ => i_aload rfl (i_aload rfl ?_))))
  have g0 : gR M5 7 10 = some 404 := by rw [p5.gr]; rfl
  have g1 : gR M5 404 1 = some 442 := by rw [p5.xr (by decide) (by decide) (fun z => z)]; decide +kernel
  refine i_getR (okI p5.1 ha (by decide)) g0 (i_getR (okI p5.1 s404 (by decide)) g1 (st_put p5 ha (fun M6 p6 _ => i_aload rfl (i_aload rfl ?_))))
  have g0 : gR M6 7 11 = some 405 := by rw [p6.gr]; rfl
  have g1 : gR M6 405 2 = some 408 := by rw [p6.xr (by decide) (by decide) (fun z => z)]; decide +kernel
  refine i_getR (okI p6.1 ha (by decide)) g0 (i_getR (okI p6.1 s405 (by decide)) g1 (st_put p6 ha (fun M7 p7 _ => i_aload rfl (i_aload rfl ?_))))
  have g0 : gR M7 7 11 = some 405 := by rw [p7.gr]; rfl
  have g1 : gR M7 405 3 = some 409 := by rw [p7.xr (by decide) (by decide) (fun z => z)]; decide +kernel
  refine i_getR (okI p7.1 ha (by decide)) g0 (i_getR (okI p7.1 s405 (by decide)) g1 (st_put p7 ha (fun M8 p8 _ => hc.2 _ _ _ (i_aload rfl (i_ic (st_arr p8 (show Sh 446 = (13, 16) by decide +kernel) (by decide) (by decide) (by decide) (by decide) ha (fun M9 p9 _ => p9.done ?_ ?_ (fun b hb => hb.elim) rfl rfl h)))))))
  · funext j
    unfold up1 eI z0
    rw [ha]
    by_cases w : j = 6
    · rw [if_pos w, if_neg (fun z => by omega), if_neg (fun z => by omega), if_pos ⟨rfl, w⟩]
    · rw [if_neg w, if_neg (fun z => by omega), if_neg (fun z => by omega), if_neg (fun z => w z.2)]
  · exact eqR (by decide +kernel) (up_hi (by decide) (up_hi (by decide) (up_hi (by decide) (up_hi (by decide) (up_hi (by decide) (up_hi (by decide) (up_hi (by decide) (up_hi (by decide) rn_hi))))))))
-- LaneMachine
theorem tab_kp : ∀ i ∈ List.range 4, (Sh (457 + 37 * i)).1 = 7 := by decide +kernel
theorem c_ini12 (hN : M.1 = (1, true)) (h0 : OB M 0 z0 rn) (h : Ini 604 0 M K) : sp_X12_init [.ref 0] M K := by
  refine ⟨Nat.le_of_ble_eq_true rfl, fun G hc => ?_⟩
  rw [t1_is (a := 0) hN] at hc
  have ha : (Sh 0).1 = 9 := by decide +kernel
  have s1 : (Sh 1).1 = 4 := by decide +kernel
  have s7 : (Sh 7).1 = 2 := by decide +kernel
  have s447 : (Sh 447).1 = 3 := by decide +kernel
  have s449 : (Sh 449).1 = 0 := by decide +kernel
  have s453 : Sh 453 = (18, 4) := by decide +kernel
  have loop : ∀ f i : Nat, i + f = 4 → ∀ (M1 : Mem) (r : Nat → Option Nat) (E : Nat → Prop), OP M M1 0 (457 + 37 * i) z0 r E → r = eR 0 → E 453 → (∀ b, E b → b = 453) → OB M1 453 z0 (fun t => if t < i then some (457 + 37 * t) else none) → G 103 [some (.ref 0), some (.int (nI i))] [] M1 := by
    intro f
    induction f with
    | zero =>
      intro i hi M1 r E p hr e1 eo o1
      have hi : i = 4 := by omega
      subst hi
      refine hc.2.2.1 _ _ _ (i_iload rfl (i_ic (i_icmp_ge (fun _ => hc.2.2.2.2 _ _ _ (p.done (eI_z (by omega) (by omega) (by decide)).symm hr (fun b hb _ _ => ?_) rfl rfl h)) (fun z => absurd (by decide) z))))
      have q : eI 453 = z0 := eI_z (by rw [s453]; decide) (by rw [s453]; decide) (by decide)
      have e := eo b hb
      subst e
      refine o1.to q.symm (eqR (by decide +kernel) (fun k hk => by rw [if_neg (by omega)]))
    | succ f ih =>
      intro i hi M1 r E p hr e1 eo o1
      have g6 : gR M1 0 6 = some 453 := by rw [p.gr, hr]; decide +kernel
      have r7 := tab_kp i (List.mem_range.mpr (by omega))
      refine hc.2.2.1 _ _ _ (i_iload rfl (i_ic (i_icmp_ge (fun z => absurd ((nI_leI (a := 4) (by decide) (by omega)).mp z) (by omega)) (fun _ => hc.2.2.2.1 _ _ _ ?_))))
      refine i_aload rfl (i_getR (okI p.1 ha p.2.2.2.2) g6 (i_iload rfl (st_subA (f := fun t => 457 + 37 * t) p (fun M1 K1 x y z => c_ini10 r7 x y z) r7 (Nat.le_of_ble_eq_true rfl) (by show 457 + 37 * i + 1 + 36 ≤ 0 + 1 + 604; omega) e1 (by omega) (by omega) s453 (show i < 4 by omega) (by decide) rfl o1 rfl (fun M2 p2 o12 f2 => i_iinc rfl ?_))))
      have ek : 457 + 37 * i + 1 + 36 = 457 + 37 * (i + 1) := by omega
      rw [ek] at p2
      have := ih (i + 1) (by omega) M2 r E p2 hr e1 eo o12
      rw [← nI_1] at this
      exact this
  refine hc.1 _ _ _ (i_aload rfl (i_obj (Nat.le_of_ble_eq_true rfl) (i_aload rfl (st_sub (OP.start (a := 0) hN h0) (fun M1 K1 x y z => c_ini7 x y z) s1 (Nat.le_of_ble_eq_true rfl) (by decide) ha (fun M1 p1 _ => i_aload rfl (st_sub p1 (fun M1 K1 x y z => c_ini5 x y z) s7 (Nat.le_of_ble_eq_true rfl) (by decide) ha (fun M2 p2 _ => i_aload rfl (i_aload rfl ?_))))))))
  have g0 : gR M2 0 1 = some 7 := by rw [p2.gr]; rfl
  have g1 : gR M2 7 0 = some 8 := by rw [p2.xr (by decide) (by decide) (fun z => z)]; decide +kernel
  refine i_getR (okI p2.1 ha (by decide)) g0 (i_getR (okI p2.1 s7 (by decide)) g1 (st_put p2 ha (fun M3 p3 _ => i_aload rfl (i_aload rfl ?_))))
  have g0 : gR M3 0 1 = some 7 := by rw [p3.gr]; rfl
  have g1 : gR M3 7 11 = some 405 := by rw [p3.xr (by decide) (by decide) (fun z => z)]; decide +kernel
  refine i_getR (okI p3.1 ha (by decide)) g0 (i_getR (okI p3.1 s7 (by decide)) g1 (st_put p3 ha (fun M4 p4 _ => i_aload rfl (st_sub p4 (fun M1 K1 x y z => c_ini6 s447 x y z) s447 (Nat.le_of_ble_eq_true rfl) (by decide) ha (fun M5 p5 _ => i_aload rfl (st_sub p5 (fun M1 K1 x y z => c_ini1 x y z) s449 (Nat.le_of_ble_eq_true rfl) (by decide) ha (fun M6 p6 _ => i_aload rfl (i_ic (st_arrE p6 s453 (by decide) (by decide) (by decide) ha (fun M7 p7 o7 _ => i_aload rfl (i_ic (st_arr p7 (show Sh 454 = (15, 4) by decide +kernel) (by decide) (by decide) (by decide) (by decide) ha (fun M8 p8 f8 => hc.2.1 _ _ _ (i_aload rfl (i_ic (st_arr p8 (show Sh 455 = (15, 100) by decide +kernel) (by decide) (by decide) (by decide) (by decide) ha (fun M9 p9 f9 => i_aload rfl (i_ic (st_arr p9 (show Sh 456 = (14, 8) by decide +kernel) (by decide) (by decide) (by decide) (by decide) ha (fun M10 p10 f10 => i_ic (i_istore (Nat.le_of_ble_eq_true rfl) ?_)))))))))))))))))))))
  have o7' := f10 _ _ _ (by decide) (by decide) (f9 _ _ _ (by decide) (by decide) (f8 _ _ _ (by decide) (by decide) o7))
  refine loop 4 0 rfl M10 _ _ p10 ?_ (Or.inr rfl) (fun b hb => hb.elim (fun z => z.elim) id) (o7'.to rfl (by funext t; rw [if_neg (Nat.not_lt_zero t)]; rfl))
  exact eqR (by decide +kernel) (up_hi (by decide) (up_hi (by decide) (up_hi (by decide) (up_hi (by decide) (up_hi (by decide) (up_hi (by decide) (up_hi (by decide) (up_hi (by decide) (up_hi (by decide) (up_hi (by decide) rn_hi))))))))))
end INIT2
