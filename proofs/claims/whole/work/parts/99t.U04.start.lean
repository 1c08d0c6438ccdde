section START4
section
variable {M M' : Mem} {K : RT} {s : SG} {n : Nat}
def sR (M : Mem) (r : Nat → Nat → Option Nat) : Mem := (M.1, M.2.1, M.2.2.1, M.2.2.2.1, r)
theorem RTr.sr {r : Nat → Nat → Option Nat} {w : Nat} : ∀ (tr : List TE) (k : Nat), RTr M w k tr → RTr (sR M r) w k tr := by
  intro tr
  induction tr with
  | nil => intro k _; trivial
  | cons t tr ih =>
    intro k h
    exact ⟨h.1, ih (k + 1) h.2⟩
theorem RI.sr {r : Nat → Nat → Option Nat} (h : RI FlR M s) : RI FlR (sR M r) s := by
  obtain ⟨⟨o1, ⟨p1, p2, p3, p4, p5, p6⟩, o3, o4, o5, o6⟩, x1, x2, ⟨w, w1, w2, w3⟩, x4, x5, x6⟩ := h
  exact ⟨⟨o1, ⟨p1, p2, p3, p4, p5, p6⟩, o3, o4, o5, o6⟩, x1, x2, ⟨w, w1, w2, w3.sr⟩, x4, x5, x6⟩
theorem RI.mo (hm : Mo clsS M M') (h : RI FlR M s) : RI FlR M' s := by
  have f : FrC (fun a _ => a < 605) M (sR M' (gR M)) := ⟨hm.1, rfl, fun a j z => by
    obtain ⟨h1, h2, h3, h4⟩ := hm.2 a (fun y => z y)
    exact ⟨congrFun h1 j, congrFun h2 j, congrFun h3 j⟩⟩
  have h1 : RI FlR (sR M' (gR M)) s := h.fr FlR_ok f (fun a j z => by unfold rOc rPgc rKpc prS rXc; omega)
  have h2 : RI FlR (sR (sR M' (gR M)) (gR M')) s := h1.sr
  exact h2
theorem CI.frc (hW : Wf M) (hf : FrC rfS M M') (h : CI FlM M s) : CI FlM M' s := by
  have hm : Mo (fun b => 605 ≤ b) M M' := hf.to (fun a j z => z.1)
  obtain ⟨⟨c1, c2, c3, c4, c5, c6⟩, cx⟩ := h
  exact ⟨⟨c1.mo hm (by omega) (by omega), CPr.mo (s := s) hm (by omega) (by omega) (by omega) (by omega) (by omega) c2, c3.mo hm (by omega), c4.mo hm (by omega), c5.mo hm (by omega) (fun b hb => by omega), c6.mo FlM_ok hm (fun b hb => by omega)⟩, cx.mo hW hm (fun b hb => by omega)⟩
end
/-- the first state -/
def d0 : DS := (fun _ => -1, fun _ => 0, fun _ _ => 0, fun _ => 0, fun _ => 0)
def x0 : ES := (d0, 0, 0, fun _ => 0, 0, 0, true)
def s0 : SG := ((0, fun _ => 0), (0, fun _ _ => 0), (0, fun _ _ => 0), 0, false, fun _ => false, fun _ => 0, fun _ => none, (x0, [], noF))
theorem WD_d0 : WD d0 := ⟨fun j _ => ⟨Or.inl ⟨rfl, rfl⟩, fun i hi => absurd hi (Nat.not_lt_zero i)⟩, by decide⟩
theorem EOk_x0 : EOk 0 x0 := ⟨Nat.le_refl _, Nat.zero_le _, fun j hj => absurd hj (Nat.not_lt_zero j), fun z => absurd (show true = false from z) (by decide), WD_d0⟩
section
variable {M : Mem}
theorem kind_hi {a : Nat} (h : 651 ≤ a) : 18 < (Sh a).1 := by
  rcases Nat.lt_or_ge 18 (Sh a).1 with z | z
  · exact z
  · have := Sh_lt z; omega
theorem fx_out {a k : Nat} (h : 651 ≤ a) : fx a k = none := by
  have h18 := kind_hi h
  unfold fx
  generalize (Sh a).1 = c at h18
  dsimp only
  rw [if_neg (by omega), if_neg (by omega), if_neg (by omega), if_neg (by omega), if_neg (by omega), if_neg (by omega), if_neg (by omega), if_neg (by omega), if_neg (by omega), if_neg (by omega), if_neg (by omega), if_neg (by omega), if_neg (by omega)]
theorem eR_of_fx {a k r : Nat} (h : fx a k = some r) : eR a k = some r := by
  have n443 : ∀ k, fx 443 k = none := fx_rows
  have n404 : fx 404 5 = none := by decide +kernel
  have n10 : fx 10 5 = none := by decide +kernel
  unfold eR
  by_cases e1 : a = 443
  · subst e1; rw [n443] at h; exact absurd h (by simp)
  · rw [if_neg e1]
    by_cases e2 : a = 404 ∧ k = 5
    · rw [e2.1, e2.2, n404] at h; exact absurd h (by simp)
    · rw [if_neg e2]
      by_cases e3 : a = 10 ∧ k = 5
      · rw [e3.1, e3.2, n10] at h; exact absurd h (by simp)
      · rw [if_neg e3]
        by_cases e4 : a = 18
        · subst e4; rw [fx_ahead] at h; exact absurd h (by simp)
        · rw [if_neg e4]
          by_cases e5 : a = 19
          · subst e5; rw [fx_behind] at h; exact absurd h (by simp)
          · rw [if_neg e5]; exact h
theorem tab_mod : ∀ a ∈ List.range 651, 605 < a → 11 ≤ (Sh a).1 ∧ (Sh a).1 ≤ 15 := by decide +kernel
theorem tab_605 : ∀ k ∈ List.range 80, 75 ≤ k → fx 605 k = none := by decide +kernel
/-- all objects stand -/
def XA (M : Mem) : Prop := M.1 = wT ∧ (∀ b, b < 605 → XI M b) ∧ (∀ j, gR M 605 j = if j < 75 then fx 605 j else none)
theorem XA.wf (h : XA M) : Wf M := by
  obtain ⟨h1, h2, h3⟩ := h
  have r : ∀ a k, a < 605 → gR M a k = eR a k := fun a k ha => congrFun (h2 a ha).2.2.2 k
  refine ⟨h1, fun a k q e => ?_, fun a k c e => ?_⟩
  · by_cases w : a < 605
    · rw [r a k w]; exact eR_of_fx e
    · by_cases w2 : a = 605
      · subst w2
        rw [h3]
        by_cases y : k < 75
        · rw [if_pos y]; exact e
        · exfalso
          rcases Nat.lt_or_ge k 80 with z | z
          · rw [tab_605 k (List.mem_range.mpr z) (by omega)] at e; exact absurd e (by simp)
          · have := eR_hi (b := 605) z
            rw [eR_fx (by decide) (by decide) (by decide) (by decide) (by decide)] at this
            rw [this] at e; exact absurd e (by simp)
      · exfalso
        rcases Nat.lt_or_ge a 651 with z | z
        · have := eR_arr (tab_mod a (List.mem_range.mpr z) (by omega))
          have e2 := eR_of_fx e
          rw [this] at e2
          exact absurd (show (none : Option Nat) = some q from e2) (by simp)
        · rw [fx_out z] at e; exact absurd e (by simp)
  · unfold mx at e
    by_cases e1 : a = 443
    · rw [if_pos e1] at e
      subst e1
      by_cases y : k < 3
      · rw [if_pos y] at e
        cases e
        exact ⟨410, by rw [r _ _ (by decide)]; show (if k < 3 then some 410 else none) = some 410; rw [if_pos y], by decide +kernel⟩
      · rw [if_neg y] at e; cases e
    · rw [if_neg e1] at e
      by_cases e2 : a = 404
      · rw [if_pos e2] at e
        subst e2
        by_cases y : k = 5
        · rw [if_pos y] at e
          cases e
          subst y
          exact ⟨412, by rw [r _ _ (by decide)]; rfl, by decide +kernel⟩
        · rw [if_neg y] at e; cases e
      · rw [if_neg e2] at e
        by_cases e3 : a = 10
        · rw [if_pos e3] at e
          subst e3
          by_cases y : k = 5
          · rw [if_pos y] at e
            cases e
            subst y
            exact ⟨15, by rw [r _ _ (by decide)]; rfl, by decide +kernel⟩
          · rw [if_neg y] at e; cases e
        · rw [if_neg e3] at e
          by_cases e4 : a = 18 ∨ a = 19
          · rw [if_pos e4] at e
            by_cases y : k < 64
            · rw [if_pos y] at e
              cases e
              obtain ⟨t1, t2⟩ := tab_ab k (List.mem_range.mpr y)
              rcases e4 with e4 | e4
              · subst e4
                exact ⟨20 + 6 * k, by rw [r _ _ (by decide)]; show (if k < 64 then some (20 + 6 * k) else none) = _; rw [if_pos y], t1⟩
              · subst e4
                exact ⟨23 + 6 * k, by rw [r _ _ (by decide)]; show (if k < 64 then some (23 + 6 * k) else none) = _; rw [if_pos y], t2⟩
            · rw [if_neg y] at e; cases e
          · rw [if_neg e4] at e; cases e
theorem tab_row0 : ∀ j ∈ List.range 16, (Sh (410 + 2 * j)).1 = 5 := by decide +kernel
theorem XA.ci (h : XA M) : CI FlM M s0 := by
  obtain ⟨h1, h2, h3⟩ := h
  have r : ∀ a k, a < 605 → gR M a k = eR a k := fun a k ha => congrFun (h2 a ha).2.2.2 k
  have i : ∀ a k, a < 605 → gI M a k = eI a k := fun a k ha => congrFun (h2 a ha).1 k
  have l : ∀ a k, a < 605 → gL M a k = 0 := fun a k ha => congrFun (h2 a ha).2.1 k
  have z : ∀ a k, a < 605 → (¬ (Sh a).1 = 5) → (¬ (Sh a).1 = 6) → a ≠ 7 → gI M a k = 0 := fun a k ha q5 q6 q7 => by rw [i a k ha, eI_z q5 q6 q7]; rfl
  have rr : ∀ a k q, a < 605 → eR a k = some q → rR M a k = q := fun a k q ha e => by unfold rR; rw [r a k ha, e]; rfl
  have z7 : ∀ k, k ≠ 6 → gI M 7 k = 0 := fun k hk => by
    rw [i 7 k (by decide)]
    unfold eI
    rw [if_neg (fun w => absurd w.1 (by decide +kernel)), if_neg (fun w => absurd w.1 (by decide +kernel)), if_neg (fun w => hk w.2)]
  have z76 : gI M 7 6 = 1 := by rw [i 7 6 (by decide)]; decide +kernel
  have svr : ∀ u, u < 129 → svR M u = if u = 0 then 15 else if u ≤ 64 then 20 + 6 * (u - 1) else 23 + 6 * (u - 65) := fun u hu => by
    unfold svR
    by_cases w : u = 0
    · rw [if_pos w, if_pos w]; exact rr 10 5 15 (by decide) rfl
    · rw [if_neg w, if_neg w]
      by_cases y : u ≤ 64
      · rw [if_pos y, if_pos y]
        exact rr 18 (u - 1) _ (by decide) (by show (if u - 1 < 64 then some (20 + 6 * (u - 1)) else none) = _; rw [if_pos (by omega)])
      · rw [if_neg y, if_neg y]
        exact rr 19 (u - 65) _ (by decide) (by show (if u - 65 < 64 then some (23 + 6 * (u - 65)) else none) = _; rw [if_pos (by omega)])
  refine ⟨⟨⟨Nat.zero_le _, z 1 0 (by decide) (by decide +kernel) (by decide +kernel) (by decide), fun j hj => absurd hj (Nat.not_lt_zero j)⟩, ⟨⟨Nat.zero_le _, z 8 0 (by decide) (by decide +kernel) (by decide +kernel) (by decide), fun j hj => absurd hj (Nat.not_lt_zero j)⟩, ⟨Nat.zero_le _, z 447 0 (by decide) (by decide +kernel) (by decide +kernel) (by decide), fun j hj => absurd hj (Nat.not_lt_zero j)⟩, z 8 1 (by decide) (by decide +kernel) (by decide +kernel) (by decide), z 447 1 (by decide) (by decide +kernel) (by decide +kernel) (by decide), Nat.zero_le _, z 0 10 (by decide) (by decide +kernel) (by decide +kernel) (by decide), fun j hj => absurd hj (Nat.not_lt_zero j), fun j hj => absurd hj (Nat.not_lt_zero j)⟩, fun j _ => z 455 j (by decide) (by decide +kernel) (by decide +kernel) (by decide), fun j _ => l 456 j (by decide), fun j _ => ⟨z 454 j (by decide) (by decide +kernel) (by decide +kernel) (by decide), fun d hd => absurd (show (none : Option DS) = some d from hd) (by simp)⟩, ⟨Or.inl (z 449 3 (by decide) (by decide +kernel) (by decide +kernel) (by decide)), fun y => ?_⟩⟩, ⟨⟨?_, fun m _ => z 408 m (by decide) (by decide +kernel) (by decide +kernel) (by decide), fun k _ => l 409 k (by decide)⟩, ⟨fun j hj => ⟨0, by decide, ?_⟩, ⟨0, by decide, ?_⟩, ⟨0, by decide, z 404 6 (by decide) (by decide +kernel) (by decide +kernel) (by decide)⟩, ⟨0, by decide, z 404 7 (by decide) (by decide +kernel) (by decide +kernel) (by decide)⟩⟩, z7 2 (by decide), z7 3 (by decide), fun j hj => absurd hj (Nat.not_lt_zero j), z7 4 (by decide), z7 5 (by decide), z76⟩, EOk_x0, ⟨0, ⟨by decide, z 10 6 (by decide) (by decide +kernel) (by decide +kernel) (by decide), z 10 0 (by decide) (by decide +kernel) (by decide +kernel) (by decide), by decide, fun u v hu hv e => ?_⟩, trivial⟩, fun t ht => absurd ht (by simp [s0, gTr, gRn]), ⟨z7 7 (by decide), fun w => absurd rfl w, fun _ => rfl⟩⟩
  · rw [z 449 3 (by decide) (by decide +kernel) (by decide +kernel) (by decide)] at y
    exact absurd y (by decide)
  · intro j hj
    have k5 := tab_row0 j (List.mem_range.mpr hj)
    have e : 405 + 5 + 2 * j = 410 + 2 * j := by omega
    rw [e]
    refine ⟨?_, ?_, Nat.zero_le _, fun i hi => absurd hi (Nat.not_lt_zero i)⟩
    · rw [i _ _ (by omega)]
      unfold eI
      rw [if_pos ⟨k5, rfl⟩]; rfl
    · rw [i _ _ (by omega)]
      unfold eI
      rw [if_neg (fun w => absurd w.2 (by decide)), if_neg (fun w => absurd w.2 (by decide)), if_neg (fun w => absurd w.2 (by decide))]; rfl
  · rw [r _ _ (by decide)]
    show (if j < 3 then some 410 else none) = _
    rw [if_pos hj]
  · rw [r _ _ (by decide)]; rfl
  · rw [svr u hu, svr v hv] at e
    split at e <;> split at e <;> (try split at e) <;> (try split at e) <;> omega
theorem wb0 (j : Nat) : blI (wbB (fun _ => 0) j) = 0 := by
  unfold wbB
  have : ¬ wbit 0 (j % 64) := by
    rw [wbit_b (Nat.mod_lt _ (by decide))]
    show ¬ (0#64).getLsbD (j % 64) = true
    rw [BitVec.getLsbD_zero]; decide
  rw [show @decide (wbit ((fun _ => (0 : Int64)) (j / 64)) (j % 64)) (Classical.propDecidable _) = false from @decide_eq_false _ (Classical.propDecidable _) this]
  rfl
theorem MF.ri {M0 : Mem} (h : MF M0 M) : RI FlR M s0 := by
  obtain ⟨h1, h2, h3, h4, h5, h6, h7, ⟨v1, v2, v3, v4, v5, v6, v7, v8, v9, v10⟩, h8, h9⟩ := h
  have z : ∀ b j, 605 ≤ b → b < 650 → ¬ begS b j → b ≠ 628 → gI M b j = 0 := h6
  refine ⟨⟨⟨Nat.zero_le _, z 605 4 (by decide) (by decide) (by unfold begS; omega) (by decide), fun j hj => absurd hj (Nat.not_lt_zero j)⟩, ⟨h5, fun j hj => absurd hj (Nat.not_lt_zero j), fun j hj => absurd hj (Nat.not_lt_zero j), ⟨Nat.zero_le _, Nat.zero_le _, Nat.zero_le _⟩, ⟨z 605 23 (by decide) (by decide) (by unfold begS; omega) (by decide), z 605 27 (by decide) (by decide) (by unfold begS; omega) (by decide), z 605 31 (by decide) (by decide) (by unfold begS; omega) (by decide), z 605 32 (by decide) (by decide) (by unfold begS; omega) (by decide)⟩, fun j hj => absurd hj (Nat.not_lt_zero j), fun j hj => absurd hj (Nat.not_lt_zero j)⟩, fun j _ => z 633 j (by decide) (by decide) (by unfold begS; omega) (by decide), fun j _ => ?_, fun k _ => ⟨z 640 k (by decide) (by decide) (by unfold begS; omega) (by decide), fun d hd => absurd (show (none : Option DS) = some d from hd) (by simp)⟩, ⟨Or.inl (z 605 33 (by decide) (by decide) (by unfold begS; omega) (by decide)), fun y => ?_⟩⟩, ⟨⟨fun v hv => ⟨(h8 v hv).1, (h8 v hv).2.1, fun i hi => absurd hi (Nat.not_lt_zero i)⟩, fun v hv => ⟨(h8 v hv).2.2, z 629 v (by decide) (by decide) (by unfold begS; omega) (by decide), fun i hi => absurd hi (Nat.not_lt_zero i)⟩, fun m hm => h9 m hm, fun k _ => h7 631 k (by decide) (by decide) (by decide) (by decide) (by unfold begS; omega)⟩, v2, v3, v4, fun j hj => absurd hj (Nat.not_lt_zero j), v9, v10⟩, EOk_x0, ⟨0, by decide, z 605 60 (by decide) (by decide) (by unfold begS; omega) (by decide), trivial⟩, ⟨v8, by decide⟩, fun t ht => absurd ht (by simp [s0, gTr, gRn]), v5, v6, v7⟩
  · show gI M 634 j = blI (wbB (fun _ => 0) j)
    rw [wb0]
    exact z 634 j (by decide) (by decide) (by unfold begS; omega) (by decide)
  · rw [z 605 33 (by decide) (by decide) (by unfold begS; omega) (by decide)] at y
    exact absurd y (by decide)
end
/-- the law's start -/
theorem pure_start {G : Nat → Nat → KT} {b L9 : Nat} {xs : Nat → Int32} (hc : cloL_law G b L9 xs) (hgo : ∀ M, Wf M → CI FlM M s0 → RI FlR M s0 → G 0 23 [some (.ref (200000 + b)), some (.ref 0), some (.ref 605), some (.ref 650), some (.int 0), none, none, none] [] M) : G 0 0 (lini 8 [.ref (200000 + b)]) [] M00 := by
  have hN0 : M00.1 = (0, true) := rfl
  have s9 : (Sh 0).1 = 9 := by decide +kernel
  have s10 : (Sh 605).1 = 10 := by decide +kernel
  have s650 : Sh 650 = (14, 1) := by decide +kernel
  refine (hc.2 0 (by decide)).1 _ _ _ (i_new hN0 s9 (by decide) (i_dup rfl (i_callI (nw_N hN0) (by decide) (by decide) (c_ini12 (nw_N hN0) (nw_0 hN0) (fun M1 hN1 _ hx1 => i_rN (i_astore (Nat.le_of_ble_eq_true rfl) (i_new (k := 605) hN1 s10 (by decide) (i_dup rfl (i_callI (nw_N (k := 605) hN1) (by decide) (by decide) (c_ini13 (nw_N (k := 605) hN1) (nw_0 (k := 605) hN1) (fun M2 hM => i_rN (i_astore (Nat.le_of_ble_eq_true rfl) (i_ic (i_newa hM.1 s650 (by decide) (by decide) (by decide) (i_astore (Nat.le_of_ble_eq_true rfl) (i_ic (i_istore (Nat.le_of_ble_eq_true rfl) ?_)))))))))))))))))
  have hN3 : (nwM M2).1 = (651, true) := nw_N hM.1
  refine hc.1 0 23 _ _ _ (by show (nwM M2).1.1 = 651; rw [hN3]) ?_
  -- the sealed memory
  have same : ∀ a, a < 650 → gI (seM (nwM M2)) a = gI M2 a ∧ gL (seM (nwM M2)) a = gL M2 a ∧ gD (seM (nwM M2)) a = gD M2 a ∧ gR (seM (nwM M2)) a = gR M2 a := fun a ha => nw_b hM.1 (by omega)
  have hA : XA (seM (nwM M2)) := by
    refine ⟨by show ((nwM M2).1.1, false) = wT; rw [hN3]; rfl, fun a ha => ?_, fun j => by rw [(same 605 (by decide)).2.2.2]; exact hM.2.2.1 j⟩
    obtain ⟨q1, q2, q3, q4⟩ := same a (by omega)
    obtain ⟨p1, p2, p3, p4⟩ := hM.2.1 a ha
    obtain ⟨n1, n2, n3, n4⟩ := nw_b (b := a) (k := 605) hN1 (by omega)
    obtain ⟨x1, x2, x3, x4⟩ := hx1 a (Nat.zero_le _) (by omega)
    exact ⟨q1.trans (p1.trans (n1.trans x1)), q2.trans (p2.trans (n2.trans x2)), q3.trans (p3.trans (n3.trans x3)), q4.trans (p4.trans (n4.trans x4))⟩
  refine hgo _ hA.wf hA.ci ?_
  have hr : RI FlR M2 s0 := hM.ri
  -- RI of the sealed one
  have hf : FrC (fun a _ => a = 650) M2 (M2.1, (nwM M2).2.1, (nwM M2).2.2.1, (nwM M2).2.2.2.1, M2.2.2.2.2) := ⟨rfl, rfl, fun a j z => by
    obtain ⟨q1, q2, q3, q4⟩ := nw_b (b := a) hM.1 z
    exact ⟨congrFun q1 j, congrFun q2 j, congrFun q3 j⟩⟩
  have h2 := hr.fr FlR_ok hf (fun a j z => by unfold rOc rPgc rKpc prS rXc; omega)
  obtain ⟨⟨o1, ⟨p1, p2, p3, p4, p5, p6⟩, o3, o4, o5, o6⟩, x1, x2, ⟨w, w1, w2, w3⟩, x4, x5, x6⟩ := h2
  exact ⟨⟨o1, ⟨p1, p2, p3, p4, p5, p6⟩, o3, o4, o5, o6⟩, x1, x2, ⟨w, w1, w2, trivial⟩, x4, x5, x6⟩
end START4
