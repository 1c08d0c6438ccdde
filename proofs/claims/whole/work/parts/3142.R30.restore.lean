section RRESTORE
section
variable {M M' : Mem} {K : RT} {s : SG} {Fr : Mem → Nat → (Nat → Nat → Int64) → Prop}
def anwS (a j : Nat) : Prop := begS a j ∨ a = 633 ∨ (a = 605 ∧ j = 33)
theorem anw_ {a j : Nat} (h : anwS a j) : (a = 605 ∧ (j = 2 ∨ j = 33 ∨ j = 42 ∨ (44 ≤ j ∧ j ≤ 50) ∨ j = 59)) ∨ (a = 624 ∨ a = 625 ∨ a = 630) ∨ a = 633 := by
  unfold anwS begS at h
  omega
/-- what a change of the program brings with it -/
theorem c_anew13 {n n' : Nat} {x : ES} {tr : List TE} {ft : FT} (hW : Wf M) (hX : RX M n' x tr ft) (hn : gI M 605 23 = nI n ∧ n ≤ 100) (h : ∀ M', Wf M' → FrC anwS M M' → (∀ i, i < 100 → gI M' 633 i = 0) → gI M' 605 33 = 0 → RX M' n (clrD (eD x), 0, 0, eCf x, 0, 0, decide (n = 0)) [] noF → gI M' 605 2 = 0 → K none M') : sp_X13_anew [.ref 605] M K := by
  refine wX13_anew hW (fun {G} hc => ?_)
  have loop : ∀ f p : Nat, p + f = 100 → ∀ M1, Wf M1 → FrC (fun a _ => a = 633) M M1 → (∀ k, k < p → gI M1 633 k = 0) → G 2 [some (.ref 605), some (.int (nI p))] [] M1 := by
    intro f
    induction f with
    | zero =>
      intro p hp M1 hW1 fx hz
      have hp : p = 100 := by omega
      subst hp
      refine eX13_anew_2 hc hW1 ⟨fun _ => ?_, fun z => absurd (by decide) z⟩
      have f2 : FrC (fun a j => a = 605 ∧ j = 33) M1 (uI M1 605 33 0) := FrC_uI ⟨rfl, rfl⟩
      have f02 : FrC (fun a j => a = 633 ∨ (a = 605 ∧ j = 33)) M (uI M1 605 33 0) := (fx.mono (fun a j z => Or.inl z)).tr (f2.mono (fun a j z => Or.inr z))
      refine c_beg13 (f2.wf hW1) (hX.fr f02 (fun a j z => by unfold rXc; omega)) ⟨by rw [f02.i (by omega)]; exact hn.1, hn.2⟩ (fun M2 hW2 f3 hX2 z2 => rX13_anew_21_4 hc hW2 (h M2 hW2 ((f02.mono (fun a j z => by unfold anwS; omega)).tr (f3.mono (fun a j z => Or.inl z))) (fun i hi => ?_) ?_ hX2 z2))
      · rw [f3.i (by unfold begS; omega), f2.i (by omega)]; exact hz i hi
      · rw [f3.i (by unfold begS; omega), gI_uI, if_pos ⟨rfl, rfl⟩]
    | succ f ih =>
      intro p hp M1 hW1 fx hz
      refine eX13_anew_2 hc hW1 ⟨fun z => absurd ((nI_leI (a := 100) (by decide) (by omega)).mp z) (by omega), fun _ => ?_⟩
      rw [nI_clamp (by omega), nI_1]
      have f2 : FrC (fun a j => a = 633 ∧ j = p) M1 (uI M1 633 p 0) := FrC_uI ⟨rfl, rfl⟩
      refine ⟨vpN (by omega) (by decide), ih (p + 1) (by omega) _ (f2.wf hW1) (fx.tr (f2.mono (fun a j z => z.1))) (fun k hk => ?_)⟩
      by_cases e : k = p
      · subst e; rw [gI_uI, if_pos ⟨rfl, rfl⟩]
      · rw [f2.i (by omega)]; exact hz k (by omega)
  exact loop 100 0 rfl M hW FrC.rf (fun k hk => absurd hk (Nat.not_lt_zero k))
def asaS (a j : Nat) : Prop := anwS a j ∨ a = 618 ∨ a = 619 ∨ a = 620 ∨ (a = 605 ∧ (j = 23 ∨ j = 31))
theorem asa_ {a j : Nat} (h : asaS a j) : (a = 605 ∧ (j = 2 ∨ j = 23 ∨ j = 31 ∨ j = 33 ∨ j = 42 ∨ (44 ≤ j ∧ j ≤ 50) ∨ j = 59)) ∨ (a = 618 ∨ a = 619 ∨ a = 620 ∨ a = 624 ∨ a = 625 ∨ a = 630) ∨ a = 633 := by
  unfold asaS at h
  rcases h with h | h
  · have := anw_ h
    omega
  · omega
theorem c_asA13 {n n' : Nat} {c : Nat → Nat → Int64} {x : ES} {tr : List TE} {ft : FT} (hW : Wf M) (hX : RX M n' x tr ft) (hn : gI M 605 27 = nI n ∧ n ≤ 100) (hc0 : RPr M 621 622 623 n c) (h : ∀ M', Wf M' → FrC asaS M M' → RPr M' 618 619 620 n c → gI M' 605 23 = nI n → gI M' 605 31 = 0 → (∀ i, i < 100 → gI M' 633 i = 0) → gI M' 605 33 = 0 → RX M' n (clrD (eD x), 0, 0, eCf x, 0, 0, decide (n = 0)) [] noF → gI M' 605 2 = 0 → K none M') : sp_X13_asAssembled [.ref 605] M K := by
  refine wX13_asAssembled hW (fun {G} hc => ?_)
  rw [hn.1]
  have f0 : FrC (fun a j => a = 605 ∧ j = 23) M (uI M 605 23 (nI n)) := FrC_uI ⟨rfl, rfl⟩
  have z0 : gI (uI M 605 23 (nI n)) 605 23 = nI n := by rw [gI_uI, if_pos ⟨rfl, rfl⟩]
  generalize uI M 605 23 (nI n) = M0 at f0 z0 ⊢
  have hW0 := f0.wf hW
  have hd : RPr M0 621 622 623 n c := hc0.fr f0 (fun j => by omega) (fun j => by omega) (fun j => by omega)
  have loop : ∀ f p : Nat, p + f = n → ∀ M1 (o2 : Option Value), Wf M1 → FrC (fun a _ => a = 618 ∨ a = 619 ∨ a = 620) M0 M1 → RPr M1 618 619 620 p c → G 10 [some (.ref 605), some (.int (nI p)), o2] [] M1 := by
    intro f
    induction f with
    | zero =>
      intro p hp M1 o2 hW1 fx hp1
      have hp : p = n := by omega
      subst hp
      refine eX13_asAssembled_10 hc hW1 ⟨fun _ => ?_, fun z => absurd (by rw [fx.i (by omega), z0]; exact nI_le (Nat.le_refl _) (by omega)) z⟩
      have f2 : FrC (fun a j => a = 605 ∧ j = 31) M1 (uI M1 605 31 0) := FrC_uI ⟨rfl, rfl⟩
      have f02 : FrC (fun a j => (a = 605 ∧ (j = 23 ∨ j = 31)) ∨ a = 618 ∨ a = 619 ∨ a = 620) M (uI M1 605 31 0) := ((f0.mono (fun a j z => by omega)).tr (fx.mono (fun a j z => by omega))).tr (f2.mono (fun a j z => by omega))
      have g23 : gI (uI M1 605 31 0) 605 23 = nI p := by rw [f2.i (by omega), fx.i (by omega)]; exact z0
      refine c_anew13 (f2.wf hW1) (hX.fr f02 (fun a j z => by unfold rXc; omega)) ⟨g23, hn.2⟩ (fun M2 hW2 f3 hs hf hX2 z2 => rX13_asAssembled_81_4 hc hW2 (h M2 hW2 ((f02.mono (fun a j z => by unfold asaS; omega)).tr (f3.mono (fun a j z => Or.inl z))) ?_ ?_ ?_ hs hf hX2 z2))
      · exact (hp1.fr f2 (fun j => by omega) (fun j => by omega) (fun j => by omega)).fr f3 (fun j z => by have := anw_ z; omega) (fun j z => by have := anw_ z; omega) (fun j z => by have := anw_ z; omega)
      · rw [f3.i (fun z => by have := anw_ z; omega)]; exact g23
      · rw [f3.i (fun z => by have := anw_ z; omega), gI_uI, if_pos ⟨rfl, rfl⟩]
    | succ f ih =>
      intro p hp M1 o2 hW1 fx hp1
      have n100 := hn.2
      refine eX13_asAssembled_10 hc hW1 ?_
      rw [show gI M1 605 23 = nI n by rw [fx.i (by omega)]; exact z0]
      refine ⟨fun z => absurd ((nI_leI (a := n) (by omega) (by omega)).mp z) (by omega), fun _ => ?_⟩
      obtain ⟨d1, d2, d3⟩ := hd p (by omega)
      have g1 : gI M1 621 p = nI (cn (c p) 0) := by rw [fx.i (by omega)]; exact d1
      have g3 : gI M1 623 p = (c p 5).toInt32 := by rw [fx.i (by omega)]; exact d3
      rw [nI_clamp (by omega), g1, g3]
      have f2 : FrC (fun a j => (a = 618 ∨ a = 620) ∧ j = p) M1 (uI (uI M1 618 p (nI (cn (c p) 0))) 620 p ((c p 5).toInt32)) := (FrC_uI ⟨Or.inl rfl, rfl⟩).tr (FrC_uI ⟨Or.inr rfl, rfl⟩)
      have h1 : gI (uI (uI M1 618 p (nI (cn (c p) 0))) 620 p ((c p 5).toInt32)) 618 p = nI (cn (c p) 0) ∧ gI (uI (uI M1 618 p (nI (cn (c p) 0))) 620 p ((c p 5).toInt32)) 620 p = (c p 5).toInt32 := ⟨by rw [gI_uI, if_neg (by omega), gI_uI, if_pos ⟨rfl, rfl⟩], by rw [gI_uI, if_pos ⟨rfl, rfl⟩]⟩
      generalize uI (uI M1 618 p (nI (cn (c p) 0))) 620 p ((c p 5).toInt32) = M2 at f2 h1 ⊢
      have hW2 := f2.wf hW1
      refine ⟨vpN (by omega) (by decide), vpN (by omega) (by decide), vpN (by omega) (by decide), vpN (by omega) (by decide), ?_⟩
      have inner : ∀ f q : Nat, q + f = 4 → ∀ M3, Wf M3 → FrC (fun a j => a = 619 ∧ 4 * p ≤ j ∧ j < 4 * p + 4) M2 M3 → (∀ k, k < q → gL M3 619 (4 * p + k) = c p (k + 1)) → G 44 [some (.ref 605), some (.int (nI p)), some (.int (nI q))] [] M3 := by
        intro f'
        induction f' with
        | zero =>
          intro q hq M3 hW3 f3 hk
          have hq : q = 4 := by omega
          subst hq
          refine eX13_asAssembled_44 hc hW3 ⟨fun _ => ?_, fun z => absurd (by decide) z⟩
          rw [nI_1]
          refine ih (p + 1) (by omega) _ _ hW3 ((fx.tr (f2.mono (fun a j z => by omega))).tr (f3.mono (fun a j z => by omega))) (fun i hi => ?_)
          by_cases e : i = p
          · subst e
            exact ⟨by rw [f3.i (by omega)]; exact h1.1, fun k hk4 => hk k hk4, by rw [f3.i (by omega)]; exact h1.2⟩
          · obtain ⟨u1, u2, u3⟩ := hp1 i (by omega)
            exact ⟨by rw [f3.i (by omega), f2.i (by omega)]; exact u1, fun k hk4 => by rw [f3.l (by omega), f2.l (by omega)]; exact u2 k hk4, by rw [f3.i (by omega), f2.i (by omega)]; exact u3⟩
        | succ f' ih' =>
          intro q hq M3 hW3 f3 hk
          refine eX13_asAssembled_44 hc hW3 ⟨fun z => absurd ((nI_leI (a := 4) (by decide) (by omega)).mp z) (by omega), fun _ => ?_⟩
          have e : (4 : Int32) * nI p + nI q = nI (4 * p + q) := by rw [show (4 : Int32) = nI 4 from rfl, pk_mul, nI_add]
          have g2 : gL M3 622 (4 * p + q) = c p (q + 1) := by rw [f3.l (by omega), f2.l (by omega), fx.l (by omega)]; exact d2 q (by omega)
          rw [e, nI_clamp (by omega), g2, nI_1]
          have f4 : FrC (fun a j => a = 619 ∧ j = 4 * p + q) M3 (uL M3 619 (4 * p + q) (c p (q + 1))) := FrC_uL ⟨rfl, rfl⟩
          refine ⟨vpN (by omega) (by decide), vpN (by omega) (by decide), ih' (q + 1) (by omega) _ (f4.wf hW3) (f3.tr (f4.mono (fun a j z => by omega))) (fun k hk1 => ?_)⟩
          by_cases e : k = q
          · subst e; rw [gL_uL, if_pos ⟨rfl, rfl⟩]
          · rw [f4.l (by omega)]; exact hk k (by omega)
      exact inner 4 0 rfl M2 hW2 FrC.rf (fun k hk => absurd hk (Nat.not_lt_zero k))
  exact loop n 0 (by omega) M0 _ hW0 FrC.rf (fun i hi => absurd hi (Nat.not_lt_zero i))
theorem b_restore (hFr : FrOK Fr) (hW : Wf M) (hI : RI Fr M s) (h : ∀ M', Wf M' → FrC rfS M M' → RI Fr M' (sRestore s).2 → gI M' 605 2 = 0 → K (some (.int (sRestore s).1)) M') : sp_X13_restore [.ref 605] M K := by
  obtain ⟨k1, k2, k3, k4⟩ := hI.end0 hFr hW (x := 0)
  unfold sRestore at h
  refine wX13_restore hW (fun {G} hc => ?_)
  obtain ⟨⟨o1, ⟨p1, p2, p3, p4, ⟨p5, p6, p7, p8⟩, p9, p10⟩, o3, o4, o5, o6⟩, hX⟩ := k3
  rw [show gI M 605 31 = blI (gSl s) from hI.1.2.1.2.2.2.2.1.2.2.1, blI_0]
  refine ⟨fun z => ?_, fun z => by rw [if_neg (by rw [z]; decide)] at h; exact h _ k1 k2 ⟨⟨o1, ⟨p1, p2, p3, p4, ⟨p5, p6, p7, p8⟩, p9, p10⟩, o3, o4, o5, o6⟩, hX⟩ k4⟩
  have z : gSl s = true := by simpa using z
  rw [if_pos z] at h
  refine c_asA13 k1 hX ⟨p6, p4.2.1⟩ p3 (fun M2 hW2 f2 q1 q2 q3 q4 q5 hX2 z2 => rX13_restore_14_1 hc hW2 (h M2 hW2 (k2.tr (f2.mono (fun a j z => by have := asa_ z; unfold rfS; omega))) ⟨⟨?_, ⟨?_, q1, ?_, ⟨p4.2.1, p4.2.1, p4.2.2⟩, ⟨q2, ?_, q3, ?_⟩, p10, p10⟩, fun i hi => q4 i hi, ?_, ?_, ⟨Or.inl q5, fun z => by rw [q5] at z; exact absurd z (by decide)⟩⟩, hX2⟩ z2))
  · exact o1.fr f2 (fun z => by have := asa_ z; omega) (fun j z => by have := asa_ z; omega)
  · exact fun o ho => by
      rw [f2.l (fun z => by have := asa_ z; omega), f2.l (fun z => by have := asa_ z; omega)]; exact p1 o ho
  · exact p3.fr f2 (fun j z => by have := asa_ z; omega) (fun j z => by have := asa_ z; omega) (fun j z => by have := asa_ z; omega)
  · rw [f2.i (fun z => by have := asa_ z; omega)]; exact p6
  · rw [f2.i (fun z => by have := asa_ z; omega)]; exact p8
  · exact o4.fr f2 (fun j z => by have := asa_ z; omega)
  · exact o5.fr f2 (fun a j z => by have := asa_ z; unfold rKpc; omega)
end
end RRESTORE
