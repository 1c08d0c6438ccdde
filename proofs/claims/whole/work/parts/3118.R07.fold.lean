section RFOLD
section
variable {M M' : Mem} {K : RT} {n i : Nat} {c : Nat → Nat → Int64}
theorem rInsG_fold {o : Nat} {r : Nat → Int64} {d : DS} (h : 41 ≤ o ∧ o ≤ 43) : insG o r d = (0, -1, 0, match foEnd o (frun o (di d (2 * rgN o r 0)) (onW (onS (nI (dn d (2 * rgN o r 0))) r (dm d))) (dn d (2 * rgN o r 0)) 0 none) with | none => d | some s => setS d (scN o r) s) := by
  unfold insG
  dsimp only
  rw [if_neg (by omega), if_neg (by omega), if_neg (by omega), if_neg (by omega), if_neg (by omega), if_neg (by omega), if_neg (by omega), if_neg (by omega), if_pos h]
  rfl
theorem fo_n {o : Nat} {x : Int64} : fo o none x = x := rfl
theorem fo_s {o : Nat} {v x : Int64} : fo o (some v) x = if o = 41 then v + x else if o = 42 then f_J9_min_f86c9 v x else f_J9_max_f86c9 v x := rfl
theorem lN_a0 (x : Int64) : (0 : Int64) + x = x := by rw [Int64.add_comm]; exact lN_0a x
theorem posR41 : ∀ o ∈ List.range 46, 41 ≤ o ∧ o ≤ 43 → 0 < cntR o 4 ∧ usS o = true ∧ posS o = 0 := by decide +kernel
/-- what the reference has in its accumulator -/
def accR (o : Nat) (S : Int64) (t : Option Int64) (v : Int64) (s : Int32) : Prop := match t with | none => s = 0 ∧ v = (if o = 41 then 0 else S) | some x => s = 1 ∧ v = x
theorem c_folds13 {d : DS} {o : Nat} (hW : Wf M) (hC : RC M n c i) (eo : cn (c i) 0 = o) (ho : 41 ≤ o ∧ o ≤ 43) (hF : FIT o (c i) d) (hD : RDc M d) (hO : gI M 605 70 = olR (c i) d) (h69 : gI M 605 69 = 0) (h : rinC M K (insG o (c i) d)) : sp_X13_folds [.ref 605, .int (nI i)] M K := by
  have o46 : o < 46 := by omega
  obtain ⟨p1, p2, p3⟩ := posR41 o (List.mem_range.mpr o46) ho
  have hv : VC o (c i) := by have := hC.2.2.2.2.vc; rw [eo] at this; exact this
  obtain ⟨m1, m2⟩ := sc_is o46 hv p2
  rw [p3] at m2
  obtain ⟨q0, e0⟩ := opOf (k := 0) hC (by decide) m2
  have q0 : q_X13_operandOf (nI i) (0 : Int32) M := q0
  have e0 : f_X13_operandOf (nI i) (0 : Int32) M = nI (scN o (c i)) := e0
  obtain ⟨v0, g0⟩ := regAt (k := 0) hC eo o46 p1
  rw [rInsG_fold ho] at h
  have hnn := hF.2.1
  obtain ⟨D1, D2, D3, D4⟩ := hD
  have hr : ¬ isRk (dk d (2 * rgN o (c i) 0)) := hF.2.2.1 (Or.inr (Or.inl ho))
  obtain ⟨o1, o2, o3⟩ := opI hC
  rw [eo] at o2
  have n41 : nI o = 41 ↔ o = 41 := nI_eq (b := 41) (by omega) (by decide)
  have n42 : nI o = 42 ↔ o = 42 := nI_eq (b := 42) (by omega) (by decide)
  refine wX13_folds hW (fun {G} hc => ⟨q0, c_regOf (k := 0) hW hC (by decide) (rX13_folds_0_8 hc hW ?_)⟩)
  rw [g0, e0, o2, n41, nI_clamp (by omega), D4 _ m1]
  have loop : ∀ f p : Nat, p + f = dn d (2 * rgN o (c i) 0) → ∀ (t : Option Int64) (v : Int64) (s : Int32) (o8 o9 : Option Value), accR o (dsc d (scN o (c i))) t v s → frun o (di d (2 * rgN o (c i) 0)) (onW (onS (nI (dn d (2 * rgN o (c i) 0))) (c i) (dm d))) f p t = frun o (di d (2 * rgN o (c i) 0)) (onW (onS (nI (dn d (2 * rgN o (c i) 0))) (c i) (dm d))) (dn d (2 * rgN o (c i) 0)) 0 none →
      G 43 [some (.ref 605), some (.int (nI i)), some (.int (nI (scN o (c i)))), some (.int (nI (rgN o (c i) 0))), some (.long v), none, some (.int s), some (.int (nI p)), o8, o9] [] M := by
    intro f
    induction f with
    | zero =>
      intro p hp t v s o8 o9 ha hR
      have eR : frun o (di d (2 * rgN o (c i) 0)) (onW (onS (nI (dn d (2 * rgN o (c i) 0))) (c i) (dm d))) 0 p t = t := rfl
      rw [eR] at hR
      rw [← hR] at h
      refine eX13_folds_43 hc hW ?_
      rw [nI_clamp (show rgN o (c i) 0 < 2 ^ 31 by omega), nI_clamp (show scN o (c i) < 2 ^ 31 by omega), (D1 _ v0).2.1]
      refine ⟨vpN v0 (by decide), fun _ => ⟨vpN m1 (by decide), ?_⟩, fun z => absurd (nI_le (by omega) (by omega)) z⟩
      have fr : FrC rinS M (uL M 631 (scN o (c i)) v) := FrC_uL (by unfold rinS; omega)
      refine h _ (fr.wf hW) fr ?_ (fun _ => ⟨h69, rfl⟩) (fun z => absurd rfl z)
      have hs : ∀ x : Int64, v = x → RDc (uL M 631 (scN o (c i)) v) (setS d (scN o (c i)) x) := fun x e => RDc.scal (S := fun a j => a = 631 ∧ j = scN o (c i)) (FrC_uL ⟨rfl, rfl⟩) (fun a j z _ => z) ⟨D1, D2, D3, D4⟩ (by rw [gL_uL, if_pos ⟨rfl, rfl⟩]; exact e)
      unfold foEnd
      cases t with
      | some x => exact hs x ha.2
      | none =>
        obtain ⟨-, a2⟩ := ha
        by_cases e41 : o = 41
        · rw [if_pos e41] at a2 ⊢
          exact hs 0 a2
        · rw [if_neg e41] at a2 ⊢
          have := hs _ a2
          have es : setS d (scN o (c i)) (dsc d (scN o (c i))) = d := by
            unfold setS
            have : up1 d.2.2.2.2 (scN o (c i)) (dsc d (scN o (c i))) = d.2.2.2.2 := funext fun j => by
              unfold up1
              split
              · rename_i e; rw [e]; rfl
              · rfl
            rw [this]
          rw [es] at this
          exact this
    | succ f ih =>
      intro p hp t v s o8 o9 ha hR
      obtain ⟨n1, n2⟩ := isOn_is (d := d) (j := p) (nn := dn d (2 * rgN o (c i) 0)) hC hO (by omega) hnn.2
      have eR : frun o (di d (2 * rgN o (c i) 0)) (onW (onS (nI (dn d (2 * rgN o (c i) 0))) (c i) (dm d))) (f + 1) p t = iT (onW (onS (nI (dn d (2 * rgN o (c i) 0))) (c i) (dm d)) p) (frun o (di d (2 * rgN o (c i) 0)) (onW (onS (nI (dn d (2 * rgN o (c i) 0))) (c i) (dm d))) f (p + 1) (some (fo o t (di d (2 * rgN o (c i) 0) p)))) (frun o (di d (2 * rgN o (c i) 0)) (onW (onS (nI (dn d (2 * rgN o (c i) 0))) (c i) (dm d))) f (p + 1) t) := rfl
      rw [eR] at hR
      have ea : (32 : Int32) * nI (rgN o (c i) 0) + nI p = nI (32 * rgN o (c i) 0 + p) := by rw [show (32 : Int32) = nI 32 from rfl, pk_mul, nI_add]
      refine eX13_folds_43 hc hW ?_
      rw [nI_clamp (show rgN o (c i) 0 < 2 ^ 31 by omega), (D1 _ v0).2.1, n2, ea, nI_clamp (show 32 * rgN o (c i) 0 + p < 2 ^ 31 by omega), ((D1 _ v0).2.2 p (by omega)).w hr, o2, n41, n42, nI_1]
      refine ⟨vpN v0 (by decide), fun z => absurd ((nI_leI (by omega) (by omega)).mp z) (by omega), fun _ => ⟨n1, fun off => ?_, fun on => ⟨vpN (by omega) (by decide), fun y1 hy1 => ⟨o1, fun n41' => ⟨fun s0 => ?_, fun s1 => ⟨o1, fun n42' => ⟨fun a => ?_, fun a => ?_⟩, fun e42 => ⟨fun a => ?_, fun a => ?_⟩⟩⟩, fun e41 => ?_⟩⟩⟩⟩
      · rw [iT_f off] at hR
        exact ih (p + 1) (by omega) t v s _ _ ha hR
      all_goals rw [iT_t on] at hR
      all_goals subst hy1
      · refine ih (p + 1) (by omega) _ _ _ _ _ ?_ hR
        cases t with
        | none => exact ⟨rfl, fo_n.symm⟩
        | some x => exact absurd (s0.symm.trans ha.1) (by decide)
      · refine ih (p + 1) (by omega) _ _ _ _ _ ?_ hR
        cases t with
        | none => exact absurd ha.1 s1
        | some x =>
          obtain ⟨-, rfl⟩ := ha
          refine ⟨rfl, ?_⟩
          rw [fo_s, if_neg n41', if_neg n42']
          show v = f_J9_max_f86c9 v _
          unfold f_J9_max_f86c9
          rw [if_neg (fun z => by rw [i64_lt] at z; exact z a)]
      · refine ih (p + 1) (by omega) _ _ _ _ _ ?_ hR
        cases t with
        | none => exact absurd ha.1 s1
        | some x =>
          obtain ⟨-, rfl⟩ := ha
          refine ⟨rfl, ?_⟩
          rw [fo_s, if_neg n41', if_neg n42']
          show _ = f_J9_max_f86c9 v _
          unfold f_J9_max_f86c9
          rw [if_pos ((i64_lt _ _).mpr a)]
      · refine ih (p + 1) (by omega) _ _ _ _ _ ?_ hR
        cases t with
        | none => exact absurd ha.1 s1
        | some x =>
          obtain ⟨-, rfl⟩ := ha
          refine ⟨rfl, ?_⟩
          rw [fo_s, if_neg n41', if_pos e42]
          show v = f_J9_min_f86c9 v _
          unfold f_J9_min_f86c9
          rw [if_neg (fun z => by rw [i64_lt] at z; exact z a)]
      · refine ih (p + 1) (by omega) _ _ _ _ _ ?_ hR
        cases t with
        | none => exact absurd ha.1 s1
        | some x =>
          obtain ⟨-, rfl⟩ := ha
          refine ⟨rfl, ?_⟩
          rw [fo_s, if_neg n41', if_pos e42]
          show _ = f_J9_min_f86c9 v _
          unfold f_J9_min_f86c9
          rw [if_pos ((i64_lt _ _).mpr a)]
      · refine ih (p + 1) (by omega) _ _ _ _ _ ?_ hR
        cases t with
        | none =>
          obtain ⟨-, a2⟩ := ha
          rw [if_pos e41] at a2
          exact ⟨rfl, by rw [a2, fo_n, lN_a0]⟩
        | some x =>
          obtain ⟨-, rfl⟩ := ha
          exact ⟨rfl, by rw [fo_s, if_pos e41]⟩
  refine ⟨o1, fun n41' => ⟨vpN m1 (by decide), ?_⟩, fun e41 => ?_⟩
  · exact loop _ 0 (Nat.zero_add _) none _ _ _ _ ⟨rfl, (if_neg n41').symm⟩ rfl
  · exact loop _ 0 (Nat.zero_add _) none _ _ _ _ ⟨rfl, (if_pos e41).symm⟩ rfl
end
end RFOLD
