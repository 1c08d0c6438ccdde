section TRAIL2
section
variable {tgf : Nat → Nat × Nat} {M : Mem} {K : RT}
theorem min_65 : ∀ h ∈ List.range 65, f_J9_min_7cf53 (nI h + 1) 64 = nI (min (h + 1) 64) := by decide +kernel
theorem c_addT {l : Nat} {es es' : ES} {tr : List TE} {pl wr s q : Nat} {x4 : Int32} (hW : Wf M) (ht : TrI M l tr.length) (hc : TrC M tgf l 0 es tr) (hn : SvIs M (rR M 10 5) s q (eD es)) (hb : SB s q (eD es') (eD es)) (hs : StepR es' es pl wr) (h4 : 0 < eK es → x4 = nI (eCf es (eK es - 1)))
    (h : ∀ M' l', Wf M' → Mo tlS M M' → TrI M' l' (((pl, wr, es) :: tr).take 64).length → TrC M' tgf l' 0 es' (((pl, wr, es) :: tr).take 64) → SvIs M' (rR M' 18 l') s q (eD es) → K none M') : sp_X11_add [.ref 10, .int (nI pl), .int (nI wr), .int (nI (eK es)), .int x4] M K := by
  obtain ⟨hl, g6, g0, hh, hD⟩ := ht
  have e0 : f_X11_slot (-1 : Int32) M = nI (slN (l + 1) 0) := by unfold f_X11_slot; rw [g6]; exact slot_n hl
  have hs0 : slN (l + 1) 0 < 64 := slN_lt
  generalize hsl : slN (l + 1) 0 = s0 at *
  have ecl : (f_X11_slot (-1 : Int32) M).toNatClampNeg = s0 := by rw [e0, nI_clamp (by omega)]
  have hv : vp_in (f_X11_slot (-1 : Int32) M) 64 := by rw [e0]; exact vpN hs0 (by decide)
  refine wX11_add hW ⟨hv, hv, hv, hv, hv, hv, hv, ?_⟩
  rw [ecl, e0, g0, min_65 tr.length (List.mem_range.mpr (by omega))]
  have kb : (Sh (rR M 19 s0)).1 = 6 := Wf.mutS (M := M) hW (mx_behind hs0)
  have ka : (Sh (rR M 18 s0)).1 = 6 := Wf.mutS (M := M) hW (mx_ahead hs0)
  have kn : (Sh (rR M 10 5)).1 = 6 := Wf.mutS (M := M) hW (show mx 10 5 = some 6 from by decide)
  have ob := sv_at kb
  have oa := sv_at ka
  have on := sv_at kn
  unfold m_X9_clear
  generalize hM1 : (uI (uI (uI (uI (uI (uI M 10 6 (nI s0)) 10 0 (nI (min (tr.length + 1) 64))) 11 s0 (nI pl)) 12 s0 (nI wr)) 13 s0 (nI (eK es))) 14 s0 x4) = M1
  have hW1 : Wf M1 := by rw [← hM1]; exact hW
  have hW' : Wf (uI (uR (uR M1 18 s0 (some (rR M 10 5))) 10 5 (some (rR M 18 s0))) (rR M 19 s0) 0 32) := Wf_uR (a := 10) (k := 5) (Wf_uR (a := 18) hW1 (mx_ahead hs0) (fx_ahead _) kn) (by decide) (by decide +kernel) ka
  have hR' : ∀ b j, rR (uI (uR (uR M1 18 s0 (some (rR M 10 5))) 10 5 (some (rR M 18 s0))) (rR M 19 s0) 0 32) b j = if b = 10 ∧ j = 5 then rR M 18 s0 else if b = 18 ∧ j = s0 then rR M 10 5 else rR M b j := by
    intro b j
    show rR (uR (uR M1 18 s0 (some (rR M 10 5))) 10 5 (some (rR M 18 s0))) b j = _
    rw [uR_rR, uR_rR, ← hM1]
    rfl
  have hmo1 : Mo (fun b => b ≤ 14 ∧ 10 ≤ b) M M1 := by
    rw [← hM1]
    exact (((((Mo_uI ⟨by decide, by decide⟩).tr (Mo_uI ⟨by decide, by decide⟩)).tr (Mo_uI ⟨by decide, by decide⟩)).tr (Mo_uI ⟨by decide, by decide⟩)).tr (Mo_uI ⟨by decide, by decide⟩)).tr (Mo_uI ⟨by decide, by decide⟩)
  have hmo : Mo (fun b => (10 ≤ b ∧ b ≤ 14) ∨ b = 18 ∨ b = rR M 19 s0) M (uI (uR (uR M1 18 s0 (some (rR M 10 5))) 10 5 (some (rR M 18 s0))) (rR M 19 s0) 0 32) :=
    by
      have q1 : Mo (fun b => (10 ≤ b ∧ b ≤ 14) ∨ b = 18 ∨ b = rR M 19 s0) M M1 := hmo1.mono (fun b hb => Or.inl ⟨hb.2, hb.1⟩)
      have q2 : Mo (fun b => (10 ≤ b ∧ b ≤ 14) ∨ b = 18 ∨ b = rR M 19 s0) M1 (uR M1 18 s0 (some (rR M 10 5))) := Mo_uR (Or.inr (Or.inl rfl))
      have q3 : Mo (fun b => (10 ≤ b ∧ b ≤ 14) ∨ b = 18 ∨ b = rR M 19 s0) (uR M1 18 s0 (some (rR M 10 5))) (uR (uR M1 18 s0 (some (rR M 10 5))) 10 5 (some (rR M 18 s0))) := Mo_uR (Or.inl ⟨by decide, by decide⟩)
      exact ((q1.tr q2).tr q3).tr (Mo_uI (Or.inr (Or.inr rfl)))
  have rI : ∀ a j, a ≠ rR M 19 s0 → gI (uI (uR (uR M1 18 s0 (some (rR M 10 5))) 10 5 (some (rR M 18 s0))) (rR M 19 s0) 0 32) a j = gI M1 a j := fun a j ha => rI_a ha
  have n19 : ∀ a, a ≤ 14 → a ≠ rR M 19 s0 := fun a ha => by omega
  generalize hM2 : (uI (uR (uR M1 18 s0 (some (rR M 10 5))) 10 5 (some (rR M 18 s0))) (rR M 19 s0) 0 32) = M2 at *
  have e1 : ∀ u, u < 129 → svR M2 u = svR M (if u = 0 then 1 + s0 else if u = 1 + s0 then 0 else u) := by
    intro u hu
    by_cases w : u = 0
    · subst w
      rw [if_pos rfl, svR_0, svR_a hs0, hR', if_pos ⟨rfl, rfl⟩]
    · rw [if_neg w]
      by_cases w2 : u = 1 + s0
      · subst w2
        rw [if_pos rfl, svR_0, svR_a hs0, hR', if_neg (by omega), if_pos ⟨rfl, rfl⟩]
      · rw [if_neg w2]
        unfold svR
        rw [if_neg w, if_neg w]
        split
        · rw [hR', if_neg (by omega), if_neg (by omega)]
        · rw [hR', if_neg (by omega), if_neg (by omega)]
  have hD2 : SvD M2 := hD.swap (p := 1 + s0) (by omega) e1
  have c0 : ∀ v : Int32, gI M1 10 6 = nI s0 ∧ gI M1 10 0 = nI (min (tr.length + 1) 64) ∧ gI M1 11 s0 = nI pl ∧ gI M1 12 s0 = nI wr ∧ gI M1 13 s0 = nI (eK es) ∧ gI M1 14 s0 = x4 := by
    intro _
    rw [← hM1]
    refine ⟨?_, ?_, ?_, ?_, ?_, rI_eq⟩
    · rw [rI_a (by decide), rI_a (by decide), rI_a (by decide), rI_a (by decide), rI_k (by decide), rI_eq]
    · rw [rI_a (by decide), rI_a (by decide), rI_a (by decide), rI_a (by decide), rI_eq]
    · rw [rI_a (by decide), rI_a (by decide), rI_a (by decide), rI_eq]
    · rw [rI_a (by decide), rI_a (by decide), rI_eq]
    · rw [rI_a (by decide), rI_eq]
  obtain ⟨v6, v0, v11, v12, v13, v14⟩ := c0 0
  have hlen : (((pl, wr, es) :: tr).take 64).length = min (tr.length + 1) 64 := by rw [List.length_take, List.length_cons]; omega
  have n2 : rR M 19 s0 ≠ rR M 10 5 := fun z => by
    rw [← svR_b, ← svR_0] at z
    have := hD _ _ (by omega) (by omega) z
    omega
  have hSv : SvIs M2 (rR M2 18 s0) s q (eD es) := by
    have r18 : rR M2 18 s0 = rR M 10 5 := by rw [hR', if_neg (by omega), if_pos ⟨rfl, rfl⟩]
    rw [r18]
    refine hn.mo hmo (fun b hb => ?_)
    rcases hb with z | z | z
    · intro y; have := y.1; omega
    · intro y; have := y.1; have := y.2; omega
    · subst z
      intro y
      exact sv_apart kb kn n2 _ ⟨Nat.le_refl _, by omega⟩ y
  refine h M2 s0 hW' (hmo.mono (fun b hb => ?_)) ⟨hs0, by rw [rI _ _ (n19 _ (by decide))]; exact v6, by rw [rI _ _ (n19 _ (by decide)), hlen]; exact v0, by rw [hlen]; omega, hD2⟩ ?_ hSv
  · rcases hb with z | z | z
    · exact ⟨by omega, by omega⟩
    · exact ⟨by omega, by omega⟩
    · exact ⟨by omega, by omega⟩
  · have es0 : slN s0 0 = s0 := by unfold slN; omega
    show TrC M2 tgf s0 0 es' ((pl, wr, es) :: tr.take 63)
    refine ⟨?_, hs, ?_, ?_⟩
    · rw [es0, rI _ _ (n19 _ (by decide)), rI _ _ (n19 _ (by decide)), rI _ _ (n19 _ (by decide)), rI _ _ (n19 _ (by decide))]
      exact ⟨v11, v12, v13, fun z => v14.trans (h4 z)⟩
    · rw [es0]
      have r19 : rR M2 19 s0 = rR M 19 s0 := by rw [hR', if_neg (by omega), if_neg (by omega)]
      refine ⟨32, 0, s, q, eD es', ?_, SB.rf, fun z => absurd rfl z, ?_, hb⟩
      · rw [r19]
        have g : gI M2 (rR M 19 s0) 0 = 32 := by rw [← hM2]; exact rI_eq
        exact ⟨g, by decide, ⟨fun z => absurd rfl z, by decide⟩, fun z => absurd z (by decide), fun z => absurd z (by decide), fun z => absurd z (by decide), fun z => absurd z (by decide)⟩
      · exact hSv
    · have := TrC.push (M := M) (M' := M2) (s0 := s0) hl hW hD hsl.symm (fun a j h1 h2 h3 => ?_) (fun j hj hne => ⟨?_, ?_⟩) (hmo.mono (fun b hb => ?_)) tr 0 es (by omega) hc
      · exact this
      · rw [rI _ _ (n19 _ h2), ← hM1, uI_else (fun z => h3 z.2), uI_else (fun z => h3 z.2), uI_else (fun z => h3 z.2), uI_else (fun z => h3 z.2), rI_a (by omega), rI_a (by omega)]
      · rw [hR', if_neg (by omega), if_neg (by omega)]
      · rw [hR', if_neg (by omega), if_neg (by omega)]
      · rcases hb with z | z | z
        · exact Or.inl (by omega)
        · exact Or.inr (Or.inl z)
        · subst z
          exact Or.inr (Or.inr (Or.inr ⟨Nat.le_refl _, by omega⟩))
theorem c_addFaultT {l s q : Nat} {es es' : ES} {tr : List TE} (hW : Wf M) (ht : TrI M l tr.length) (hc : TrC M tgf l 0 es tr) (hn : SvIs M (rR M 10 5) s q (eD es)) (hb : SB s q (eD es') (eD es)) (htg : tgf (ePc es) = (s, q)) (hes : es' = (eD es', es.2))
    (h : ∀ M', Wf M' → Mo tlS M M' → TrI M' l tr.length → TrC M' tgf l 0 es' tr → K none M') : sp_X11_addFault [.ref 10] M K := by
  obtain ⟨hl, g6, g0, hh, hD⟩ := ht
  have hpc : ePc es' = ePc es := by rw [hes]; rfl
  refine wX11_addFault hW ?_
  rw [g6, g0, nI_clamp (by omega)]
  cases tr with
  | nil => exact ⟨fun _ => h M hW Mo.rf ⟨hl, g6, g0, hh, hD⟩ trivial, fun z => absurd (by decide) z⟩
  | cons t rest =>
    have hlt : slN l 0 = l := by unfold slN; omega
    obtain ⟨a, b, ⟨sb, qb, sa, qa, e1, v1, v2, v3, v4, v5⟩, cc⟩ := hc
    rw [hlt] at v1 v4 a
    have e32 : nI sb = 32 ↔ sb = 32 := nI_eq (b := 32) (by have := v1.2.1; omega) (by decide)
    have hcl : P_X9_isClear (rR M 19 l) M ↔ sb = 32 := by unfold P_X9_isClear; rw [v1.1]; exact e32
    have hb' : StepR es' t.2.2 t.1 t.2.1 := by rw [hes]; exact b
    rw [List.length_cons] at *
    refine ⟨fun z => absurd ((nI_leI (b := 0) (by omega) (by decide)).mp z) (by omega), fun _ => ⟨vpN hl (by decide), fun z => ?_, fun z => ⟨vpN hl (by decide), vpN hl (by decide), ?_⟩⟩⟩
    · have z := fun w => z (hcl.mpr w)
      have tt := v3 z
      rw [htg] at tt
      refine h M hW Mo.rf ⟨hl, g6, g0, hh, hD⟩ ⟨by rw [hlt]; exact a, hb', ⟨sb, qb, sa, qa, e1, by rw [hlt]; exact v1, ?_, fun _ => by rw [hpc, htg]; exact tt, by rw [hlt]; exact v4, v5⟩, cc⟩
      rw [tt.1, tt.2]
      have v2 := v2
      rw [tt.1, tt.2] at v2
      exact hb.tr v2
    · have z := hcl.mp z
      have kb : (Sh (rR M 19 l)).1 = 6 := Wf.mutS (M := M) hW (mx_behind hl)
      have ka : (Sh (rR M 18 l)).1 = 6 := Wf.mutS (M := M) hW (mx_ahead hl)
      have kn : (Sh (rR M 10 5)).1 = 6 := Wf.mutS (M := M) hW (show mx 10 5 = some 6 from by decide)
      have hW' : Wf (uR (uR M 19 l (some (rR M 10 5))) 10 5 (some (rR M 19 l))) := Wf_uR (a := 10) (k := 5) (Wf_uR (a := 19) hW (mx_behind hl) (fx_behind _) kn) (by decide) (by decide +kernel) kb
      have hR' : ∀ b j, rR (uR (uR M 19 l (some (rR M 10 5))) 10 5 (some (rR M 19 l))) b j = if b = 10 ∧ j = 5 then rR M 19 l else if b = 19 ∧ j = l then rR M 10 5 else rR M b j := by
        intro b j
        rw [uR_rR, uR_rR]
      have hmo : Mo (fun b => b = 10 ∨ b = 19) M (uR (uR M 19 l (some (rR M 10 5))) 10 5 (some (rR M 19 l))) := (Mo_uR (Or.inr rfl)).tr (Mo_uR (Or.inl rfl))
      have hII : gI (uR (uR M 19 l (some (rR M 10 5))) 10 5 (some (rR M 19 l))) = gI M := rfl
      generalize hM2 : (uR (uR M 19 l (some (rR M 10 5))) 10 5 (some (rR M 19 l))) = M2 at *
      have e1' : ∀ u, u < 129 → svR M2 u = svR M (if u = 0 then 65 + l else if u = 65 + l then 0 else u) := by
        intro u hu
        by_cases w : u = 0
        · subst w
          rw [if_pos rfl, svR_0, svR_b, hR', if_pos ⟨rfl, rfl⟩]
        · rw [if_neg w]
          by_cases w2 : u = 65 + l
          · subst w2
            rw [if_pos rfl, svR_0, svR_b, hR', if_neg (by omega), if_pos ⟨rfl, rfl⟩]
          · rw [if_neg w2]
            unfold svR
            rw [if_neg w, if_neg w]
            split
            · rw [hR', if_neg (by omega), if_neg (by omega)]
            · rw [hR', if_neg (by omega), if_neg (by omega)]
      have hD2 : SvD M2 := hD.swap (p := 65 + l) (by omega) e1'
      have r19 : rR M2 19 l = rR M 10 5 := by rw [hR', if_neg (by omega), if_pos ⟨rfl, rfl⟩]
      have r18 : ∀ j, rR M2 18 j = rR M 18 j := fun j => by rw [hR', if_neg (by omega), if_neg (by omega)]
      have on := sv_at kn
      have oa := sv_at ka
      have rest' : ∀ (rr : List TE) (k : Nat) (cur : ES), k + rr.length ≤ 64 → 1 ≤ k → TrC M tgf l k cur rr → TrC M2 tgf l k cur rr := by
        intro rr
        induction rr with
        | nil => intro k cur _ _ _; exact trivial
        | cons t2 r2 ih =>
          intro k cur hk h1 hc
          rw [List.length_cons] at hk
          obtain ⟨b1, b2, b3, b4⟩ := hc
          have ne : slN l k ≠ l := by unfold slN; omega
          have hlt2 := slN_lt (l := l) (k := k)
          have k1 : (Sh (rR M 19 (slN l k))).1 = 6 := Wf.mutS (M := M) hW (mx_behind hlt2)
          have k2 : (Sh (rR M 18 (slN l k))).1 = 6 := Wf.mutS (M := M) hW (mx_ahead hlt2)
          have o1 := sv_at k1
          have o2 := sv_at k2
          refine ⟨by rw [hII]; exact b1, b2, b3.mo hmo ⟨by rw [hR', if_neg (by omega), if_neg (by omega)], r18 _⟩ (fun b hb => ⟨fun y => ?_, fun y => ?_⟩), ih (k + 1) _ (by omega) (by omega) b4⟩
          · have := y.1; have := y.2; rcases hb with w | w <;> omega
          · have := y.1; have := y.2; rcases hb with w | w <;> omega
      refine h M2 hW' (hmo.mono (fun b hb => by rcases hb with w | w <;> exact ⟨by omega, by omega⟩)) ⟨hl, by rw [hII]; exact g6, by rw [hII]; exact g0, hh, hD2⟩ ⟨by rw [hlt, hII]; exact a, hb', ⟨s, q, sa, qa, eD es, ?_, hb, fun _ => by rw [hpc, htg]; exact ⟨rfl, rfl⟩, ?_, ?_⟩, rest' rest 1 _ (by omega) (by decide) cc⟩
      · rw [hlt, r19]
        refine hn.mo hmo (fun b hb y => ?_)
        have := y.1; have := y.2; rcases hb with w | w <;> omega
      · rw [hlt, r18]
        refine v4.mo hmo (fun b hb y => ?_)
        have := y.1; have := y.2; rcases hb with w | w <;> omega
      · subst z
        exact (SB.of32 v2).tr v5
/-- whether a watched element is another one -/
def wbit (w : Int64) (i : Nat) : Prop := ¬ (w >>> ((nI i).toInt64 &&& 63)) &&& (1 : Int64) = 0
def wchg (w : Nat → Int64) (s q : Nat) (e d : DS) : Prop := s = 65 ∧ ∃ i, i < dn e (2 * q + 1) ∧ wbit (w q) i ∧ di e (2 * q + 1) i ≠ di d (2 * q + 1) i
theorem c_isChanged {r s q : Nat} {d e : DS} {w : Nat → Int64} (hW : Wf M) (hr6 : (Sh r).1 = 6) (hr : RD M 405 d) (hv : SvIs M r s q e) (hn : s = 65 → dn d (2 * q + 1) = dn e (2 * q + 1)) (hw : ∀ m, m < 8 → gL M 456 m = w m) (h : K (some (.int (pI (wchg w s q e d)))) M) : sp_X9_isChanged [.ref r, .ref 405, .ref 456] M K := by
  obtain ⟨a1, a2, ⟨a3, a3q⟩, a4, a5, a6, a7⟩ := hv
  have e65 : nI s = 65 ↔ s = 65 := nI_eq (b := 65) (by omega) (by decide)
  refine wX9_isChanged hW hr6 (fun {G} hc => ?_)
  rw [a1]
  refine ⟨fun z => ?_, fun z => pI_goF h (fun y => z (e65.mpr y.1))⟩
  have z := e65.mp z
  have a3 := a3 (by omega)
  obtain ⟨b1, b2, b3, b4⟩ := a5 z
  have row := hr.arr a3q
  have k5 : (Sh (412 + 4 * q)).1 = 5 := SstAN (a := 405) rfl Sk_405 a3q
  rw [a3, nI_clamp (by omega)]
  refine ⟨vpN a3q (by decide), ?_⟩
  have loop : ∀ j i, i + j = dn e (2 * q + 1) → (∀ p, p < i → wbit (w q) p → di e (2 * q + 1) p = di d (2 * q + 1) p) → G 24 [some (.ref r), some (.ref 405), some (.ref 456), some (.ref (412 + 4 * q)), some (.int (nI i))] [] M := by
    intro j
    induction j with
    | zero =>
      intro i hi hp
      refine eX9_isChanged_24 hc hW hr6 k5 ?_
      rw [b2]
      exact ⟨fun _ => pI_goF h (fun y => by obtain ⟨-, p, p1, p2, p3⟩ := y; exact p3 (hp p (by omega) p2)), fun y => absurd (nI_le (by omega) (by omega)) y⟩
    | succ j ih =>
      intro i hi hp
      refine eX9_isChanged_24 hc hW hr6 k5 ?_
      rw [b2, a3, nI_clamp (by omega), hw q a3q, nI_clamp (by omega), b4 i (by omega), row.2.2.2 i (by rw [hn z]; omega), nI_1]
      refine ⟨fun y => absurd ((nI_leI (by omega) (by omega)).mp y) (by omega), fun _ => ⟨vpN a3q (by decide), fun y => ?_, fun y => ⟨vpN (by omega) (by decide), vpN (by omega) (by decide), fun x => ?_, fun x => pI_goT h ⟨z, i, by omega, y, x⟩⟩⟩⟩
      · refine ih (i + 1) (by omega) (fun p hp2 pb => ?_)
        by_cases w2 : p = i
        · subst w2; exact absurd y pb
        · exact hp p (by omega) pb
      · refine ih (i + 1) (by omega) (fun p hp2 pb => ?_)
        by_cases w2 : p = i
        · subst w2; exact x
        · exact hp p (by omega) pb
  exact loop (dn e (2 * q + 1)) 0 (by omega) (fun p hp => absurd hp (by omega))
end
end TRAIL2
