section STEP
section
variable {n l : Nat} {c : Nat → Nat → Int64} {x : ES} {tr : List TE} {M : Mem} {K : RT} {G : Nat → KT}
def CE (M : Mem) (x : ES) : Prop := RD M 405 (eD x) ∧ LnOK M ∧ gI M 7 2 = nI (ePc x) ∧ gI M 7 3 = nI (eK x) ∧ (∀ j, j < eK x → gI M 446 j = nI (eCf x j)) ∧ gI M 7 4 = (eSt x).toInt32 ∧ gI M 7 5 = (eLn x).toInt32 ∧ gI M 7 6 = (if eEn x = true then 1 else 0)
def stpS (b : Nat) : Prop := b = 7 ∨ (10 ≤ b ∧ b ≤ 446)
/-- next may be written -/
theorem TrC.nx {S : Nat → Prop} {M' : Mem} {tgf : Nat → Nat × Nat} (hW : Wf M) (hD : SvD M) (h : Mo S M M') (hS : ∀ b, S b → ¬ tlS b ∨ svS (rR M 10 5) b) : ∀ (tr : List TE) (k : Nat) (cur : ES), TrC M tgf l k cur tr → TrC M' tgf l k cur tr := by
  have kn : (Sh (rR M 10 5)).1 = 6 := Wf.mutS (M := M) hW (show mx 10 5 = some 6 from by decide)
  have on := sv_at kn
  have out : ∀ b, S b → ¬ (10 ≤ b ∧ b ≤ 14) ∧ b ≠ 18 ∧ b ≠ 19 := fun b hb => by
    rcases hS b hb with z | z
    · unfold tlS at z; omega
    · have := z.1; have := z.2; omega
  intro tr
  induction tr with
  | nil => intro k cur _; exact trivial
  | cons t rest ih =>
    intro k cur hc
    obtain ⟨⟨a1, a2, a3, a4⟩, a5, a6, a7⟩ := hc
    have nI : ∀ a j, 10 ≤ a → a ≤ 14 → gI M' a j = gI M a j := fun a j h1 h2 => h.I (fun z => (out _ z).1 ⟨h1, h2⟩)
    have r18 : ∀ j, rR M' 18 j = rR M 18 j := fun j => by unfold rR; rw [h.R (fun z => (out _ z).2.1 rfl)]
    have r19 : ∀ j, rR M' 19 j = rR M 19 j := fun j => by unfold rR; rw [h.R (fun z => (out _ z).2.2 rfl)]
    have hlt := slN_lt (l := l) (k := k)
    have b1 : (Sh (rR M 19 (slN l k))).1 = 6 := Wf.mutS (M := M) hW (mx_behind hlt)
    have b2 : (Sh (rR M 18 (slN l k))).1 = 6 := Wf.mutS (M := M) hW (mx_ahead hlt)
    have n1 : rR M 10 5 ≠ rR M 19 (slN l k) := fun z => by
      rw [← svR_b, ← svR_0] at z
      have := hD _ _ (by omega) (by omega) z
      omega
    have n2 : rR M 10 5 ≠ rR M 18 (slN l k) := fun z => by
      rw [← svR_0, ← svR_a hlt] at z
      have := hD _ _ (by omega) (by omega) z
      omega
    refine ⟨⟨by rw [nI _ _ (by decide) (by decide)]; exact a1, by rw [nI _ _ (by decide) (by decide)]; exact a2, by rw [nI _ _ (by decide) (by decide)]; exact a3, fun z => by rw [nI _ _ (by decide) (by decide)]; exact a4 z⟩, a5, a6.mo h ⟨r19 _, r18 _⟩ (fun b hb => ⟨fun z => ?_, fun z => ?_⟩), ih _ _ a7⟩
    · rcases hS b hb with y | y
      · exact y (sv_tl hW hlt (Or.inl z))
      · exact sv_apart kn b1 n1 b y z
    · rcases hS b hb with y | y
      · exact y (sv_tl hW hlt (Or.inr z))
      · exact sv_apart kn b2 n2 b y z
theorem TrI.nx {S : Nat → Prop} {M' : Mem} {h : Nat} (hW : Wf M) (hm : Mo S M M') (hS : ∀ b, S b → ¬ tlS b ∨ svS (rR M 10 5) b) (ht : TrI M l h) : TrI M' l h := by
  obtain ⟨a1, a2, a3, a4, a5⟩ := ht
  have kn : (Sh (rR M 10 5)).1 = 6 := Wf.mutS (M := M) hW (show mx 10 5 = some 6 from by decide)
  have on := sv_at kn
  have out : ∀ b, S b → ¬ (10 ≤ b ∧ b ≤ 14) ∧ b ≠ 18 ∧ b ≠ 19 := fun b hb => by
    rcases hS b hb with z | z
    · unfold tlS at z; omega
    · have := z.1; have := z.2; omega
  have r10 : ∀ j, rR M' 10 j = rR M 10 j := fun j => by unfold rR; rw [hm.R (fun z => (out _ z).1 ⟨by decide, by decide⟩)]
  have r18 : ∀ j, rR M' 18 j = rR M 18 j := fun j => by unfold rR; rw [hm.R (fun z => (out _ z).2.1 rfl)]
  have r19 : ∀ j, rR M' 19 j = rR M 19 j := fun j => by unfold rR; rw [hm.R (fun z => (out _ z).2.2 rfl)]
  have e : ∀ u, svR M' u = svR M u := fun u => by unfold svR; rw [r10, r18, r19]
  refine ⟨a1, ?_, ?_, a4, fun u v hu hv z => a5 u v hu hv (by rw [← e, ← e]; exact z)⟩
  · rw [hm.I (fun z => (out _ z).1 ⟨by decide, by decide⟩)]; exact a2
  · rw [hm.I (fun z => (out _ z).1 ⟨by decide, by decide⟩)]; exact a3
/-- what comes out of a step -/
def StK (K : RT) (n : Nat) (c : Nat → Nat → Int64) (x : ES) (tr : List TE) (M : Mem) : Prop :=
  ∀ M' l', Wf M' → Mo stpS M M' → CE M' (exX n (c (ePc x)) x).2.2.2 → TrI M' l' (if (exX n (c (ePc x)) x).1 = 0 then ((ePc x, (exX n (c (ePc x)) x).2.2.1, x) :: tr).take 64 else tr).length → TrC M' (fun i => tgX (c i)) l' 0 (exX n (c (ePc x)) x).2.2.2 (if (exX n (c (ePc x)) x).1 = 0 then ((ePc x, (exX n (c (ePc x)) x).2.2.1, x) :: tr).take 64 else tr)
    → gI M' 7 7 = (exX n (c (ePc x)) x).1 → ((exX n (c (ePc x)) x).1 ≠ 0 → gI M' 7 8 = nI (ePc x) ∧ gI M' 7 9 = (exX n (c (ePc x)) x).2.1) → ((exX n (c (ePc x)) x).1 = 0 → SvIs M' (rR M' 18 l') (tgX (c (ePc x))).1 (tgX (c (ePc x))).2 (eD x)) → K (some (.int (exX n (c (ePc x)) x).1)) M'
theorem or_en {fin : Bool} {pc : Nat} : (if fin = true then (1 : Int32) else 0) ||| (if pc < n then (0 : Int32) else 1) = if (fin || decide (n ≤ pc)) = true then 1 else 0 := by
  by_cases h : pc < n
  · rw [if_pos h, decide_eq_false (by omega : ¬ n ≤ pc), Bool.or_false]
    cases fin <;> decide
  · rw [if_neg h, decide_eq_true (by omega : n ≤ pc), Bool.or_true]
    cases fin <;> decide
theorem stp_272 (hc : cloX5_step G K wT) (hK : StK K n c x tr M) (hv : VI n (c (ePc x))) (hn : n ≤ 100) (hx : EOk n x) (he : eEn x = false) {M7 : Mem} (hW : Wf M7) (hm : Mo stpS M M7) (h8 : gI M7 8 0 = nI n) (ht : TrI M7 l tr.length) (hT : TrC M7 (fun i => tgX (c i)) l 0 x tr) (hS : SvIs M7 (rR M7 10 5) (tgX (c (ePc x))).1 (tgX (c (ePc x))).2 (eD x))
    (hF : gI M7 7 7 = (exX n (c (ePc x)) x).1) (h78 : gI M7 7 8 = nI (ePc x)) (h4 : gI M7 7 4 = (eSt x).toInt32) (h5 : gI M7 7 5 = (eLn x).toInt32) (hr : RD M7 405 (eD (exX n (c (ePc x)) x).2.2.2)) (hl : LnOK M7)
    (hA : (exX n (c (ePc x)) x).1 = 0 → ∃ d' pc' k' cf' fin, (exX n (c (ePc x)) x).2.2.2 = adv n x d' pc' k' cf' (exX n (c (ePc x)) x).2.2.1 fin ∧ gI M7 7 2 = nI pc' ∧ gI M7 7 3 = nI k' ∧ (∀ j, j < k' → gI M7 446 j = nI (cf' j)) ∧ gI M7 7 6 = (if fin = true then 1 else 0) ∧ gI M7 404 3 = nI (exX n (c (ePc x)) x).2.2.1)
    (hB : (exX n (c (ePc x)) x).1 ≠ 0 → gI M7 7 3 = nI (eK x) ∧ (∀ j, j < eK x → gI M7 446 j = nI (eCf x j)) ∧ gI M7 7 6 = 0 ∧ gI M7 404 2 = (exX n (c (ePc x)) x).2.1)
    {o2 : Option Value} {x4 : Int32} (hx4 : 0 < eK x → x4 = nI (eCf x (eK x - 1))) : G 272 [some (.ref 7), some (.int (nI (ePc x))), o2, some (.int (nI (eK x))), some (.int x4)] [] M7 := by
  obtain ⟨k1, k2, k3, k4⟩ := ex_ok hn hv hx he
  have hot : SB (tgX (c (ePc x))).1 (tgX (c (ePc x))).2 (eD (exX n (c (ePc x)) x).2.2.2) (eD x) := k2.sb
  refine eX5_step_272 hc hW ?_
  rw [hF, h8]
  refine ⟨fun z => ?_, fun z => ?_⟩
  · obtain ⟨d', pc', k', cf', fin, e, a2, a3, a4, a6, aw⟩ := hA z
    have hok := k1
    rw [e] at hok
    have hpc : pc' ≤ n := hok.1
    rw [a2, a6, nI_ltI (by omega) (by omega)]
    have go : ∀ s2 : Int32, s2 = (if pc' < n then (0 : Int32) else 1) → G 331 [some (.ref 7), some (.int (nI (ePc x))), o2, some (.int (nI (eK x))), some (.int x4)] [.int s2, .int (if fin = true then (1 : Int32) else 0), .ref 7] M7 := by
      intro s2 es2
      refine eX5_step_331 hc hW ⟨?_, ?_⟩
      · rw [es2, or_en]
        split
        · exact Or.inr rfl
        · exact Or.inl rfl
      · rw [es2, or_en, aw, h4, h5]
        have hm8 : Mo (fun b => b = 7) M7 (uI (uI (uI M7 7 6 (if (fin || decide (n ≤ pc')) = true then 1 else 0)) 7 4 ((eSt x).toInt32 + 1)) 7 5 ((eLn x).toInt32 + nI (exX n (c (ePc x)) x).2.2.1)) := ((Mo_uI (S := fun b => b = 7) rfl).tr (Mo_uI rfl)).tr (Mo_uI rfl)
        have e74 : gI (uI (uI (uI M7 7 6 (if (fin || decide (n ≤ pc')) = true then 1 else 0)) 7 4 ((eSt x).toInt32 + 1)) 7 5 ((eLn x).toInt32 + nI (exX n (c (ePc x)) x).2.2.1)) 7 4 = (eSt x).toInt32 + 1 := by rw [rI_k (by decide), rI_eq]
        have e75 : gI (uI (uI (uI M7 7 6 (if (fin || decide (n ≤ pc')) = true then 1 else 0)) 7 4 ((eSt x).toInt32 + 1)) 7 5 ((eLn x).toInt32 + nI (exX n (c (ePc x)) x).2.2.1)) 7 5 = (eLn x).toInt32 + nI (exX n (c (ePc x)) x).2.2.1 := rI_eq
        have e76 : gI (uI (uI (uI M7 7 6 (if (fin || decide (n ≤ pc')) = true then 1 else 0)) 7 4 ((eSt x).toInt32 + 1)) 7 5 ((eLn x).toInt32 + nI (exX n (c (ePc x)) x).2.2.1)) 7 6 = (if (fin || decide (n ≤ pc')) = true then 1 else 0) := by rw [rI_k (by decide), rI_k (by decide), rI_eq]
        have e7 : ∀ j, j ≠ 4 → j ≠ 5 → j ≠ 6 → gI (uI (uI (uI M7 7 6 (if (fin || decide (n ≤ pc')) = true then 1 else 0)) 7 4 ((eSt x).toInt32 + 1)) 7 5 ((eLn x).toInt32 + nI (exX n (c (ePc x)) x).2.2.1)) 7 j = gI M7 7 j := fun j w1 w2 w3 => by rw [rI_k w2, rI_k w1, rI_k w3]
        have eR : gR (uI (uI (uI M7 7 6 (if (fin || decide (n ≤ pc')) = true then 1 else 0)) 7 4 ((eSt x).toInt32 + 1)) 7 5 ((eLn x).toInt32 + nI (exX n (c (ePc x)) x).2.2.1)) = gR M7 := rfl
        have hW8 : Wf (uI (uI (uI M7 7 6 (if (fin || decide (n ≤ pc')) = true then 1 else 0)) 7 4 ((eSt x).toInt32 + 1)) 7 5 ((eLn x).toInt32 + nI (exX n (c (ePc x)) x).2.2.1)) := hW
        generalize (uI (uI (uI M7 7 6 (if (fin || decide (n ≤ pc')) = true then 1 else 0)) 7 4 ((eSt x).toInt32 + 1)) 7 5 ((eLn x).toInt32 + nI (exX n (c (ePc x)) x).2.2.1)) = M8 at *
        have r8 : rR M8 10 5 = rR M7 10 5 := by unfold rR; rw [eR]
        have out7 : ∀ b, b = 7 → ¬ tlS b := fun b hb z => by have := z.1; omega
        have kn : (Sh (rR M7 10 5)).1 = 6 := Wf.mutS (M := M7) hW (show mx 10 5 = some 6 from by decide)
        have on := sv_at kn
        refine c_addT (tgf := fun i => tgX (c i)) (l := l) (es := x) (es' := (exX n (c (ePc x)) x).2.2.2) (tr := tr) (s := (tgX (c (ePc x))).1) (q := (tgX (c (ePc x))).2) hW8 (ht.mo hm8 out7) (hT.mo hW hm8 out7 _ _ _) ?_ hot (k3 z) hx4 (fun M9 l' hW9 hm9 ht9 hT9 hS9 => ?_)
        · rw [r8]
          exact hS.mo hm8 (fun b hb y => by have hb : b = 7 := hb; have := y.1; omega)
        · refine rX5_step_331_24 hc hW9 ?_
          have hKK := hK M9 l' hW9 ((hm.tr (hm8.mono (fun b hb => Or.inl hb))).tr (hm9.mono (fun b hb => Or.inr ⟨hb.1, by have := hb.2; omega⟩)))
          rw [if_pos z] at hKK
          have g7 : ∀ j, gI M9 7 j = gI M8 7 j := fun j => hm9.I (fun y => by have := y.1; omega)
          have hce : CE M9 (exX n (c (ePc x)) x).2.2.2 := by
            refine ⟨(hr.mo hm8 (fun b hb => by have hb : b = 7 := hb; omega)).mo hm9 (fun b hb => by have := hb.2; omega), ?_, ?_, ?_, fun j hj => ?_, ?_, ?_, ?_⟩
            · obtain ⟨l1, l2, l3, l4⟩ := hl
              have f4 : ∀ j, gI M9 404 j = gI M7 404 j := fun j => by rw [hm9.I (fun y => by have := y.2; omega), hm8.I (by decide)]
              have f5 : ∀ a j, a = 404 ∨ a = 443 → gR M9 a j = gR M7 a j := fun a j ha => by rw [hm9.R (fun y => by have := y.2; omega), eR]
              refine ⟨fun j hj => ?_, ?_, ?_, ?_⟩
              · obtain ⟨q, q1, q2⟩ := l1 j hj; exact ⟨q, q1, by rw [f5 _ _ (Or.inr rfl)]; exact q2⟩
              · obtain ⟨q, q1, q2⟩ := l2; exact ⟨q, q1, by rw [f5 _ _ (Or.inl rfl)]; exact q2⟩
              · obtain ⟨q, q1, q2⟩ := l3; exact ⟨q, q1, by rw [f4]; exact q2⟩
              · obtain ⟨q, q1, q2⟩ := l4; exact ⟨q, q1, by rw [f4]; exact q2⟩
            · rw [g7, e7 _ (by decide) (by decide) (by decide), a2, e]; rfl
            · rw [g7, e7 _ (by decide) (by decide) (by decide), a3, e]; rfl
            · rw [hm9.I (fun y => by have := y.2; omega), hm8.I (by decide)]
              rw [e] at hj ⊢
              exact a4 j hj
            · rw [g7, e74, e]
              show _ = (eSt x + 1).toInt32
              rw [Int64.toInt32_add]; rfl
            · rw [g7, e75, e]
              show _ = (eLn x + lN _).toInt32
              rw [Int64.toInt32_add, lN_toI]
            · rw [g7, e76, e]; rfl
          have hh := hKK hce ht9 hT9 (by rw [g7, e7 _ (by decide) (by decide) (by decide)]; exact hF) (fun w => absurd z w) (fun _ => hS9)
          rw [z] at hh
          exact hh
    refine ⟨fun w => go 0 (by rw [if_pos w]), fun w => go 1 (by rw [if_neg w])⟩
  · obtain ⟨b3, b4, b6, b2⟩ := hB z
    have hm8 : Mo (fun b => b = 7) M7 (uI (uI M7 7 2 (nI (ePc x))) 7 9 (gI M7 404 2)) := (Mo_uI (S := fun b => b = 7) rfl).tr (Mo_uI rfl)
    have e72 : gI (uI (uI M7 7 2 (nI (ePc x))) 7 9 (gI M7 404 2)) 7 2 = nI (ePc x) := by rw [rI_k (by decide), rI_eq]
    have e79 : gI (uI (uI M7 7 2 (nI (ePc x))) 7 9 (gI M7 404 2)) 7 9 = gI M7 404 2 := rI_eq
    have e7 : ∀ j, j ≠ 2 → j ≠ 9 → gI (uI (uI M7 7 2 (nI (ePc x))) 7 9 (gI M7 404 2)) 7 j = gI M7 7 j := fun j w1 w2 => by rw [rI_k w2, rI_k w1]
    have eR : gR (uI (uI M7 7 2 (nI (ePc x))) 7 9 (gI M7 404 2)) = gR M7 := rfl
    have hW8 : Wf (uI (uI M7 7 2 (nI (ePc x))) 7 9 (gI M7 404 2)) := hW
    generalize (uI (uI M7 7 2 (nI (ePc x))) 7 9 (gI M7 404 2)) = M8 at *
    have r8 : rR M8 10 5 = rR M7 10 5 := by unfold rR; rw [eR]
    have out7 : ∀ b, b = 7 → ¬ tlS b := fun b hb z => by have := z.1; omega
    have kn : (Sh (rR M7 10 5)).1 = 6 := Wf.mutS (M := M7) hW (show mx 10 5 = some 6 from by decide)
    have on := sv_at kn
    refine c_addFaultT (tgf := fun i => tgX (c i)) (l := l) (es := x) (es' := (exX n (c (ePc x)) x).2.2.2) (tr := tr) (s := (tgX (c (ePc x))).1) (q := (tgX (c (ePc x))).2) hW8 (ht.mo hm8 out7) (hT.mo hW hm8 out7 _ _ _) ?_ hot rfl (k4 z) (fun M9 hW9 hm9 ht9 hT9 => ?_)
    · rw [r8]
      exact hS.mo hm8 (fun b hb y => by have hb : b = 7 := hb; have := y.1; omega)
    · refine rX5_step_279_10 hc hW9 ?_
      have hKK := hK M9 l hW9 ((hm.tr (hm8.mono (fun b hb => Or.inl hb))).tr (hm9.mono (fun b hb => Or.inr ⟨hb.1, by have := hb.2; omega⟩)))
      rw [if_neg z] at hKK
      have g7 : ∀ j, gI M9 7 j = gI M8 7 j := fun j => hm9.I (fun y => by have := y.1; omega)
      have e := k4 z
      have hce : CE M9 (exX n (c (ePc x)) x).2.2.2 := by
        refine ⟨(hr.mo hm8 (fun b hb => by have hb : b = 7 := hb; omega)).mo hm9 (fun b hb => by have := hb.2; omega), ?_, ?_, ?_, fun j hj => ?_, ?_, ?_, ?_⟩
        · obtain ⟨l1, l2, l3, l4⟩ := hl
          have f4 : ∀ j, gI M9 404 j = gI M7 404 j := fun j => by rw [hm9.I (fun y => by have := y.2; omega), hm8.I (by decide)]
          have f5 : ∀ a j, a = 404 ∨ a = 443 → gR M9 a j = gR M7 a j := fun a j ha => by rw [hm9.R (fun y => by have := y.2; omega), eR]
          refine ⟨fun j hj => ?_, ?_, ?_, ?_⟩
          · obtain ⟨q, q1, q2⟩ := l1 j hj; exact ⟨q, q1, by rw [f5 _ _ (Or.inr rfl)]; exact q2⟩
          · obtain ⟨q, q1, q2⟩ := l2; exact ⟨q, q1, by rw [f5 _ _ (Or.inl rfl)]; exact q2⟩
          · obtain ⟨q, q1, q2⟩ := l3; exact ⟨q, q1, by rw [f4]; exact q2⟩
          · obtain ⟨q, q1, q2⟩ := l4; exact ⟨q, q1, by rw [f4]; exact q2⟩
        · rw [g7, e72, e]; rfl
        · rw [g7, e7 _ (by decide) (by decide), b3, e]; rfl
        · rw [hm9.I (fun y => by have := y.2; omega), hm8.I (by decide)]
          rw [e] at hj ⊢
          exact b4 j hj
        · rw [g7, e7 _ (by decide) (by decide), h4, e]; rfl
        · rw [g7, e7 _ (by decide) (by decide), h5, e]; rfl
        · rw [g7, e7 _ (by decide) (by decide), b6, e]
          show (0 : Int32) = if eEn x = true then 1 else 0
          rw [he]; rfl
      have hh := hKK hce ht9 hT9 (by rw [g7, e7 _ (by decide) (by decide)]; exact hF) (fun _ => ⟨by rw [g7, e7 _ (by decide) (by decide)]; exact h78, by rw [g7, e79]; exact b2⟩) (fun w => absurd w z)
      have : gI M9 7 7 = (exX n (c (ePc x)) x).1 := by rw [g7, e7 _ (by decide) (by decide)]; exact hF
      rw [this]
      exact hh
end
end STEP
