section BACK
section
variable {M M' : Mem} {K : RT} {X : Mem → Prop} {s : SG} {Fl : Mem → Nat → (Nat → Nat → Int64) → Prop} {S : Nat → Prop}
theorem TrC.pop {tgf : Nat → Nat × Nat} {l : Nat} : ∀ (tr : List TE) (k : Nat) (cur : ES), k + tr.length ≤ 63 → TrC M tgf l (k + 1) cur tr → TrC M tgf (slN l 1) k cur tr := by
  intro tr
  induction tr with
  | nil => intro k cur _ _; exact trivial
  | cons t rest ih =>
    intro k cur hk hc
    obtain ⟨a, b, c, e⟩ := hc
    rw [List.length_cons] at hk
    have es : slN l (k + 1) = slN (slN l 1) k := by unfold slN; omega
    rw [es] at a c
    exact ⟨a, b, c, ih (k + 1) _ (by omega) e⟩
/-- taking back the latest step -/
theorem c_backX {n : Nat} {c : Nat → Nat → Int64} {x : ES} {t : TE} {tr : List TE} {ft : FT} (hW : Wf M) (hC : CX M n c x (t :: tr) ft) (hn : n ≤ 100)
    (h : ∀ M', Wf M' → Mo stpS M M' → CX M' n c t.2.2 tr noF → K (some (.int (nI t.1))) M') : sp_X5_takeBack [.ref 7] M K := by
  obtain ⟨⟨e1, e2, e3, e4, e5, e6, e7, e8⟩, ⟨x1, x2, x3, x4, x5⟩, ⟨l, hI, hT⟩, hO, f1, f2, f3⟩ := hC
  have hI0 := hI
  obtain ⟨i1, i2, i3, i4, i5⟩ := hI
  obtain ⟨⟨t1, t2, t3, t4⟩, ⟨s1, s2, s3, s4, s5⟩, ⟨sb, qb, sa, qa, d1, v1, v2, v3, v4, v5⟩, tT⟩ := hT
  obtain ⟨y1, y2, y3, y4, y5⟩ := hO t (List.mem_cons_self)
  have hl0 : slN l 0 = l := by unfold slN; omega
  rw [hl0] at t1 t2 t3 t4 v1 v4
  rw [List.length_cons] at i3 i4
  have b19 : (Sh (rR M 19 l)).1 = 6 := Wf.mutS (M := M) hW (mx_behind i1)
  have b18 : (Sh (rR M 18 l)).1 = 6 := Wf.mutS (M := M) hW (mx_ahead i1)
  have a19 := sv_at b19
  have a18 := sv_at b18
  obtain ⟨q1, P1⟩ := give_is hW b19 e1 v1 v2
  have vl : vp_in (nI l) 64 := vpN i1 (by decide)
  refine wX5_takeBack hW (fun {G} hc => ⟨fun _ => ?_, fun z => absurd z (by rw [i3]; exact fun z => absurd ((nI_eq (b := 0) (by omega) (by decide)).mp z) (by omega))⟩)
  refine wX11_drop hW ?_
  rw [i2, nI_clamp (by omega)]
  refine ⟨vl, q1, vl, ?_⟩
  refine P1 (fun M1 => q_X9_giveBack (rR M1 18 l) M1 ∧ RX5_takeBack_12_4 G K [some (.ref 7), none] ((some (Value.int (nI l))).toList ++ []) (uI (uI (m_X9_giveBack (rR M1 18 l) M1) 10 6 (f_X11_slot (1 : Int32) (m_X9_giveBack (rR M1 18 l) M1))) 10 0 ((gI (m_X9_giveBack (rR M1 18 l) M1) 10 0) - (1 : Int32)))) (fun M1 hW1 hm1 hR1 hr1 => ?_)
  have r18 : rR M1 18 l = rR M 18 l := by unfold rR; rw [hR1]
  rw [r18]
  have v4' : SvIs M1 (rR M 18 l) sa qa (eD t.2.2) := v4.mo hm1 (fun b hb hh => by unfold stS at hb; unfold svS at hh; omega)
  obtain ⟨q2, P2⟩ := give_is hW1 b18 hr1 v4' v5
  refine ⟨q2, ?_⟩
  refine P2 (fun M2 => RX5_takeBack_12_4 G K [some (.ref 7), none] ((some (Value.int (nI l))).toList ++ []) (uI (uI M2 10 6 (f_X11_slot (1 : Int32) M2)) 10 0 (gI M2 10 0 - (1 : Int32)))) (fun M2 hW2 hm2 hR2 hr2 => ?_)
  have hm02 : Mo (stS 405) M M2 := hm1.tr hm2
  have g2 : ∀ a j, a ≤ 404 → gI M2 a j = gI M a j := fun a j ha => hm02.I (by unfold stS; omega)
  have esl : f_X11_slot (1 : Int32) M2 = nI (slN l 1) := by
    unfold f_X11_slot
    rw [g2 _ _ (by decide), i2]
    exact slot_l i1 (by decide)
  have elen : gI M2 10 0 - (1 : Int32) = nI tr.length := by
    rw [g2 _ _ (by decide), i3, show (1 : Int32) = nI 1 from rfl, pk_sub (by omega)]
    rfl
  rw [esl, elen]
  generalize hM3 : uI (uI M2 10 6 (nI (slN l 1))) 10 0 (nI tr.length) = M3
  have hm3 : Mo (fun b => b = 10 ∨ stS 405 b) M M3 := by
    subst hM3
    have hx : Mo (fun b => b = 10 ∨ stS 405 b) M M2 := hm02.mono (fun b hb => Or.inr hb)
    exact (hx.tr (Mo_uI (Or.inl rfl))).tr (Mo_uI (Or.inl rfl))
  have hW3 : Wf M3 := by subst hM3; exact Wf_uI (Wf_uI hW2)
  have hr3 : RD M3 405 (eD t.2.2) := by
    subst hM3
    exact hr2.mo ((Mo_uI (S := fun b => b = 10) rfl).tr (Mo_uI rfl)) (fun b hb => by have hb : b = 10 := hb; omega)
  have h106 : gI M3 10 6 = nI (slN l 1) := by subst hM3; rw [rI_k (by decide), rI_eq]
  have h100 : gI M3 10 0 = nI tr.length := by subst hM3; exact rI_eq
  have g3 : ∀ a j, a ≠ 10 → a ≤ 404 → gI M3 a j = gI M a j := fun a j h1 h2 => hm3.I (fun z => by unfold stS at z; omega)
  have hTT : TrC M3 (fun i => tgX (c i)) l 1 t.2.2 tr := by
    have h1 : TrC M2 (fun i => tgX (c i)) l 1 t.2.2 tr := tT.mo hW hm02 (fun b hb hh => by unfold stS at hb; unfold tlS at hh; omega) _ _ _
    have : ∀ (tr : List TE) (k : Nat) (cur : ES), TrC M2 (fun i => tgX (c i)) l k cur tr → TrC M3 (fun i => tgX (c i)) l k cur tr := by
      have hm23 : Mo (fun b => b = 10) M2 M3 := by subst hM3; exact (Mo_uI (S := fun b => b = 10) rfl).tr (Mo_uI rfl)
      intro tr
      induction tr with
      | nil => intro k cur _; exact trivial
      | cons u rest ih =>
        intro k cur hc
        obtain ⟨⟨a1, a2, a3, a4⟩, a5, a6, a7⟩ := hc
        have nI : ∀ a j, a ≠ 10 → gI M3 a j = gI M2 a j := fun a j h1 => hm23.I h1
        have nR : ∀ a j, a ≠ 10 → rR M3 a j = rR M2 a j := fun a j h1 => by unfold rR; rw [hm23.R h1]
        have hlt := slN_lt (l := l) (k := k)
        have b1 : (Sh (rR M2 19 (slN l k))).1 = 6 := Wf.mutS (M := M2) hW2 (mx_behind hlt)
        have b2 : (Sh (rR M2 18 (slN l k))).1 = 6 := Wf.mutS (M := M2) hW2 (mx_ahead hlt)
        have o1 := sv_at b1
        have o2 := sv_at b2
        refine ⟨⟨by rw [nI _ _ (by decide)]; exact a1, by rw [nI _ _ (by decide)]; exact a2, by rw [nI _ _ (by decide)]; exact a3, fun z => by rw [nI _ _ (by decide)]; exact a4 z⟩, a5, a6.mo hm23 ⟨nR _ _ (by decide), nR _ _ (by decide)⟩ (fun b hb => ⟨fun z => ?_, fun z => ?_⟩), ih _ _ a7⟩
        · have hb : b = 10 := hb
          have := z.1; omega
        · have hb : b = 10 := hb
          have := z.1; omega
    exact this _ _ _ h1
  have hTp := TrC.pop tr 0 t.2.2 (by omega) hTT
  have hSv : SvD M3 := by
    have e : ∀ u, svR M3 u = svR M u := fun u => by
      have eR : ∀ a j, rR M3 a j = rR M a j := fun a j => by
        subst hM3
        unfold rR
        show (gR M2 a j).getD 0 = (gR M a j).getD 0
        rw [hR2, hR1]
      unfold svR; rw [eR, eR, eR]
    intro u v hu hv z
    exact i5 u v hu hv (by rw [← e, ← e]; exact z)
  -- the rest of the step
  have fin : ∀ M4 : Mem, Wf M4 → Mo (fun b => b = 7 ∨ b = 446) M3 M4 → gI M4 7 2 = nI (ePc t.2.2) → gI M4 7 3 = nI (eK t.2.2) → (∀ j, j < eK t.2.2 → gI M4 446 j = nI (eCf t.2.2 j)) → gI M4 7 4 = gI M3 7 4 → gI M4 7 5 = gI M3 7 5 → G 77 [some (.ref 7), some (.int (nI l))] [] M4 := by
    intro M4 hW4 hm4 p2 p3 p6 p4 p5
    refine eX5_takeBack_77 hc hW4 ⟨vl, ?_⟩
    have hm34 : Mo (fun b => b = 7 ∨ b = 446) M3 (uI (uI (uI (uI M4 7 4 ((gI M4 7 4) - (1 : Int32))) 7 5 ((gI M4 7 5) - (gI M4 12 (nI l).toNatClampNeg))) 7 6 (0 : Int32)) 7 7 (0 : Int32)) := (((hm4.tr (Mo_uI (Or.inl rfl))).tr (Mo_uI (Or.inl rfl))).tr (Mo_uI (Or.inl rfl))).tr (Mo_uI (Or.inl rfl))
    have hm05 : Mo (fun b => (b = 10 ∨ stS 405 b) ∨ (b = 7 ∨ b = 446)) M (uI (uI (uI (uI M4 7 4 ((gI M4 7 4) - (1 : Int32))) 7 5 ((gI M4 7 5) - (gI M4 12 (nI l).toNatClampNeg))) 7 6 (0 : Int32)) 7 7 (0 : Int32)) := (hm3.mono (fun b hb => Or.inl hb)).tr (hm34.mono (fun b hb => Or.inr hb))
    have eg : gI M4 7 2 = nI t.1 := by rw [p2, s1]
    rw [eg]
    refine h _ (Wf_uI (Wf_uI (Wf_uI (Wf_uI hW4)))) (hm05.mono (fun b hb => by unfold stS at hb; unfold stpS; omega)) ⟨⟨hr3.mo hm34 (fun b hb => by omega), ?_, ?_, ?_, fun j hj => ?_, ?_, ?_, ?_⟩, ⟨y1, y2, y3, y4, y5⟩, ⟨slN l 1, ⟨slN_lt, ?_, ?_, by omega, ?_⟩, ?_⟩, fun u hu => hO u (List.mem_cons_of_mem _ hu), ?_, fun z => absurd rfl z, fun _ => rfl⟩
    · exact e2.out hm05 (by unfold stS; omega) (by unfold stS; omega)
    · rw [rI_k (by decide), rI_k (by decide), rI_k (by decide), rI_k (by decide)]; exact p2
    · rw [rI_k (by decide), rI_k (by decide), rI_k (by decide), rI_k (by decide)]; exact p3
    · have : ∀ (M : Mem) (k : Nat) (x : Int32), gI (uI M 7 k x) 446 j = gI M 446 j := fun M k x => (Mo_uI (S := fun b => b = 7) (M := M) (a := 7) (k := k) (x := x) rfl).I (by decide)
      rw [this, this, this, this]; exact p6 j hj
    · rw [rI_k (by decide), rI_k (by decide), rI_k (by decide), rI_eq, p4, g3 _ _ (by decide) (by decide), e6, s3, Int64.toInt32_add]
      have : (1 : Int64).toInt32 = 1 := rfl
      rw [this, Int32.add_sub_cancel]
    · rw [rI_k (by decide), rI_k (by decide), rI_eq]
      have e12 : gI M4 12 (nI l).toNatClampNeg = nI t.2.1 := by rw [nI_clamp (by omega), hm4.I (by omega), g3 _ _ (by decide) (by decide), t2]
      rw [p5, g3 _ _ (by decide) (by decide), e7, s4, e12, Int64.toInt32_add, lN_toI, Int32.add_sub_cancel]
    · rw [rI_k (by decide), rI_eq, s2]; rfl
    · rw [hm34.I (by omega)]; exact h106
    · rw [hm34.I (by omega)]; exact h100
    · have e : ∀ u, svR (uI (uI (uI (uI M4 7 4 ((gI M4 7 4) - (1 : Int32))) 7 5 ((gI M4 7 5) - (gI M4 12 (nI l).toNatClampNeg))) 7 6 (0 : Int32)) 7 7 (0 : Int32)) u = svR M3 u := fun u => by
        have eR : ∀ a j, a = 10 ∨ a = 18 ∨ a = 19 → rR (uI (uI (uI (uI M4 7 4 ((gI M4 7 4) - (1 : Int32))) 7 5 ((gI M4 7 5) - (gI M4 12 (nI l).toNatClampNeg))) 7 6 (0 : Int32)) 7 7 (0 : Int32)) a j = rR M3 a j := fun a j ha => by unfold rR; rw [hm34.R (by omega)]
        unfold svR; rw [eR _ _ (Or.inl rfl), eR _ _ (Or.inr (Or.inl rfl)), eR _ _ (Or.inr (Or.inr rfl))]
      intro u v hu hv z
      exact hSv u v hu hv (by rw [← e, ← e]; exact z)
    · exact hTp.mo hW3 hm34 (fun b hb hh => by unfold tlS at hh; omega) _ _ _
    · exact rI_eq
  refine rX5_takeBack_12_4 hc hW3 ?_
  rw [nI_clamp (by omega), g3 _ _ (by decide) (by decide), g3 _ _ (by decide) (by decide), g3 _ _ (by decide) (by decide), t1, t3]
  refine ⟨vl, vl, fun z => ?_, fun z => ?_⟩
  · have ek : eK t.2.2 = 0 := by have := (nI_leI (b := 0) (by omega) (by decide)).mp z; omega
    refine fin _ (Wf_uI (Wf_uI hW3)) ((Mo_uI (Or.inl rfl)).tr (Mo_uI (Or.inl rfl))) ?_ ?_ (fun j hj => absurd hj (by omega)) ?_ ?_
    · rw [rI_k (by decide), rI_eq, s1]
    · exact rI_eq
    · rw [rI_k (by decide), rI_k (by decide)]
    · rw [rI_k (by decide), rI_k (by decide)]
  · have ek : 0 < eK t.2.2 := by
      rcases Nat.eq_zero_or_pos (eK t.2.2) with w | w
      · rw [w] at z; exact absurd (by decide) z
      · exact w
    have e1' : nI (eK t.2.2) - (1 : Int32) = nI (eK t.2.2 - 1) := by rw [show (1 : Int32) = nI 1 from rfl, pk_sub (by omega)]
    rw [e1', nI_clamp (by omega), t4 ek]
    have ge : ∀ (M : Mem) (k j : Nat) (x : Int32), gI (uI M 446 k x) 7 j = gI M 7 j := fun M k j x => (Mo_uI (S := fun b => b = 446) (M := M) (a := 446) (k := k) (x := x) rfl).I (by decide)
    refine ⟨vl, vpN (by omega) (by decide), fin _ (Wf_uI (Wf_uI (Wf_uI hW3))) (((Mo_uI (Or.inl rfl)).tr (Mo_uI (Or.inl rfl))).tr (Mo_uI (Or.inr rfl))) ?_ ?_ (fun j hj => ?_) ?_ ?_⟩
    · rw [ge, rI_k (by decide), rI_eq, s1]
    · rw [ge, rI_eq]
    · by_cases w : j = eK t.2.2 - 1
      · rw [w, rI_eq]
      · rw [rI_k w]
        obtain ⟨w1, w2⟩ := s5 j (by omega)
        have : ∀ (M : Mem) (k : Nat) (x : Int32), gI (uI M 7 k x) 446 j = gI M 446 j := fun M k x => (Mo_uI (S := fun b => b = 7) (M := M) (a := 7) (k := k) (x := x) rfl).I (by decide)
        rw [this, this, hm3.I (by unfold stS; omega), e5 j w1, w2]
    · rw [ge, rI_k (by decide), rI_k (by decide)]
    · rw [ge, rI_k (by decide), rI_k (by decide)]
theorem k_back (hFl : FlOK Fl) (hW : Wf M) (hC : CI Fl M s) (h : ∀ M', Wf M' → Mo clsS M M' → CI Fl M' (sBack s).2 → K (some (.int (sBack s).1)) M') : sp_X12_back [.ref 0] M K := by
  refine wX12_back hW (fun {G} hc => ?_)
  unfold sBack at h
  obtain ⟨co, cx⟩ := hC
  cases ht : gTr s with
  | nil =>
    rw [ht] at h
    simp only at h
    have hlen : gI M 10 0 = 0 := by obtain ⟨-, -, ⟨l, hI, -⟩, -⟩ := cx; rw [hI.2.2.1, ht]; rfl
    refine wX5_takeBack hW (fun {G'} hc' => ⟨fun z => absurd hlen z, fun _ => rX12_back_0_2 hc hW (h _ hW Mo.rf ⟨co, cx⟩)⟩)
  | cons t rest =>
    rw [ht] at h cx
    simp only at h
    refine c_backX hW cx co.2.1.1.1 (fun M' hW' hm hx => rX12_back_0_2 hc hW' (h _ hW' (hm.mono (fun b hb => by unfold stpS at hb; unfold clsS; omega)) ⟨co.mo (s := s) hFl hm (fun b hb => hb), hx⟩))
/-- BEGIN, once the program stands -/
theorem c_begX {n : Nat} {c c' : Nat → Nat → Int64} {n' : Nat} {x : ES} {tr : List TE} {ft : FT} (hW : Wf M) (hC : CX M n' c' x tr ft) (hP : gI M 8 0 = nI n ∧ n ≤ 100)
    (h : ∀ M', Wf M' → Mo stpS M M' → CX M' n c (clrD (eD x), 0, 0, eCf x, 0, 0, decide (n = 0)) [] noF → K none M') : sp_X5_startOver [.ref 7] M K := by
  obtain ⟨⟨e1, e2, e3, e4, e5, e6, e7, e8⟩, ⟨x1, x2, x3, x4, x5⟩, ⟨l, ⟨i1, i2, i3, i4, i5⟩, hT⟩, hO, f1, f2, f3⟩ := hC
  refine wX5_startOver hW (fun {G} hc => c_clearReg hW Sk_405 e1 (fun M1 hW1 hR1 hm1 hr1 => rX5_startOver_0_2 hc hW1 ?_))
  have g1 : gI M1 8 0 = nI n := by rw [hm1.I (by unfold stS; omega)]; exact hP.1
  have hwd : WD (clrD (eD x)) := by
    refine ⟨fun j hj => ?_, ?_⟩
    · unfold clrD dk dn di
      simp only
      by_cases w : j % 2 = 0
      · rw [if_pos w, if_pos w]
        exact ⟨Or.inl ⟨rfl, rfl⟩, fun i hi => absurd hi (by omega)⟩
      · rw [if_neg w, if_neg w]
        exact x5.1 j hj
    · have := x5.2
      exact this
  have fin : ∀ b : Int32, b = (if decide (n = 0) = true then 1 else 0) → K none (m_X11_empty (uI (uI (uI (uI (uI (uI M1 7 2 (0 : Int32)) 7 3 (0 : Int32)) 7 4 (0 : Int32)) 7 5 (0 : Int32)) 7 6 b) 7 7 (0 : Int32))) := fun b hb => by
    have hm2 : Mo (fun b => b = 7 ∨ b = 10) M1 (m_X11_empty (uI (uI (uI (uI (uI (uI M1 7 2 (0 : Int32)) 7 3 (0 : Int32)) 7 4 (0 : Int32)) 7 5 (0 : Int32)) 7 6 b) 7 7 (0 : Int32))) := by
      unfold m_X11_empty
      exact ((((((Mo_uI (Or.inl rfl)).tr (Mo_uI (Or.inl rfl))).tr (Mo_uI (Or.inl rfl))).tr (Mo_uI (Or.inl rfl))).tr (Mo_uI (Or.inl rfl))).tr (Mo_uI (Or.inl rfl))).tr (Mo_uI (Or.inr rfl))
    have hm02 : Mo (fun b => stS 405 b ∨ (b = 7 ∨ b = 10)) M (m_X11_empty (uI (uI (uI (uI (uI (uI M1 7 2 (0 : Int32)) 7 3 (0 : Int32)) 7 4 (0 : Int32)) 7 5 (0 : Int32)) 7 6 b) 7 7 (0 : Int32))) := (hm1.mono (fun b hb => Or.inl hb)).tr (hm2.mono (fun b hb => Or.inr hb))
    have ge : ∀ (M : Mem) (k j : Nat) (x : Int32), gI (uI M 10 k x) 7 j = gI M 7 j := fun M k j x => (Mo_uI (S := fun b => b = 10) (M := M) (a := 10) (k := k) (x := x) rfl).I (by decide)
    refine h _ (Wf_m_X11_empty (Wf_uI (Wf_uI (Wf_uI (Wf_uI (Wf_uI (Wf_uI hW1))))))) (hm02.mono (fun b hb => by unfold stS at hb; unfold stpS; omega)) ⟨⟨hr1.mo hm2 (fun b hb => by omega), e2.out hm02 (by unfold stS; omega) (by unfold stS; omega), ?_, ?_, fun j hj => absurd hj (Nat.not_lt_zero _), ?_, ?_, ?_⟩, ⟨Nat.zero_le _, Nat.zero_le _, fun j hj => absurd hj (Nat.not_lt_zero _), fun z => ?_, hwd⟩, ⟨l, ⟨i1, ?_, rI_eq, by decide, fun u v hu hv z => i5 u v hu hv ?_⟩, trivial⟩, fun t ht => absurd ht (by simp), ?_, fun z => absurd rfl z, fun _ => rfl⟩
    · unfold m_X11_empty; rw [ge, rI_k (by decide), rI_k (by decide), rI_k (by decide), rI_k (by decide), rI_k (by decide), rI_eq]; rfl
    · unfold m_X11_empty; rw [ge, rI_k (by decide), rI_k (by decide), rI_k (by decide), rI_k (by decide), rI_eq]; rfl
    · unfold m_X11_empty; rw [ge, rI_k (by decide), rI_k (by decide), rI_k (by decide), rI_eq]; rfl
    · unfold m_X11_empty; rw [ge, rI_k (by decide), rI_k (by decide), rI_eq]; rfl
    · unfold m_X11_empty; rw [ge, rI_k (by decide), rI_eq]; exact hb
    · have z : decide (n = 0) = false := z
      have := of_decide_eq_false z
      show 0 < n
      omega
    · unfold m_X11_empty
      rw [rI_k (by decide)]
      have : ∀ (M : Mem) (k j : Nat) (x : Int32), gI (uI M 7 k x) 10 j = gI M 10 j := fun M k j x => (Mo_uI (S := fun b => b = 7) (M := M) (a := 7) (k := k) (x := x) rfl).I (by decide)
      rw [this, this, this, this, this, this, hm1.I (by unfold stS; omega)]; exact i2
    · have eR : ∀ a j, rR (m_X11_empty (uI (uI (uI (uI (uI (uI M1 7 2 (0 : Int32)) 7 3 (0 : Int32)) 7 4 (0 : Int32)) 7 5 (0 : Int32)) 7 6 b) 7 7 (0 : Int32))) a j = rR M a j := fun a j => by
        unfold rR
        show (gR M1 a j).getD 0 = (gR M a j).getD 0
        rw [hR1]
      have e : ∀ u, svR (m_X11_empty (uI (uI (uI (uI (uI (uI M1 7 2 (0 : Int32)) 7 3 (0 : Int32)) 7 4 (0 : Int32)) 7 5 (0 : Int32)) 7 6 b) 7 7 (0 : Int32))) u = svR M u := fun u => by unfold svR; rw [eR, eR, eR]
      rw [← e, ← e]; exact z
    · unfold m_X11_empty; rw [ge, rI_eq]; rfl
  rw [g1]
  refine ⟨fun z => fin 0 ?_, fun z => fin 1 ?_⟩
  · rw [if_neg]
    intro w
    have := of_decide_eq_true w
    exact z (by rw [this]; rfl)
  · rw [if_pos]
    exact decide_eq_true ((nI_eq (b := 0) (by omega) (by decide)).mp z)
theorem k_begin (hFl : FlOK Fl) (hW : Wf M) (hC : CI Fl M s) (h : ∀ M', Wf M' → Mo clsS M M' → CI Fl M' (bgn s) → K none M') : sp_X12_begin [.ref 0] M K := by
  refine wX12_begin hW (fun {G} hc => ?_)
  obtain ⟨co, cx⟩ := hC
  refine c_begX (c := (gPr s).2) hW cx ⟨co.2.1.1.2.1, co.2.1.1.1⟩ (fun M' hW' hm hx => rX12_begin_0_2 hc hW' (h _ hW' (hm.mono (fun b hb => by unfold stpS at hb; unfold clsS; omega)) ⟨co.mo (s := s) hFl hm (fun b hb => hb), hx⟩))
/-- what a change of the program brings with it -/
theorem c_anew {n n' : Nat} {c c' : Nat → Nat → Int64} {x : ES} {tr : List TE} {ft : FT} (hW : Wf M) (hC : CX M n' c' x tr ft) (hP : gI M 8 0 = nI n ∧ n ≤ 100)
    (h : ∀ M', Wf M' → Mo (fun b => b = 455 ∨ b = 449 ∨ stpS b) M M' → (∀ i, i < 100 → gI M' 455 i = 0) → gI M' 449 3 = 0 → CX M' n c (clrD (eD x), 0, 0, eCf x, 0, 0, decide (n = 0)) [] noF → K none M') : sp_X12_startAnew [.ref 0] M K := by
  refine wX12_startAnew hW (fun {G} hc => ?_)
  have loop : ∀ j i : Nat, i + j = 100 → ∀ M1, Wf M1 → Mo (fun b => b = 455) M M1 → (∀ q, q < i → gI M1 455 q = 0) → G 2 [some (.ref 0), some (.int (nI i))] [] M1 := by
    intro j
    induction j with
    | zero =>
      intro i hi M1 hW1 hm1 hz
      have : i = 100 := by omega
      subst this
      refine eX12_startAnew_2 hc hW1 ⟨fun _ => ?_, fun q => absurd (by decide) q⟩
      have hW2 := Wf_m_X1_forget (M := M1) hW1
      have hm2 : Mo (fun b => b = 455 ∨ b = 449) M (m_X1_forget M1) := (hm1.mono (fun b hb => Or.inl hb)).tr (Mo_uI (Or.inr rfl))
      have cx2 := hC.mo hW hm2 (fun b hb => by omega)
      refine c_begX (n := n) (c := c) hW2 cx2 ⟨by rw [hm2.I (by decide)]; exact hP.1, hP.2⟩ (fun M3 hW3 hm3 hx => rX12_startAnew_21_5 hc hW3 (h _ hW3 ((hm2.mono (fun b hb => by omega)).tr (hm3.mono (fun b hb => Or.inr (Or.inr hb)))) (fun i hi => ?_) ?_ hx))
      · rw [hm3.I (by unfold stpS; omega)]
        have : gI (m_X1_forget M1) 455 i = gI M1 455 i := (Mo_uI (S := fun b => b = 449) rfl).I (by decide)
        rw [this]; exact hz i hi
      · rw [hm3.I (by unfold stpS; omega)]; exact rI_eq
    | succ j ih =>
      intro i hi M1 hW1 hm1 hz
      refine eX12_startAnew_2 hc hW1 ⟨fun q => absurd ((nI_leI (a := 100) (by decide) (by omega)).mp q) (by omega), fun _ => ⟨vpN (by omega) (by decide), ?_⟩⟩
      rw [nI_clamp (by omega), nI_1]
      refine ih (i + 1) (by omega) _ (Wf_uI hW1) (hm1.tr (Mo_uI rfl)) (fun q hq => ?_)
      by_cases w : q = i
      · rw [w, rI_eq]
      · rw [rI_k w]; exact hz q (by omega)
  exact loop 100 0 rfl M hW Mo.rf (fun q hq => absurd hq (by omega))
theorem k_run {k : Int32} (hFl : FlOK Fl) (hW : Wf M) (hC : CI Fl M s) (h : ∀ r M', sRun k s = some r → Wf M' → Mo clsS M M' → CI Fl M' r.2 → K (some (.int r.1)) M') (hX : sRun k s = none → X M) : sp_X12_run [.ref 0, .int k] M K X := by
  obtain ⟨co, cx⟩ := hC
  unfold sRun at h hX
  by_cases z : inI k 2001
  · have hk := inI_lt z
    conv => rw [inI_nI z]
    refine c_runX hW (by omega) co.2.1.1 co.2.1.2.2.2.2.2.2.1 cx co.2.2.1 co.2.2.2.1 (fun M' hW' hm hx => h (_, _) M' (iT_t z) hW' (hm.mono (fun b hb => by unfold stpS at hb; unfold clsS; omega)) ⟨co.mo (s := s) hFl hm (fun b hb => hb), hx⟩)
  · have hX := hX (iT_f z)
    have h1 := fun y => z ((inI_le (N := 2000) (by decide)).mpr y)
    refine wX12_run hW (fun {G} hc => ?_)
    exact ⟨fun _ => hX, fun a => ⟨fun b => absurd ⟨a, b⟩ h1, fun _ => hX⟩⟩
end
end BACK
