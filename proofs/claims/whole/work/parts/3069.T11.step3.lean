section STEP3
section
variable {n l : Nat} {c : Nat → Nat → Int64} {x : ES} {tr : List TE} {M : Mem} {K : RT} {G : Nat → KT}
theorem LnOK.out {S : Nat → Prop} {M M' : Mem} (h : Mo S M M') (h1 : ¬ S 404) (h2 : ¬ S 443) (hl : LnOK M) : LnOK M' := by
  obtain ⟨l1, l2, l3, l4⟩ := hl
  refine ⟨fun j hj => ?_, ?_, ?_, ?_⟩
  · obtain ⟨q, q1, q2⟩ := l1 j hj; exact ⟨q, q1, by rw [h.R h2]; exact q2⟩
  · obtain ⟨q, q1, q2⟩ := l2; exact ⟨q, q1, by rw [h.R h1]; exact q2⟩
  · obtain ⟨q, q1, q2⟩ := l3; exact ⟨q, q1, by rw [h.I h1]; exact q2⟩
  · obtain ⟨q, q1, q2⟩ := l4; exact ⟨q, q1, by rw [h.I h1]; exact q2⟩
/-- what is known at the fault's putting down -/
def Pre8 (n : Nat) (c : Nat → Nat → Int64) (x : ES) (M M2 : Mem) : Prop :=
  Wf M2 ∧ Mo (fun b => b = 404 ∨ (442 ≤ b ∧ b ≤ 445)) M M2 ∧ RD M2 405 (eD x) ∧ LnOK M2 ∧ (∀ k, k < 6 → gL M2 442 k = c (ePc x) k) ∧ gI M2 404 2 = -1 ∧ gI M2 404 3 = 0
theorem stp_88 (hc : cloX5_step G K wT) (hK : StK K n c x tr M) (hW0 : Wf M) (hP : PRG M 8 n c) (hv : VI n (c (ePc x))) (hE : CE M x) (hx : EOk n x) (he : eEn x = false) (ht : TrI M l tr.length) (hT : TrC M (fun i => tgX (c i)) l 0 x tr) {M2 : Mem} (h8 : Pre8 n c x M M2)
    (hb : cn (c (ePc x)) 0 < 46 → mfD (cn (c (ePc x)) 0) (c (ePc x)) (eD x) = 0 ∧ LnB (cn (c (ePc x)) 0) (c (ePc x)) (eD x) M2) {o3 o4 : Option Value} : G 88 [some (.ref 7), some (.int (nI (ePc x))), some (.ref (100000 + cn (c (ePc x)) 0)), o3, o4] [.int 0, .ref 7] M2 := by
  obtain ⟨hW, hm, hr, hl, hc6, m2, m3⟩ := h8
  obtain ⟨-, -, g2, g3, g4, g5, g6, g7⟩ := hE
  obtain ⟨ho, ho2⟩ := hv.o
  have hk := hx.2.1
  have e7 : ∀ j, gI M2 7 j = gI M 7 j := fun j => hm.I (by omega)
  have e446 : ∀ j, gI M2 446 j = gI M 446 j := fun j => hm.I (by omega)
  have hm3 : Mo (fun b => b = 7) M2 (uI (uI (uI M2 7 7 0) 7 8 (nI (ePc x))) 7 9 (-1)) := ((Mo_uI (S := fun b => b = 7) rfl).tr (Mo_uI rfl)).tr (Mo_uI rfl)
  have f7 : gI (uI (uI (uI M2 7 7 0) 7 8 (nI (ePc x))) 7 9 (-1)) 7 7 = 0 := by rw [rI_k (by decide), rI_k (by decide), rI_eq]
  have f8 : gI (uI (uI (uI M2 7 7 0) 7 8 (nI (ePc x))) 7 9 (-1)) 7 8 = nI (ePc x) := by rw [rI_k (by decide), rI_eq]
  have fj : ∀ j, j ≠ 7 → j ≠ 8 → j ≠ 9 → gI (uI (uI (uI M2 7 7 0) 7 8 (nI (ePc x))) 7 9 (-1)) 7 j = gI M2 7 j := fun j a b c => by rw [rI_k c, rI_k b, rI_k a]
  have hW3 : Wf (uI (uI (uI M2 7 7 0) 7 8 (nI (ePc x))) 7 9 (-1)) := hW
  have eR : gR (uI (uI (uI M2 7 7 0) 7 8 (nI (ePc x))) 7 9 (-1)) = gR M2 := rfl
  refine eX5_step_88 hc hW (isOp_n ho) ⟨fun _ => ⟨?_, fun y1 ey => c_target hW3 ho ?_⟩, fun z => absurd rfl z⟩
  · unfold q_X5_latestReturn
    rw [fj _ (by decide) (by decide) (by decide), e7, g3]
    intro z
    have z : 0 < eK x := by
      rcases Nat.eq_zero_or_pos (eK x) with w | w
      · rw [w] at z; exact absurd (by decide) z
      · exact w
    have e1 : nI (eK x) - (1 : Int32) = nI (eK x - 1) := by rw [show (1 : Int32) = nI 1 from rfl]; exact pk_sub (by omega)
    rw [e1]
    exact vpN (by omega) (by decide)
  · have hy : 0 < eK x → y1 = nI (eCf x (eK x - 1)) := by
      intro z
      have e1 : nI (eK x) - (1 : Int32) = nI (eK x - 1) := by rw [show (1 : Int32) = nI 1 from rfl]; exact pk_sub (by omega)
      rw [ey]
      unfold f_X5_latestReturn
      rw [fj _ (by decide) (by decide) (by decide), e7, g3, if_neg (fun w => by have := (nI_leI (b := 0) (by omega) (by decide)).mp w; omega), e1, nI_clamp (by omega), hm3.I (by decide), e446]
      exact g4 _ (by omega)
    rw [e7, g3]
    generalize hM3 : (uI (uI (uI M2 7 7 0) 7 8 (nI (ePc x))) 7 9 (-1)) = M3 at *
    have kn : (Sh (rR M2 10 5)).1 = 6 := Wf.mutS (M := M2) hW (show mx 10 5 = some 6 from by decide)
    have on := sv_at kn
    have r3 : rR M3 10 5 = rR M2 10 5 := by unfold rR; rw [eR]
    have hr3 : RD M3 405 (eD x) := hr.mo hm3 (fun b hb => by have hb : b = 7 := hb; omega)
    have hc63 : ∀ k, k < 6 → gL M3 442 k = c (ePc x) k := fun k hk => by rw [hm3.L (by decide)]; exact hc6 k hk
    have hm03 : Mo (fun b => b = 7 ∨ b = 404 ∨ (442 ≤ b ∧ b ≤ 445)) M M3 := (hm.mono (fun b hb => Or.inr hb)).tr (hm3.mono (fun b hb => Or.inl hb))
    have out3 : ∀ b, (b = 7 ∨ b = 404 ∨ (442 ≤ b ∧ b ≤ 445)) → ¬ tlS b := fun b hb => by unfold tlS; omega
    have ht3 := ht.mo hm03 out3
    have hT3 := hT.mo hW0 hm03 out3 _ _ _
    have go : ∀ idx : Nat, (if cn (c (ePc x)) 0 = 27 ∨ cn (c (ePc x)) 0 = 29 then 2 else 1) = idx → (q_X9_take (rR M2 10 5) (nI (tgN (cn (c (ePc x)) 0))) ((gL M3 442 idx).toInt32) M3) ∧ sp_X4_makesLanes [.ref (100000 + cn (c (ePc x)) 0)] (uI (m_X9_take (rR M2 10 5) (nI (tgN (cn (c (ePc x)) 0))) ((gL M3 442 idx).toInt32) M3) 7 2 (nI (ePc x) + (1 : Int32))) (fun v M' => RX5_step_155_9 G K [some (.ref 7), some (.int (nI (ePc x))), some (.ref (100000 + cn (c (ePc x)) 0)), some (.int (nI (eK x))), some (.int y1)] (v.toList ++ []) M') := by
      intro idx hidx
      have hi6 : idx < 6 := by rw [← hidx]; split <;> decide
      have hq := tgX_8 (c (ePc x))
      rw [hidx, ← hc63 idx hi6] at hq
      have tk := take_is (r := rR M2 10 5) (s := tgN (cn (c (ePc x)) 0)) (q := (tgX (c (ePc x))).2) (x := (gL M3 442 idx).toInt32) (d := eD x) hW3 kn hr3 (tgN_all _ (List.mem_range.mpr ho)).1.1 hq.2 hq.1 (fun z => tg77 hv z)
      refine ⟨tk.1, tk.2 (fun Mx => sp_X4_makesLanes [.ref (100000 + cn (c (ePc x)) 0)] (uI Mx 7 2 (nI (ePc x) + (1 : Int32))) (fun v M' => RX5_step_155_9 G K [some (.ref 7), some (.int (nI (ePc x))), some (.ref (100000 + cn (c (ePc x)) 0)), some (.int (nI (eK x))), some (.int y1)] (v.toList ++ []) M')) (fun M4 hW4 hm4 hR4 hSv => ?_)⟩
      rw [nI_1]
      have hm5 : Mo (fun b => b = 7 ∨ svS (rR M3 10 5) b) M3 (uI M4 7 2 (nI (ePc x + 1))) := (hm4.mono (fun b hb => Or.inr (by rw [r3]; exact hb))).tr (Mo_uI (Or.inl rfl))
      have o7 : ∀ a, 404 ≤ a → ¬ (a = 7 ∨ svS (rR M3 10 5) a) := fun a ha y => by
        rcases y with y | y
        · omega
        · rw [r3] at y; have := y.2; omega
      have n7 : ∀ j, j ≠ 2 → gI (uI M4 7 2 (nI (ePc x + 1))) 7 j = gI M3 7 j := fun j hj => by rw [rI_k hj]; exact hm4.I (fun y => by have := y.1; omega)
      have n8 : ¬ (8 = 7 ∨ svS (rR M3 10 5) 8) := fun y => by
        rcases y with y | y
        · omega
        · rw [r3] at y; have := y.1; omega
      have nx : ∀ b, (b = 7 ∨ svS (rR M3 10 5) b) → ¬ tlS b ∨ svS (rR M3 10 5) b := fun b hb => by
        rcases hb with y | y
        · exact Or.inl (by unfold tlS; omega)
        · exact Or.inr y
      have hW5 : Wf (uI M4 7 2 (nI (ePc x + 1))) := Wf_uI hW4
      have r5 : rR (uI M4 7 2 (nI (ePc x + 1))) 10 5 = rR M2 10 5 := by
        show rR M4 10 5 = _
        rw [← r3]
        unfold rR
        rw [hR4]
      have pre : PreM n c x tr l M (uI M4 7 2 (nI (ePc x + 1))) := by
        refine ⟨hW5, (hm03.mono (fun b hb => by unfold stpS; omega)).tr (hm5.mono (fun b hb => ?_)), ?_, ht3.nx hW3 hm5 nx, hT3.nx hW3 ht3.2.2.2.2 hm5 nx _ _ _, ?_, ⟨?_, ?_, ?_, ?_, rI_eq, ?_, fun j hj => ?_, ?_⟩, ?_, ?_, fun k hk => ?_, ?_, ?_, fun h46 => ?_⟩
        · rcases hb with y | y
          · exact Or.inl y
          · rw [r3] at y; have := y.1; have := y.2; unfold stpS; omega
        · rw [hm5.I n8, hm03.I (by omega)]; exact hP.2.1
        · rw [r5]
          exact hSv.mo (Mo_uI (S := fun b => b = 7) rfl) (fun b hb y => by have hb : b = 7 := hb; have := y.1; omega)
        · rw [n7 _ (by decide)]; exact f7
        · rw [n7 _ (by decide)]; exact f8
        · rw [n7 _ (by decide), fj _ (by decide) (by decide) (by decide), e7]; exact g5
        · rw [n7 _ (by decide), fj _ (by decide) (by decide) (by decide), e7]; exact g6
        · rw [n7 _ (by decide), fj _ (by decide) (by decide) (by decide), e7]; exact g3
        · rw [hm5.I (o7 446 (by decide)), hm3.I (by decide), e446]; exact g4 j hj
        · rw [n7 _ (by decide), fj _ (by decide) (by decide) (by decide), e7, g7, he]; rfl
        · exact hr3.mo hm5 (fun b hb y => o7 b (by omega) hb)
        · exact (hl.out hm3 (by decide) (by decide)).out hm5 (o7 404 (by decide)) (o7 443 (by decide))
        · rw [hm5.L (o7 442 (by decide))]; exact hc63 k hk
        · rw [hm5.I (o7 404 (by decide)), hm3.I (by decide)]; exact m2
        · rw [hm5.I (o7 404 (by decide)), hm3.I (by decide)]; exact m3
        · obtain ⟨b1, b2⟩ := hb h46
          exact ⟨b1, (b2.mo hm3 hW3 (fun b hb => by have hb : b = 7 := hb; omega)).mo hm5 hW5 (fun b hb y => o7 b y.1 hb)⟩
      obtain ⟨s1, s2⟩ := stp_155 hc hK hv hP.1 hx he pre (x4 := y1) hy
      exact c_makesLanes hW5 ho ⟨s1, s2⟩
    refine rX5_step_113_12 hc hW3 (isOp_n ho) kn ⟨fun ns => ?_, fun s => ?_⟩
    · rw [stores_n] at ns
      exact go 1 (if_neg ns)
    · rw [stores_n] at s
      exact go 2 (if_pos s)
theorem c_step (hW : Wf M) (hP : PRG M 8 n c) (hV : ∀ i, i < n → VI n (c i)) (hE : CE M x) (hx : EOk n x) (he : eEn x = false) (ht : TrI M l tr.length) (hT : TrC M (fun i => tgX (c i)) l 0 x tr) (hK : StK K n c x tr M) : sp_X5_step [.ref 7] M K := by
  have hE' := hE
  obtain ⟨hr, hl, g2, g3, g4, g5, g6, g7⟩ := hE
  have hp := hx.2.2.2.1 he
  have hv := hV _ hp
  have n100 := hP.1
  obtain ⟨ho, ho2⟩ := hv.o
  refine wX5_step hW (fun {G} hc => ?_)
  rw [g7, if_neg (by rw [he]; decide), g2]
  refine ⟨fun z => absurd rfl z, fun _ => ⟨fun _ => ?_, fun z => absurd ?_ z⟩⟩
  · have e6 : nI (ePc x) * (6 : Int32) = nI (ePc x * 6) := pk_mul (ePc x) 6
    refine c_opP hW Sk_8 hP hp ho2 ho (rX5_step_25_3 hc hW (isOp_n ho) ⟨?_, ?_⟩)
    · unfold q_X6_read
      rw [e6, nI_clamp (by omega)]
      exact ⟨nI_pos (by omega), by decide, by decide, by omega, by decide⟩
    · have hM1 : ∀ k, k < 6 → gL (m_X6_read (nI (ePc x)) M) 442 k = c (ePc x) k := fun k hk => by
        unfold m_X6_read
        rw [e6, nI_clamp (by omega), gL_bL, if_pos rfl]
        unfold va_cpy
        rw [if_pos ⟨by omega, by omega⟩, ← hP.2.2 _ hp k hk]
        congr 1
      have hW1 : Wf (m_X6_read (nI (ePc x)) M) := Wf_m_X6_read _ hW
      have hm1 : Mo (fun b => b = 442) M (m_X6_read (nI (ePc x)) M) := by unfold m_X6_read; exact Mo_bL rfl
      have hR1 : gR (m_X6_read (nI (ePc x)) M) = gR M := rfl
      generalize m_X6_read (nI (ePc x)) M = M1 at *
      have hm2 : Mo (fun b => b = 404) M1 (uI (uI M1 404 2 (-1)) 404 3 0) := (Mo_uI (S := fun b => b = 404) rfl).tr (Mo_uI rfl)
      have hm02 : Mo (fun b => b = 404 ∨ b = 442) M (uI (uI M1 404 2 (-1)) 404 3 0) := (hm1.mono (fun b hb => Or.inr hb)).tr (hm2.mono (fun b hb => Or.inl hb))
      have hr2 : RD (uI (uI M1 404 2 (-1)) 404 3 0) 405 (eD x) := hr.mo hm02 (fun b hb => by omega)
      have hl2 : LnOK (uI (uI M1 404 2 (-1)) 404 3 0) := by
        have hl1 := hl.out hm1 (by decide) (by decide)
        exact hl1.mo (S := fun _ => False) ((M4_uI (k := 2) (by decide)).tr (M4_uI (k := 3) (by decide))) rfl
      have c2 : ∀ k, k < 6 → gL (uI (uI M1 404 2 (-1)) 404 3 0) 442 k = c (ePc x) k := hM1
      have a2 : gI (uI (uI M1 404 2 (-1)) 404 3 0) 404 2 = -1 := by rw [rI_k (by decide), rI_eq]
      have a3 : gI (uI (uI M1 404 2 (-1)) 404 3 0) 404 3 = 0 := rI_eq
      have hW2 : Wf (uI (uI M1 404 2 (-1)) 404 3 0) := hW1
      rw [hM1 0 (by decide), ho2, show (46 : Int64) = lN 46 from rfl, l6_le (by decide) (by omega)]
      generalize (uI (uI M1 404 2 (-1)) 404 3 0) = M2 at *
      refine ⟨fun z => ?_, fun z => ?_⟩
      · exact stp_88 hc hK hW hP hv hE' hx he ht hT ⟨hW2, hm02.mono (fun b hb => by omega), hr2, hl2, c2, a2, a3⟩ (fun w => by omega)
      · have h46 : cn (c (ePc x)) 0 < 46 := by omega
        refine c_bindD hW2 h46 hl2 hr2 hx.2.2.2.2 c2 hv.vc (fun M3 hW3 hm3 hr3 hl3 b2 b3 hb => ?_)
        refine rX5_step_76_3 hc hW3 (isOp_n ho) ?_
        have hm03 : Mo (fun b => b = 404 ∨ (442 ≤ b ∧ b ≤ 445)) M M3 := (hm02.mono (fun b hb => by omega)).tr (hm3.mono (fun b hb => by omega))
        have c3 : ∀ k, k < 6 → gL M3 442 k = c (ePc x) k := fun k hk => by rw [hm3.L (by omega)]; exact c2 k hk
        by_cases m0 : mfD (cn (c (ePc x)) 0) (c (ePc x)) (eD x) = 0
        · rw [m0]
          exact stp_88 hc hK hW hP hv hE' hx he ht hT ⟨hW3, hm03, hr3, hl3, c3, b2.trans a2, b3.trans a3⟩ (fun _ => ⟨m0, hb m0⟩)
        · have e := exX_lt (n := n) (x := x) h46
          have ei : insD (cn (c (ePc x)) 0) (c (ePc x)) (eD x) = (mfD (cn (c (ePc x)) 0) (c (ePc x)) (eD x), -1, 0, eD x) := if_neg m0
          rw [ei] at e
          have e : exX n (c (ePc x)) x = (mfD (cn (c (ePc x)) 0) (c (ePc x)) (eD x), -1, 0, (eD x, x.2)) := by rw [e]; exact congrArg (fun z => (_, _, _, z)) (if_neg m0)
          have e : exX n (c (ePc x)) x = (mfD (cn (c (ePc x)) 0) (c (ePc x)) (eD x), -1, 0, x) := e
          refine eX5_step_88 hc hW3 (isOp_n ho) ⟨fun w => absurd w m0, fun _ => ?_⟩
          have hm4 : Mo (fun b => b = 7) M3 (uI (uI (uI M3 7 7 (mfD (cn (c (ePc x)) 0) (c (ePc x)) (eD x))) 7 8 (nI (ePc x))) 7 9 (-1)) := ((Mo_uI (S := fun b => b = 7) rfl).tr (Mo_uI rfl)).tr (Mo_uI rfl)
          have hm04 : Mo (fun b => b = 7 ∨ b = 404 ∨ (442 ≤ b ∧ b ≤ 445)) M (uI (uI (uI M3 7 7 (mfD (cn (c (ePc x)) 0) (c (ePc x)) (eD x))) 7 8 (nI (ePc x))) 7 9 (-1)) := (hm03.mono (fun b hb => Or.inr hb)).tr (hm4.mono (fun b hb => Or.inl hb))
          have out4 : ∀ b, (b = 7 ∨ b = 404 ∨ (442 ≤ b ∧ b ≤ 445)) → ¬ tlS b := fun b hb => by unfold tlS; omega
          have fj : ∀ j, j ≠ 7 → j ≠ 8 → j ≠ 9 → gI (uI (uI (uI M3 7 7 (mfD (cn (c (ePc x)) 0) (c (ePc x)) (eD x))) 7 8 (nI (ePc x))) 7 9 (-1)) 7 j = gI M 7 j := fun j a b c => by rw [rI_k c, rI_k b, rI_k a]; exact hm03.I (by omega)
          have hKK := hK _ l (Wf_uI (Wf_uI (Wf_uI hW3))) (hm04.mono (fun b hb => by unfold stpS; omega))
          rw [e] at hKK
          refine hKK ⟨hr3.mo hm4 (fun b hb => by have hb : b = 7 := hb; omega), hl3.out hm4 (by decide) (by decide), ?_, ?_, fun j hj => ?_, ?_, ?_, ?_⟩ ?_ ?_ ?_ (fun _ => ⟨?_, ?_⟩) (fun w => absurd w m0)
          · rw [fj _ (by decide) (by decide) (by decide)]; exact g2
          · rw [fj _ (by decide) (by decide) (by decide)]; exact g3
          · rw [hm04.I (by omega)]; exact g4 j hj
          · rw [fj _ (by decide) (by decide) (by decide)]; exact g5
          · rw [fj _ (by decide) (by decide) (by decide)]; exact g6
          · rw [fj _ (by decide) (by decide) (by decide)]; exact g7
          · have : (if mfD (cn (c (ePc x)) 0) (c (ePc x)) (eD x) = 0 then ((ePc x, 0, x) :: tr).take 64 else tr) = tr := if_neg m0
            show TrI _ l (if mfD (cn (c (ePc x)) 0) (c (ePc x)) (eD x) = 0 then ((ePc x, 0, x) :: tr).take 64 else tr).length
            rw [this]
            exact ht.mo hm04 out4
          · have : (if mfD (cn (c (ePc x)) 0) (c (ePc x)) (eD x) = 0 then ((ePc x, 0, x) :: tr).take 64 else tr) = tr := if_neg m0
            show TrC _ _ l 0 x (if mfD (cn (c (ePc x)) 0) (c (ePc x)) (eD x) = 0 then ((ePc x, 0, x) :: tr).take 64 else tr)
            rw [this]
            exact hT.mo hW hm04 out4 _ _ _
          · rw [rI_k (by decide), rI_k (by decide)]; exact rI_eq
          · rw [rI_k (by decide)]; exact rI_eq
          · exact rI_eq
  · unfold P_X6_has
    rw [hP.2.1]
    exact ⟨nI_pos (by omega), fun z => by have := (nI_leI (by omega) (by omega)).mp z; omega⟩
end
end STEP3
