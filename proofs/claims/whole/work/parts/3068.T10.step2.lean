section STEP2
section
variable {n l : Nat} {c : Nat → Nat → Int64} {x : ES} {tr : List TE} {M : Mem} {K : RT} {G : Nat → KT}
theorem tg_no77 : ∀ o ∈ List.range 68, 51 ≤ o → tgN o ≠ 77 := by decide +kernel
theorem tg77 {c : Nat → Int64} (hv : VI n c) (h : tgN (cn c 0) = 77) : (tgX c).2 < 4 := by
  have ho := hv.o.1
  by_cases h1 : cn c 0 < 46
  · obtain ⟨a, b⟩ := hv.tg h1
    rw [a]; exact b h
  · by_cases h2 : cn c 0 ≤ 50
    · have t := (tgN_all (cn c 0) (List.mem_range.mpr (by omega))).1.2 (by omega) h2
      have s : cn c 1 < 4 ∧ c 1 = lN (cn c 1) := hv.m rfl t.2.2 t.2.1
      rw [tgX_v (v := cn c 1) (by omega) (by rw [if_neg (by omega)]; exact s.2)]
      exact s.1
    · exact absurd h (tg_no77 _ (List.mem_range.mpr ho) (by omega))
theorem exX_lt {n : Nat} {c : Nat → Int64} {x : ES} (h : cn c 0 < 46) : exX n c x = ((insD (cn c 0) c (eD x)).1, (insD (cn c 0) c (eD x)).2.1, (insD (cn c 0) c (eD x)).2.2.1, if (insD (cn c 0) c (eD x)).1 = 0 then adv n x (insD (cn c 0) c (eD x)).2.2.2 (ePc x + 1) (eK x) (eCf x) (insD (cn c 0) c (eD x)).2.2.1 false else ((insD (cn c 0) c (eD x)).2.2.2, x.2)) := if_pos h
theorem exX_m {n : Nat} {c : Nat → Int64} {x : ES} (h : 46 ≤ cn c 0 ∧ cn c 0 < 53) : exX n c x = (0, -1, 0, adv n x (maD (cn c 0) c (eD x)) (ePc x + 1) (eK x) (eCf x) 0 false) := by
  unfold exX
  rw [if_neg (by omega), if_pos h.2]
theorem exX_s {n : Nat} {c : Nat → Int64} {x : ES} (h : 53 ≤ cn c 0 ∧ cn c 0 < 59) : exX n c x = ((scD (cn c 0) c (eD x)).1, -1, 0, if (scD (cn c 0) c (eD x)).1 = 0 then adv n x (scD (cn c 0) c (eD x)).2 (ePc x + 1) (eK x) (eCf x) 0 false else x) := by
  unfold exX
  rw [if_neg (by omega), if_neg (by omega), if_pos h.2]
theorem exX_l {n : Nat} {c : Nat → Int64} {x : ES} (h : 59 ≤ cn c 0) : exX n c x = ((leX (cn c 0) c x).1, -1, 0, if (leX (cn c 0) c x).1 = 0 then adv n x (leX (cn c 0) c x).2.2.2.2.2 (leX (cn c 0) c x).2.1 (leX (cn c 0) c x).2.2.1 (leX (cn c 0) c x).2.2.2.1 0 (leX (cn c 0) c x).2.2.2.2.1 else x) := by
  unfold exX
  rw [if_neg (by omega), if_neg (by omega), if_neg (by omega)]
theorem scD_f {o : Nat} {c : Nat → Int64} {d : DS} (h : (scD o c d).1 ≠ 0) : (scD o c d).2 = d := by
  unfold scD at h ⊢
  split
  · rename_i z; rw [if_pos z] at h; exact absurd rfl h
  · rename_i z; rw [if_neg z] at h
    split
    · rename_i z; rw [if_pos z] at h; exact absurd rfl h
    · rename_i z; rw [if_neg z] at h
      split
      · rename_i z; rw [if_pos z] at h; exact absurd rfl h
      · rename_i z; rw [if_neg z] at h
        split
        · rename_i z; rw [if_pos z] at h; exact absurd rfl h
        · rename_i z; rw [if_neg z] at h
          split
          · rfl
          · rename_i z; rw [if_neg z] at h
            split
            · rename_i z; rw [if_pos z] at h; exact absurd rfl h
            · rename_i z; rw [if_neg z] at h; exact absurd rfl h
/-- the memory ahead of an instruction's doing -/
def PreM (n : Nat) (c : Nat → Nat → Int64) (x : ES) (tr : List TE) (l : Nat) (M M5 : Mem) : Prop :=
  Wf M5 ∧ Mo stpS M M5 ∧ gI M5 8 0 = nI n ∧ TrI M5 l tr.length ∧ TrC M5 (fun i => tgX (c i)) l 0 x tr ∧ SvIs M5 (rR M5 10 5) (tgX (c (ePc x))).1 (tgX (c (ePc x))).2 (eD x)
  ∧ (gI M5 7 7 = 0 ∧ gI M5 7 8 = nI (ePc x) ∧ gI M5 7 4 = (eSt x).toInt32 ∧ gI M5 7 5 = (eLn x).toInt32 ∧ gI M5 7 2 = nI (ePc x + 1) ∧ gI M5 7 3 = nI (eK x) ∧ (∀ j, j < eK x → gI M5 446 j = nI (eCf x j)) ∧ gI M5 7 6 = 0)
  ∧ RD M5 405 (eD x) ∧ LnOK M5 ∧ (∀ k, k < 6 → gL M5 442 k = c (ePc x) k) ∧ gI M5 404 2 = -1 ∧ gI M5 404 3 = 0
  ∧ (cn (c (ePc x)) 0 < 46 → mfD (cn (c (ePc x)) 0) (c (ePc x)) (eD x) = 0 ∧ LnB (cn (c (ePc x)) 0) (c (ePc x)) (eD x) M5)
theorem insD_ok {o : Nat} {c : Nat → Int64} {d : DS} (h : mfD o c d = 0) : insD o c d = insG o c d := if_pos h
/-- behind makeLanes and perform -/
theorem stp_ln (hc : cloX5_step G K wT) (hK : StK K n c x tr M) (hv : VI n (c (ePc x))) (hn : n ≤ 100) (hx : EOk n x) (he : eEn x = false) {M5 : Mem} (hP : PreM n c x tr l M M5) (h46 : cn (c (ePc x)) 0 < 46) {M6 : Mem} (hW : Wf M6) (hm : Mo (fun b => b = 404 ∨ b = 444 ∨ stS 405 b) M5 M6) (hr : RD M6 405 (insG (cn (c (ePc x)) 0) (c (ePc x)) (eD x)).2.2.2) (hl : LnOK M6) (h2 : gI M6 404 2 = (insG (cn (c (ePc x)) 0) (c (ePc x)) (eD x)).2.1)
    (h3 : (insG (cn (c (ePc x)) 0) (c (ePc x)) (eD x)).1 = 0 → gI M6 404 3 = nI (insG (cn (c (ePc x)) 0) (c (ePc x)) (eD x)).2.2.1) {o2 : Option Value} {x4 : Int32} (hx4 : 0 < eK x → x4 = nI (eCf x (eK x - 1))) : G 272 [some (.ref 7), some (.int (nI (ePc x))), o2, some (.int (nI (eK x))), some (.int x4)] [] (uI M6 7 7 (insG (cn (c (ePc x)) 0) (c (ePc x)) (eD x)).1) := by
  obtain ⟨p1, p2, p3, p4, p5, p6, ⟨q7, q8, q4, q5, q2, q3, qc, q6⟩, pr, pl, pc, pm2, pm3, pb⟩ := hP
  obtain ⟨m0, -⟩ := pb h46
  have e := exX_lt (n := n) (x := x) h46
  rw [insD_ok m0] at e
  have out : ∀ b, (b = 404 ∨ b = 444 ∨ stS 405 b) → ¬ tlS b ∧ 404 ≤ b ∧ b ≤ 446 := fun b hb => by
    unfold stS at hb; unfold tlS; omega
  have hm7 : Mo (fun b => b = 7 ∨ 404 ≤ b ∧ b ≤ 445) M5 (uI M6 7 7 (insG (cn (c (ePc x)) 0) (c (ePc x)) (eD x)).1) := (hm.mono (fun b hb => Or.inr (by unfold stS at hb; omega))).tr (Mo_uI (Or.inl rfl))
  have n10 : ¬ (10 = 7 ∨ 404 ≤ 10 ∧ 10 ≤ 445) := by omega
  have r10 : rR (uI M6 7 7 (insG (cn (c (ePc x)) 0) (c (ePc x)) (eD x)).1) 10 5 = rR M5 10 5 := by unfold rR; rw [hm7.R n10]
  have g7 : ∀ j, j ≠ 7 → gI (uI M6 7 7 (insG (cn (c (ePc x)) 0) (c (ePc x)) (eD x)).1) 7 j = gI M5 7 j := fun j hj => by rw [rI_k hj]; exact hm.I (by unfold stS; omega)
  have kn : (Sh (rR M5 10 5)).1 = 6 := Wf.mutS (M := M5) p1 (show mx 10 5 = some 6 from by decide)
  have on := sv_at kn
  have outS : ∀ b, (b = 7 ∨ 404 ≤ b ∧ b ≤ 445) → ¬ tlS b := fun b hb => by unfold tlS; omega
  have h446 : ∀ j, gI (uI M6 7 7 (insG (cn (c (ePc x)) 0) (c (ePc x)) (eD x)).1) 446 j = gI M5 446 j := fun j => hm7.I (by omega)
  refine stp_272 hc hK hv hn hx he (Wf_uI hW) (p2.tr (hm7.mono (fun b hb => by unfold stpS; omega))) (by rw [hm7.I (by omega)]; exact p3) (p4.mo hm7 outS) (p5.mo p1 hm7 outS _ _ _) ?_ ?_ ?_ ?_ ?_ ?_ ?_ (fun z => ?_) (fun z => ?_) hx4
  · rw [r10]
    exact p6.mo hm7 (fun b hb y => by have := y.1; have := y.2; omega)
  · rw [e]; exact rI_eq
  · rw [g7 _ (by decide)]; exact q8
  · rw [g7 _ (by decide)]; exact q4
  · rw [g7 _ (by decide)]; exact q5
  · rw [e]
    have : eD (if (insG (cn (c (ePc x)) 0) (c (ePc x)) (eD x)).1 = 0 then adv n x (insG (cn (c (ePc x)) 0) (c (ePc x)) (eD x)).2.2.2 (ePc x + 1) (eK x) (eCf x) (insG (cn (c (ePc x)) 0) (c (ePc x)) (eD x)).2.2.1 false else ((insG (cn (c (ePc x)) 0) (c (ePc x)) (eD x)).2.2.2, x.2)) = (insG (cn (c (ePc x)) 0) (c (ePc x)) (eD x)).2.2.2 := by split <;> rfl
    show RD _ 405 (eD (if (insG (cn (c (ePc x)) 0) (c (ePc x)) (eD x)).1 = 0 then adv n x (insG (cn (c (ePc x)) 0) (c (ePc x)) (eD x)).2.2.2 (ePc x + 1) (eK x) (eCf x) (insG (cn (c (ePc x)) 0) (c (ePc x)) (eD x)).2.2.1 false else ((insG (cn (c (ePc x)) 0) (c (ePc x)) (eD x)).2.2.2, x.2)))
    rw [this]
    exact hr.mo (Mo_uI (S := fun b => b = 7) rfl) (fun b hb => by have hb : b = 7 := hb; omega)
  · obtain ⟨l1, l2, l3, l4⟩ := hl
    exact ⟨l1, l2, by rw [rI_a (by decide)]; exact l3, by rw [rI_a (by decide)]; exact l4⟩
  · rw [e] at z ⊢
    have z : (insG (cn (c (ePc x)) 0) (c (ePc x)) (eD x)).1 = 0 := z
    refine ⟨_, _, _, _, _, if_pos z, ?_, ?_, fun j hj => ?_, ?_, ?_⟩
    · rw [g7 _ (by decide)]; exact q2
    · rw [g7 _ (by decide)]; exact q3
    · rw [h446]; exact qc j hj
    · rw [g7 _ (by decide)]; exact q6
    · rw [rI_a (by decide)]; exact h3 z
  · rw [e]
    refine ⟨by rw [g7 _ (by decide)]; exact q3, fun j hj => by rw [h446]; exact qc j hj, by rw [g7 _ (by decide)]; exact q6, by rw [rI_a (by decide)]; exact h2⟩
/-- behind masks, scalars, and what leads elsewhere -/
theorem stp_out (hc : cloX5_step G K wT) (hK : StK K n c x tr M) (hv : VI n (c (ePc x))) (hn : n ≤ 100) (hx : EOk n x) (he : eEn x = false) {M5 : Mem} (hP : PreM n c x tr l M M5) {M6 : Mem} (hW : Wf M6) (hm : Mo (fun b => b = 7 ∨ b = 408 ∨ b = 409 ∨ b = 446) M5 M6) (hr : RD M6 405 (eD (exX n (c (ePc x)) x).2.2.2)) (hF : gI M6 7 7 = (exX n (c (ePc x)) x).1) (g7 : ∀ j, j ≠ 2 → j ≠ 3 → j ≠ 6 → j ≠ 7 → gI M6 7 j = gI M5 7 j) (hw : (exX n (c (ePc x)) x).2.2.1 = 0) (hla : (exX n (c (ePc x)) x).2.1 = -1)
    (hA : (exX n (c (ePc x)) x).1 = 0 → ∃ d' pc' k' cf' fin, (exX n (c (ePc x)) x).2.2.2 = adv n x d' pc' k' cf' (exX n (c (ePc x)) x).2.2.1 fin ∧ gI M6 7 2 = nI pc' ∧ gI M6 7 3 = nI k' ∧ (∀ j, j < k' → gI M6 446 j = nI (cf' j)) ∧ gI M6 7 6 = (if fin = true then 1 else 0))
    (hB : (exX n (c (ePc x)) x).1 ≠ 0 → gI M6 7 3 = nI (eK x) ∧ (∀ j, j < eK x → gI M6 446 j = nI (eCf x j)) ∧ gI M6 7 6 = 0) {o2 : Option Value} {x4 : Int32} (hx4 : 0 < eK x → x4 = nI (eCf x (eK x - 1))) : G 272 [some (.ref 7), some (.int (nI (ePc x))), o2, some (.int (nI (eK x))), some (.int x4)] [] M6 := by
  obtain ⟨p1, p2, p3, p4, p5, p6, ⟨q7, q8, q4, q5, q2, q3, qc, q6⟩, pr, pl, pc, pm2, pm3, pb⟩ := hP
  have r10 : rR M6 10 5 = rR M5 10 5 := by unfold rR; rw [hm.R (by omega)]
  have kn : (Sh (rR M5 10 5)).1 = 6 := Wf.mutS (M := M5) p1 (show mx 10 5 = some 6 from by decide)
  have on := sv_at kn
  have outS : ∀ b, (b = 7 ∨ b = 408 ∨ b = 409 ∨ b = 446) → ¬ tlS b := fun b hb => by unfold tlS; omega
  have h4 : ∀ j, gI M6 404 j = gI M5 404 j := fun j => hm.I (by omega)
  refine stp_272 hc hK hv hn hx he hW (p2.tr (hm.mono (fun b hb => by unfold stpS; omega))) (by rw [hm.I (by omega)]; exact p3) (p4.mo hm outS) (p5.mo p1 hm outS _ _ _) ?_ hF ?_ ?_ ?_ hr ?_ (fun z => ?_) (fun z => ?_) hx4
  · rw [r10]
    exact p6.mo hm (fun b hb y => by have := y.1; have := y.2; omega)
  · rw [g7 _ (by decide) (by decide) (by decide) (by decide)]; exact q8
  · rw [g7 _ (by decide) (by decide) (by decide) (by decide)]; exact q4
  · rw [g7 _ (by decide) (by decide) (by decide) (by decide)]; exact q5
  · obtain ⟨l1, l2, l3, l4⟩ := pl
    have f5 : ∀ a j, a = 404 ∨ a = 443 → gR M6 a j = gR M5 a j := fun a j ha => hm.R (by omega)
    refine ⟨fun j hj => ?_, ?_, ?_, ?_⟩
    · obtain ⟨q, q1, q2⟩ := l1 j hj; exact ⟨q, q1, by rw [f5 _ _ (Or.inr rfl)]; exact q2⟩
    · obtain ⟨q, q1, q2⟩ := l2; exact ⟨q, q1, by rw [f5 _ _ (Or.inl rfl)]; exact q2⟩
    · obtain ⟨q, q1, q2⟩ := l3; exact ⟨q, q1, by rw [h4]; exact q2⟩
    · obtain ⟨q, q1, q2⟩ := l4; exact ⟨q, q1, by rw [h4]; exact q2⟩
  · obtain ⟨d', pc', k', cf', fin, a1, a2, a3, a4, a5⟩ := hA z
    exact ⟨d', pc', k', cf', fin, a1, a2, a3, a4, a5, by rw [h4, hw]; exact pm3⟩
  · obtain ⟨a1, a2, a3⟩ := hB z
    exact ⟨a1, a2, a3, by rw [h4, hla]; exact pm2⟩
/-- what makesLanes tells apart -/
theorem stp_155 (hc : cloX5_step G K wT) (hK : StK K n c x tr M) (hv : VI n (c (ePc x))) (hn : n ≤ 100) (hx : EOk n x) (he : eEn x = false) {M5 : Mem} (hP : PreM n c x tr l M M5) {x4 : Int32} (hx4 : 0 < eK x → x4 = nI (eCf x (eK x - 1))) :
    ((cn (c (ePc x)) 0 ∈ MKL ∨ cn (c (ePc x)) 0 = 39) → RX5_step_155_9 G K [some (.ref 7), some (.int (nI (ePc x))), some (.ref (100000 + cn (c (ePc x)) 0)), some (.int (nI (eK x))), some (.int x4)] (Option.toList (some (.int (1 : Int32))) ++ []) M5)
    ∧ (¬ (cn (c (ePc x)) 0 ∈ MKL ∨ cn (c (ePc x)) 0 = 39) → RX5_step_155_9 G K [some (.ref 7), some (.int (nI (ePc x))), some (.ref (100000 + cn (c (ePc x)) 0)), some (.int (nI (eK x))), some (.int x4)] (Option.toList (some (.int (0 : Int32))) ++ []) M5) := by
  have hP' := hP
  obtain ⟨p1, p2, p3, p4, p5, p6, ⟨q7, q8, q4, q5, q2, q3, qc, q6⟩, pr, pl, pc, pm2, pm3, pb⟩ := hP
  obtain ⟨ho, ho2⟩ := hv.o
  refine ⟨fun mk => ?_, fun nmk => ?_⟩
  · have h46 := (mk_not mk).2.2.2.2.2.2.2.2.2.2.2
    obtain ⟨m0, lb⟩ := pb h46
    refine rX5_step_155_9 hc p1 (isOp_n ho) ⟨fun z => absurd z (by decide), fun _ => ?_⟩
    refine c_mkD mk hx.2.2.2.2 hv.vc m0 lb pm2 (fun M6 hW6 hm6 hr6 hl6 h26 h36 => ?_)
    exact rX5_step_174_4 hc hW6 (stp_ln hc hK hv hn hx he hP' h46 hW6 hm6 hr6 hl6 h26 h36 hx4)
  · refine rX5_step_155_9 hc p1 (isOp_n ho) ⟨fun _ => ?_, fun z => absurd rfl z⟩
    rw [pc 0 (by decide), ho2]
    have l46 : (46 : Int64) ≤ lN (cn (c (ePc x)) 0) ↔ 46 ≤ cn (c (ePc x)) 0 := l6_le (a := 46) (by decide) (by omega)
    have l53 : (53 : Int64) ≤ lN (cn (c (ePc x)) 0) ↔ 53 ≤ cn (c (ePc x)) 0 := l6_le (a := 53) (by decide) (by omega)
    have l59 : (59 : Int64) ≤ lN (cn (c (ePc x)) 0) ↔ 59 ≤ cn (c (ePc x)) 0 := l6_le (a := 59) (by decide) (by omega)
    rw [l46, l53, l59]
    refine ⟨fun a => ⟨fun b => ⟨fun d => ?_, fun d => ⟨q_scal _, ?_⟩⟩, fun b => ⟨q_masks _, ?_⟩⟩, fun a => ?_⟩
    · refine c_leadX ⟨d, ho⟩ hn hx p1 rfl hv pc pr q2 q3 qc (fun M6 hL => rX5_step_263_3 hc hL.1 ?_)
      obtain ⟨hW6, hm6, g6, hA6, hB6⟩ := hL
      have e := exX_l (n := n) (x := x) d
      have g7 : ∀ j, j ≠ 7 → gI (uI M6 7 7 (leX (cn (c (ePc x)) 0) (c (ePc x)) x).1) 7 j = gI M6 7 j := fun j hj => rI_k hj
      refine stp_out hc hK hv hn hx he hP' (Wf_uI hW6) ((hm6.mono (fun b hb => by omega)).tr (Mo_uI (Or.inl rfl))) ?_ ?_ (fun j a2 a3 a6 a7 => ?_) (by rw [e]) (by rw [e]) (fun z => ?_) (fun z => ?_) hx4
      · rw [e]
        by_cases z : (leX (cn (c (ePc x)) 0) (c (ePc x)) x).1 = 0
        · show RD _ 405 (eD (if _ then _ else _))
          rw [if_pos z]
          exact (hA6 z).1.mo (Mo_uI (S := fun b => b = 7) rfl) (fun b hb => by have hb : b = 7 := hb; omega)
        · show RD _ 405 (eD (if _ then _ else _))
          rw [if_neg z, hB6 z]
          exact pr.mo (Mo_uI (S := fun b => b = 7) rfl) (fun b hb => by have hb : b = 7 := hb; omega)
      · rw [e]; exact rI_eq
      · rw [g7 _ a7]; exact g6 j a2 a3 a6
      · rw [e] at z ⊢
        have z : (leX (cn (c (ePc x)) 0) (c (ePc x)) x).1 = 0 := z
        obtain ⟨b1, b2, b3, b4, b5⟩ := hA6 z
        refine ⟨_, _, _, _, _, if_pos z, ?_, ?_, fun j hj => ?_, ?_⟩
        · rw [g7 _ (by decide)]; exact b2
        · rw [g7 _ (by decide)]; exact b3
        · rw [rI_a (by decide)]; exact b4 j hj
        · rw [g7 _ (by decide), b5, q6]
      · rw [e] at z
        have z : (leX (cn (c (ePc x)) 0) (c (ePc x)) x).1 ≠ 0 := z
        rw [hB6 z]
        exact ⟨by rw [rI_k (by decide)]; exact q3, fun j hj => by rw [rI_a (by decide)]; exact qc j hj, by rw [rI_k (by decide)]; exact q6⟩
    · obtain ⟨f1, f2, f3, f4⟩ := use_scal ⟨b, by omega⟩ rfl hv pc pr
      have e := exX_s (n := n) (x := x) ⟨b, by omega⟩
      have hm6 : Mo (fun b => b = 409) M5 (m_X5_useScalars (100000 + cn (c (ePc x)) 0) M5) := by
        rcases f3 with z | ⟨q, y, q1, z⟩
        · rw [z]; exact Mo.rf
        · rw [z]; exact Mo_uL rfl
      have hW6 : Wf (m_X5_useScalars (100000 + cn (c (ePc x)) 0) M5) := Wf_m_X5_useScalars _ p1
      have g7 : ∀ j, j ≠ 7 → gI (uI (m_X5_useScalars (100000 + cn (c (ePc x)) 0) M5) 7 7 (f_X5_useScalars (100000 + cn (c (ePc x)) 0) M5)) 7 j = gI M5 7 j := fun j hj => by rw [rI_k hj]; exact hm6.I (by decide)
      have h446 : ∀ j, gI (uI (m_X5_useScalars (100000 + cn (c (ePc x)) 0) M5) 7 7 (f_X5_useScalars (100000 + cn (c (ePc x)) 0) M5)) 446 j = gI M5 446 j := fun j => by rw [rI_a (by decide)]; exact hm6.I (by decide)
      refine stp_out hc hK hv hn hx he hP' (Wf_uI hW6) ((hm6.mono (fun b hb => by omega)).tr (Mo_uI (Or.inl rfl))) ?_ ?_ (fun j a2 a3 a6 a7 => g7 j a7) (by rw [e]) (by rw [e]) (fun z => ?_) (fun z => ?_) hx4
      · rw [e]
        have : eD (if (scD (cn (c (ePc x)) 0) (c (ePc x)) (eD x)).1 = 0 then adv n x (scD (cn (c (ePc x)) 0) (c (ePc x)) (eD x)).2 (ePc x + 1) (eK x) (eCf x) 0 false else x) = (scD (cn (c (ePc x)) 0) (c (ePc x)) (eD x)).2 := by
          split
          · rfl
          · rename_i z
            exact (scD_f z).symm
        show RD _ 405 (eD (if (scD (cn (c (ePc x)) 0) (c (ePc x)) (eD x)).1 = 0 then adv n x (scD (cn (c (ePc x)) 0) (c (ePc x)) (eD x)).2 (ePc x + 1) (eK x) (eCf x) 0 false else x))
        rw [this]
        exact f2.mo (Mo_uI (S := fun b => b = 7) rfl) (fun b hb => by have hb : b = 7 := hb; omega)
      · rw [e, rI_eq]; exact f1
      · rw [e] at z ⊢
        have z : (scD (cn (c (ePc x)) 0) (c (ePc x)) (eD x)).1 = 0 := z
        refine ⟨_, _, _, _, _, if_pos z, ?_, ?_, fun j hj => ?_, ?_⟩
        · rw [g7 _ (by decide)]; exact q2
        · rw [g7 _ (by decide)]; exact q3
        · rw [h446]; exact qc j hj
        · rw [g7 _ (by decide)]; exact q6
      · exact ⟨by rw [g7 _ (by decide)]; exact q3, fun j hj => by rw [h446]; exact qc j hj, by rw [g7 _ (by decide)]; exact q6⟩
    · obtain ⟨f2, f3, f4⟩ := use_masks ⟨a, by omega⟩ rfl hv pc pr
      have e := exX_m (n := n) (x := x) ⟨a, by omega⟩
      have hm6 : Mo (fun b => b = 408 ∨ b = 409) M5 (m_X5_useMasks (100000 + cn (c (ePc x)) 0) M5) := by
        rcases f3 with ⟨q, y, q1, z⟩ | ⟨q, y, q1, z⟩
        · rw [z]; exact Mo_uI (Or.inl rfl)
        · rw [z]; exact Mo_uL (Or.inr rfl)
      have hW6 : Wf (m_X5_useMasks (100000 + cn (c (ePc x)) 0) M5) := Wf_m_X5_useMasks _ p1
      have g7 : ∀ j, gI (m_X5_useMasks (100000 + cn (c (ePc x)) 0) M5) 7 j = gI M5 7 j := fun j => hm6.I (by omega)
      have h446 : ∀ j, gI (m_X5_useMasks (100000 + cn (c (ePc x)) 0) M5) 446 j = gI M5 446 j := fun j => hm6.I (by omega)
      refine stp_out hc hK hv hn hx he hP' hW6 (hm6.mono (fun b hb => by omega)) ?_ ?_ (fun j a2 a3 a6 a7 => g7 j) (by rw [e]) (by rw [e]) (fun z => ?_) (fun z => ?_) hx4
      · rw [e]; exact f2
      · rw [e, g7]; exact q7
      · rw [e]
        refine ⟨_, _, _, _, _, rfl, ?_, ?_, fun j hj => ?_, ?_⟩
        · rw [g7]; exact q2
        · rw [g7]; exact q3
        · rw [h446]; exact qc j hj
        · rw [g7]; exact q6
      · rw [e] at z; exact absurd rfl z
    · have h46 : cn (c (ePc x)) 0 < 46 := by omega
      obtain ⟨m0, lb⟩ := pb h46
      refine c_pfD h46 nmk hx.2.2.2.2 hv.vc hv.vx pc m0 lb pm2 pm3 (fun M6 hE => ?_)
      exact rX5_step_202_4 hc hE.1 (stp_ln hc hK hv hn hx he hP' h46 hE.1 hE.2.1 hE.2.2.1 hE.2.2.2.1 hE.2.2.2.2.1 hE.2.2.2.2.2.1 hx4)
end
end STEP2
