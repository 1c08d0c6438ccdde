section CNT
section
variable {M M' : Mem} {K : RT} {X : Mem → Prop} {s : SG} {Fl : Mem → Nat → (Nat → Nat → Int64) → Prop} {S : Nat → Prop}
theorem c_stopsSet {st : Nat → Bool} (hW : Wf M) (hs : CSt M st) (h : K (some (.int (nI (cntB st 100)))) M) : sp_X12_stopsSet [.ref 0] M K := by
  refine wX12_stopsSet hW (fun {G} hc => ?_)
  have loop : ∀ j i : Nat, i + j = 100 → G 4 [some (.ref 0), some (.int (nI (fb_ct st i))), some (.int (nI i))] [] M := by
    intro j
    induction j with
    | zero =>
      intro i hi
      have : i = 100 := by omega
      subst this
      exact eX12_stopsSet_4 hc hW ⟨fun _ => h, fun q => absurd (by decide) q⟩
    | succ j ih =>
      intro i hi
      refine eX12_stopsSet_4 hc hW ⟨fun q => absurd ((nI_leI (a := 100) (by decide) (by omega)).mp q) (by omega), fun _ => ⟨vpN (by omega) (by decide), ?_⟩⟩
      rw [nI_clamp (by omega), hs i (by omega), blI_0, nI_1]
      have ih := ih (i + 1) (by omega)
      rw [fb_ct_succ] at ih
      refine ⟨fun z => ?_, fun z => ?_⟩
      · rw [if_neg (by rw [z]; decide)] at ih
        rw [Int32.add_zero]
        exact ih
      · have z : st i = true := by simpa using z
        rw [if_pos z, ← nI_1] at ih
        exact ih
  exact loop 100 0 rfl
theorem cnt_w {w : Nat → Int64} {a : Nat} : fb_ct (fun i => wbB w (64 * a + i)) 64 = cntL (w a) := by
  unfold cntL
  refine fb_ct_cong (fun i hi => ?_)
  unfold wbB
  rw [show (64 * a + i) / 64 = a by omega, show (64 * a + i) % 64 = i by omega]
  have := wbit_b (w := w a) hi
  cases h : (w a).toBitVec.getLsbD i with
  | true => exact @decide_eq_true _ (Classical.propDecidable _) (this.mpr h)
  | false => exact @decide_eq_false _ (Classical.propDecidable _) (fun z => by rw [this.mp z] at h; exact absurd h (by decide))
theorem cnt_s {w : Nat → Int64} {a : Nat} : cntB (wbB w) (64 * (a + 1)) = cntB (wbB w) (64 * a) + cntL (w a) := by
  unfold cntB
  rw [show 64 * (a + 1) = 64 * a + 64 by omega, fb_ct_split, cnt_w]
theorem c_watchesSet {w : Nat → Int64} (hW : Wf M) (hs : CWw M w) (h : K (some (.int (nI (cntB (wbB w) 512)))) M) : sp_X12_watchesSet [.ref 0] M K := by
  refine wX12_watchesSet hW (fun {G} hc => ?_)
  have loop : ∀ j i : Nat, i + j = 8 → G 4 [some (.ref 0), some (.int (nI (cntB (wbB w) (64 * i)))), some (.int (nI i))] [] M := by
    intro j
    induction j with
    | zero =>
      intro i hi
      have : i = 8 := by omega
      subst this
      exact eX12_watchesSet_4 hc hW ⟨fun _ => h, fun q => absurd (by decide) q⟩
    | succ j ih =>
      intro i hi
      refine eX12_watchesSet_4 hc hW ⟨fun q => absurd ((nI_leI (a := 8) (by decide) (by omega)).mp q) (by omega), fun _ => ⟨vpN (by omega) (by decide), fun y hy => ?_⟩⟩
      rw [nI_clamp (by omega), hs i (by omega), bitCount_l, nI_add, ← cnt_s] at hy
      rw [hy, nI_1]
      exact ih (i + 1) (by omega)
  exact loop 8 0 rfl
theorem k_count {w : Int32} (hW : Wf M) (hC : CI Fl M s) (h : K (some (.int (sCount w s))) M) : sp_X12_count [.ref 0, .int w] M K := by
  have hr := hC.rd.1
  have cx := hC.2
  have co := hC.1
  obtain ⟨⟨-, -, e3, e4, -, e6, e7, e8⟩, -, ⟨l, hI, -⟩, -⟩ := cx
  obtain ⟨c1, c2, c3, c4, -⟩ := co
  unfold sCount at h
  refine wX12_count hW (fun {G} hc => ?_)
  rw [c2.1.2.1, e6, e7, hI.2.2.1, e3, e4, c2.2.2.1, c1.2.1]
  refine ⟨fun z => by rw [if_pos z] at h; exact h, fun n0 => ?_⟩
  rw [if_neg n0] at h
  refine ⟨fun z => by rw [if_pos z] at h; exact h, fun n1 => ?_⟩
  rw [if_neg n1] at h
  refine ⟨fun z => by rw [if_pos z] at h; exact h, fun n2 => ?_⟩
  rw [if_neg n2] at h
  refine ⟨fun z => by rw [if_pos z] at h; exact c_elements hW Sk_405 hr (rX12_count_88_2 hc hW h), fun n3 => ?_⟩
  rw [if_neg n3] at h
  refine ⟨fun z => by rw [if_pos z] at h; exact h, fun n4 => ?_⟩
  rw [if_neg n4] at h
  refine ⟨fun z => by rw [if_pos z] at h; exact h, fun n5 => ?_⟩
  rw [if_neg n5] at h
  refine ⟨fun z => by rw [if_pos z] at h; exact h, fun n6 => ?_⟩
  rw [if_neg n6] at h
  refine ⟨fun z => ?_, fun n7 => ?_⟩
  · rw [if_pos z] at h
    rw [e8]
    unfold blI at h
    refine ⟨fun y => ?_, fun y => ?_⟩
    · rw [if_neg (fun q => by rw [if_pos q] at y; exact absurd y (by decide))] at h; exact h
    · rw [if_pos (Classical.byContradiction (fun q => by rw [if_neg q] at y; exact y rfl))] at h; exact h
  rw [if_neg n7] at h
  refine ⟨fun z => by rw [if_pos z] at h; exact c_stopsSet hW c3 (rX12_count_139_1 hc hW h), fun n8 => ?_⟩
  rw [if_neg n8] at h
  refine ⟨fun z => by rw [if_pos z] at h; exact c_watchesSet hW c4 (rX12_count_144_1 hc hW h), fun n9 => ?_⟩
  rw [if_neg n9] at h
  refine ⟨fun z => by rw [if_pos z] at h; exact h, fun n10 => ?_⟩
  rw [if_neg n10] at h
  refine ⟨fun z => by rw [if_pos z] at h; exact h, fun n11 => ?_⟩
  rw [if_neg n11] at h
  exact h
theorem pcopy {p q n : Nat} {c : Nat → Nat → Int64} (hpq : p + 1 < q ∨ q + 1 < p) (hP : PRG M q n c) : q_X6_copyFrom p q M ∧ PRG (m_X6_copyFrom p q M) p n c ∧ gI (m_X6_copyFrom p q M) p 1 = gI M q 1 ∧ Mo (fun b => b = p ∨ b = p + 1) M (m_X6_copyFrom p q M) := by
  obtain ⟨hn, h0, hc⟩ := hP
  have e1 : gI (uI M p 0 (gI M q 0)) q 0 = nI n := by rw [(Mo_uI (S := fun b => b = p) (M := M) (a := p) (k := 0) (x := gI M q 0) rfl).I (by omega)]; exact h0
  have e6 : nI n * (6 : Int32) = nI (n * 6) := pk_mul n 6
  have hm : Mo (fun b => b = p ∨ b = p + 1) M (m_X6_copyFrom p q M) := by
    unfold m_X6_copyFrom
    exact ((Mo_uI (Or.inl rfl)).tr (Mo_uI (Or.inl rfl))).tr (Mo_bL (Or.inr rfl))
  refine ⟨?_, ⟨hn, ?_, fun i hi w hw => ?_⟩, ?_, hm⟩
  · unfold q_X6_copyFrom
    rw [e1, e6, nI_clamp (by omega)]
    exact ⟨by decide, by decide, nI_pos (by omega), by omega, by omega⟩
  · unfold m_X6_copyFrom
    show gI (uI (uI M p 0 (gI M q 0)) p 1 _) p 0 = _
    rw [rI_k (by decide), rI_eq, h0]
  · unfold m_X6_copyFrom
    rw [gL_bL, if_pos rfl]
    have : ∀ k x, gL (uI (uI M p 0 (gI M q 0)) p 1 x) k = gL M k := fun k x => rfl
    rw [e1, e6, nI_clamp (by omega), this, this]
    unfold va_cpy
    rw [if_pos (by omega)]
    have := hc i hi w hw
    rw [← this]
    congr 1
    omega
  · unfold m_X6_copyFrom
    show gI (uI (uI M p 0 (gI M q 0)) p 1 (gI M q 1)) p 1 = _
    rw [rI_eq]
theorem k_restore (hFl : FlOK Fl) (hW : Wf M) (hC : CI Fl M s) (h : ∀ M', Wf M' → Mo clsS M M' → CI Fl M' (sRestore s).2 → K (some (.int (sRestore s).1)) M') : sp_X12_restore [.ref 0] M K := by
  have hC0 := hC
  obtain ⟨⟨c1, ⟨p1, p2, p3, p4, p5, p6, p7, p8⟩, c3, c4, c5, c6⟩, cx⟩ := hC
  unfold sRestore at h
  refine wX12_restore hW (fun {G} hc => ?_)
  rw [p6, blI_0]
  refine ⟨fun z => ?_, fun z => by rw [if_neg (by rw [z]; decide)] at h; exact h M hW Mo.rf hC0⟩
  have z : gSl s = true := by simpa using z
  rw [if_pos z] at h
  obtain ⟨q1, q2, q3, q4⟩ := pcopy (M := M) (p := 8) (q := 447) (by omega) p2
  refine ⟨q1, ?_⟩
  have hW1 : Wf (m_X6_copyFrom 8 447 M) := Wf_m_X6_copyFrom _ _ hW
  generalize m_X6_copyFrom 8 447 M = M1 at q2 q3 q4 hW1 ⊢
  have hm1 : Mo (fun b => b = 0 ∨ b = 8 ∨ b = 9) M (uI M1 0 10 0) := (q4.mono (fun b hb => Or.inr hb)).tr (Mo_uI (Or.inl rfl))
  have hm1' : Mo (fun b => b = 0) M1 (uI M1 0 10 0) := Mo_uI rfl
  have hx1 := cx.mo hW hm1 (fun b hb => by omega)
  have p81 := q2.mo hm1' (by decide) (by decide)
  refine c_anew (n := (gP0 s).1) (c := (gP0 s).2) (Wf_uI hW1) hx1 ⟨p81.2.1, p81.1⟩ (fun M2 hW2 hm2 hst hfl hx2 => rX12_restore_9_9 hc hW2 ?_)
  have hm : Mo (fun b => (b = 0 ∨ b = 8 ∨ b = 9) ∨ (b = 455 ∨ b = 449 ∨ stpS b)) M M2 := (hm1.mono (fun b hb => Or.inl hb)).tr (hm2.mono (fun b hb => Or.inr hb))
  have nn : ∀ b, ((b = 0 ∨ b = 8 ∨ b = 9) ∨ (b = 455 ∨ b = 449 ∨ stpS b)) → b = 0 ∨ (7 ≤ b ∧ b ≤ 446) ∨ b = 455 ∨ b = 449 := fun b hb => by unfold stpS at hb; omega
  refine h _ hW2 (hm.mono (fun b hb => by have := nn b hb; unfold clsS; omega)) ⟨⟨c1.mo hm (fun z => by have := nn _ z; omega) (fun z => by have := nn _ z; omega), ⟨p81.mo hm2 (by unfold stpS; omega) (by unfold stpS; omega), p2.mo hm (fun z => by have := nn _ z; omega) (fun z => by have := nn _ z; omega), ?_, ?_, p5, ?_, p8, p8⟩, fun i hi => hst i hi, c4.mo hm (fun z => by have := nn _ z; omega), c5.mo hm (fun z => by have := nn _ z; omega) (fun b hb => by have := nn _ hb; omega), ⟨Or.inl hfl, fun z => by rw [hfl] at z; exact absurd z (by decide)⟩⟩, hx2⟩
  · rw [hm2.I (by unfold stpS; omega), hm1'.I (by decide), q3]; exact p4
  · rw [hm.I (fun z => by have := nn _ z; omega)]; exact p4
  · rw [hm2.I (by unfold stpS; omega), rI_eq]; rfl
end
end CNT
