section RLANE
/-- the reference's data by functions of its cells -/
def RDv (kF lF aK aL : Nat → Int32) (wF : Nat → Int64) (rF : Nat → UInt64) (mF : Nat → Int32) (sF : Nat → Int64) (d : DS) : Prop :=
  (∀ v, v < 8 → kF v = dk d (2 * v) ∧ lF v = nI (dn d (2 * v)) ∧ ∀ i, i < dn d (2 * v) → VR (dk d (2 * v)) (wF (32 * v + i)) (rF (32 * v + i)) (di d (2 * v) i))
  ∧ (∀ a, a < 8 → aK a = dk d (2 * a + 1) ∧ aL a = nI (dn d (2 * a + 1)) ∧ ∀ i, i < dn d (2 * a + 1) → VR (dk d (2 * a + 1)) (wF (256 + 64 * a + i)) (rF (256 + 64 * a + i)) (di d (2 * a + 1) i))
  ∧ (∀ m, m < 4 → mF m = dm d m) ∧ ∀ k, k < 8 → sF k = dsc d k
def RDc (M : Mem) (d : DS) : Prop := RDv (gI M 624) (gI M 625) (gI M 628) (gI M 629) (gL M 626) (gD M 627) (gI M 630) (gL M 631) d
/-- n lanes of kind k in a pair of arrays -/
def LR (M : Mem) (w x : Nat) (k : Int32) (n : Nat) (X : Nat → Int64) : Prop := ∀ j, j < n → VR k (gL M w j) (gD M x j) (X j)
section
variable {M M' : Mem} {K : RT} {n i : Nat} {c : Nat → Nat → Int64}
theorem cast13_K {k k1 : Int32} {w b : Int64} {x : UInt64} (hW : Wf M) (hk : isK k) (hk1 : isK k1) (hb : okJ k1 b) (hv : VR k1 w x b) (h : mkC M K k (infJ k (casJ k1 k b), casJ k1 k b)) : q_X13_cast k k1 w x ∧ K (some (.int (f_X13_cast k k1 w x))) (m_X13_cast k k1 w x M) := by
  have hh := h.inf rfl
  unfold casJ at hh
  unfold q_X13_cast f_X13_cast m_X13_cast
  by_cases hr : isRk k
  · have r := (isReal_P hk).mpr hr
    rw [iT_t hr] at hh
    rw [iT_t r, iT_t r]
    by_cases hr1 : isRk k1
    · have r1 := (isReal_P hk1).mpr hr1
      rw [iT_t r1, iT_t r1]
      rw [iT_t hr1] at hh
      rw [hv.r hr1]
      obtain ⟨s, n, hn, rfl⟩ := fin_bk (hb.1 hr1)
      have hn' := Nat.le_of_lt hn
      rw [sOf_bk hr1 hn', nOf_bk hr1 hn'] at hh
      have key : f_X13_near k (xO k1 (bk k1 s n)) = xO k (bk k s (pm (fm k) (sgN (fm k1) n) (exN (fm k1) n))) ∧ q_X13_near k (xO k1 (bk k1 s n)) := by
        rw [xO_bk hr1 hn', xO_bk hr pm_le]
        unfold f_X13_near q_X13_near
        rcases hr with rfl | rfl
        · have e : FP.d2f (X6 s (w6 k1 n)) = X5 s (pm (fm 5) (sgN (fm k1) n) (exN (fm k1) n)) := by
            rw [d2f_X (w6_le hr1 hn')]
            rcases hr1 with rfl | rfl
            · rw [w65, nar_wid hn', pm_self rk5 hn]
            · rw [w66]; exact congrArg (X5 s) (if_pos hn)
          rw [if_pos rfl, e, f2d_X pm_le, w65]
          exact ⟨rfl, fun _ => ⟨vf5 pm_le, vf6 (wid_le pm_le).1⟩⟩
        · rw [if_neg (by decide)]
          refine ⟨?_, fun z => absurd z (by decide)⟩
          rcases hr1 with rfl | rfl
          · rw [w65, w66]; exact congrArg (X6 s) (if_pos hn)
          · rw [w66, w66, pm_self rk6 hn]
      obtain ⟨e, q⟩ := key
      rw [e]
      exact ⟨fun _ => ⟨fun z => absurd r1 z, fun _ => q⟩, gv_R hW hr pm_le hh⟩
    · have r1 : ¬ P_X13_isReal k1 := fun z => hr1 ((isReal_P hk1).mp z)
      rw [iT_f r1, iT_f r1]
      rw [iT_f hr1] at hh
      rw [hv.w hr1]
      obtain ⟨e, q⟩ := nearLong_is hr b
      have ep : putJ k b = reaJ k b := by unfold putJ; exact iT_t hr
      rw [ep] at e
      rw [e]
      refine ⟨fun _ => ⟨fun _ => q, fun z => absurd z r1⟩, ?_⟩
      have hf := reaJ_fin hr b
      rw [hf.2] at hh ⊢
      exact gv_R hW hr (Nat.le_of_lt hf.1) hh
  · have r : ¬ P_X13_isReal k := fun z => hr ((isReal_P hk).mp z)
    rw [iT_f r, iT_f r]
    rw [infJ_w hk hr, iT_f hr] at hh
    refine ⟨fun z => absurd z r, ?_⟩
    by_cases hr1 : isRk k1
    · have r1 := (isReal_P hk1).mpr hr1
      rw [iT_t r1, iT_t r1, hv.r hr1]
      by_cases e4 : k = 4
      · rw [iT_f (fun z => z.2 e4)] at hh
        rw [if_pos e4, if_pos e4, whole_bits hr1 (hb.1 hr1)]
        exact gv_W hW hk hr rfl hh
      · rw [iT_t ⟨hr1, e4⟩] at hh
        rw [if_neg e4, if_neg e4, whole_i hr1 (hb.1 hr1)]
        exact gv_W hW hk hr rfl hh
    · have r1 : ¬ P_X13_isReal k1 := fun z => hr1 ((isReal_P hk1).mp z)
      rw [iT_f r1, iT_f r1]
      rw [iT_f (fun z => hr1 z.1)] at hh
      have ew : f_X3_whole k1 b = b := by
        unfold f_X3_whole
        exact iT_f (fun z => hr1 ((isK_real hk1).mp z))
      rw [ew] at hh
      rw [hv.w hr1]
      exact gv_W hW hk hr rfl hh
/-- a lane of the reference's operands -/
theorem lane_vp {j : Nat} (h : j < 32) : vp_in (nI j) 32 ∧ (nI j).toNatClampNeg = j := ⟨vpN h (by decide), nI_clamp (by omega)⟩
/-- a scalar that the instruction names -/
theorem scOf {d : DS} (hC : RC M n c i) (ho : cn (c i) 0 < 46) (hu : usS (cn (c i) 0) = true) (hs : ∀ q, q < 8 → gL M 631 q = dsc d q) : q_X13_operandOf (nI i) (nI (posS (cn (c i) 0))) M ∧ vp_in (f_X13_operandOf (nI i) (nI (posS (cn (c i) 0))) M) 8 ∧ gL M 631 (f_X13_operandOf (nI i) (nI (posS (cn (c i) 0))) M).toNatClampNeg = dsc d (scN (cn (c i) 0) (c i)) := by
  obtain ⟨a1, a2⟩ := sc_is ho hC.2.2.2.2.vc hu
  obtain ⟨b1, b2⟩ := opOf (k := posS (cn (c i) 0)) hC (by unfold posS; split; omega; split <;> omega) a2
  rw [b2, nI_clamp (by omega)]
  exact ⟨b1, vpN a1 (by decide), hs _ a1⟩
theorem scOf2 {d : DS} (hC : RC M n c i) (ho : cn (c i) 0 < 46) (hu : usS (cn (c i) 0) = true) (hp : posS (cn (c i) 0) = 2) (hs : ∀ q, q < 8 → gL M 631 q = dsc d q) : q_X13_operandOf (nI i) (2 : Int32) M ∧ vp_in (f_X13_operandOf (nI i) (2 : Int32) M) 8 ∧ gL M 631 (f_X13_operandOf (nI i) (2 : Int32) M).toNatClampNeg = dsc d (scN (cn (c i) 0) (c i)) := by
  have h := scOf (d := d) hC ho hu hs
  rw [hp] at h
  exact h
theorem scOf1 {d : DS} (hC : RC M n c i) (ho : cn (c i) 0 < 46) (hu : usS (cn (c i) 0) = true) (hp : posS (cn (c i) 0) = 1) (hs : ∀ q, q < 8 → gL M 631 q = dsc d q) : q_X13_operandOf (nI i) (1 : Int32) M ∧ vp_in (f_X13_operandOf (nI i) (1 : Int32) M) 8 ∧ gL M 631 (f_X13_operandOf (nI i) (1 : Int32) M).toNatClampNeg = dsc d (scN (cn (c i) 0) (c i)) := by
  have h := scOf (d := d) hC ho hu hs
  rw [hp] at h
  exact h
end
end RLANE
