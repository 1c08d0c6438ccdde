section MAKE13
theorem gv_W {k : Int32} {V r : Int64} {M : Mem} {K : RT} (hW : Wf M) (hk : isK k) (hr : ¬ isRk k) (e : f_X3_lowBits k V = r) (h : ∀ M', Wf M' → FrC rwS M M' → RW M' k r → K (some (.int 0)) M') : K (some (.int (f_X13_giveWhole k V))) (m_X13_giveWhole k V M) := by
  refine h _ (rw_u.wf hW) rw_u (rw_v ⟨fun z => absurd z hr, fun _ => ?_⟩)
  rw [low_13 hk hr, e]
theorem gv_R {k : Int32} {s : Bool} {n : Nat} {M : Mem} {K : RT} (hW : Wf M) (hr : isRk k) (hn : n ≤ iN k) (h : ∀ M', Wf M' → FrC rwS M M' → RW M' k (bk k s n) → K (some (.int (infJ k (bk k s n)))) M') : K (some (.int (f_X13_givesReal k (xO k (bk k s n))))) (m_X13_givesReal k (xO k (bk k s n)) M) := by
  rw [gives_is hr hn]
  exact h _ (rw_u.wf hW) rw_u (rw_v ⟨fun _ => rfl, fun z => absurd hr z⟩)
theorem infJ_nf {k : Int32} (hr : isRk k) {s : Bool} {n : Nat} (hn : n < iN k) : infJ k (bk k s n) = 0 := by
  unfold infJ
  exact iT_f (fun z => by have := (inf_bk hr (Nat.le_of_lt hn)).mp z; omega)
theorem sumJ_bk {k : Int32} (hr : isRk k) {s t : Bool} {n m : Nat} (hn : n ≤ iN k) (hm : m ≤ iN k) : sumJ k (bk k s n) (bk k t m) = bk k (suS k s n t m) (suM k s n t m) := by unfold sumJ; rw [sOf_bk hr hn, nOf_bk hr hn, sOf_bk hr hm, nOf_bk hr hm]
theorem proJ_bk {k : Int32} (hr : isRk k) {s t : Bool} {n m : Nat} (hn : n ≤ iN k) (hm : m ≤ iN k) : proJ k (bk k s n) (bk k t m) = bk k (s != t) (muM k n m) := by unfold proJ; rw [sOf_bk hr hn, nOf_bk hr hn, sOf_bk hr hm, nOf_bk hr hm]
theorem quoJ_bk {k : Int32} (hr : isRk k) {s t : Bool} {n m : Nat} (hn : n ≤ iN k) (hm : m ≤ iN k) : quoJ k (bk k s n) (bk k t m) = bk k (s != t) (diM k n m) := by unfold quoJ; rw [sOf_bk hr hn, nOf_bk hr hn, sOf_bk hr hm, nOf_bk hr hm]
theorem resJ_bk {k : Int32} (hr : isRk k) {s t : Bool} {n m : Nat} (hn : n ≤ iN k) (hm : m ≤ iN k) : resJ k (bk k s n) (bk k t m) = bk k s (reM k n m) := by unfold resJ; rw [sOf_bk hr hn, nOf_bk hr hn, nOf_bk hr hm]
theorem ordS_pos {k : Int32} {x y : Int64} : (0 < ordS k x y ↔ f_X3_order k y < f_X3_order k x) ∧ (ordS k x y < 0 ↔ f_X3_order k x < f_X3_order k y) := by
  have hh : ∀ a b : Int64, a < b → ¬ b < a := fun a b h1 h2 => by rw [Int64.lt_iff_toInt_lt] at h1 h2; omega
  unfold ordS
  by_cases a : f_X3_order k x < f_X3_order k y
  · rw [if_pos a]
    exact ⟨⟨fun z => absurd z (by decide), fun z => absurd z (hh _ _ a)⟩, fun _ => a, fun _ => by decide⟩
  · rw [if_neg a]
    by_cases b : f_X3_order k y < f_X3_order k x
    · rw [if_pos b]
      exact ⟨⟨fun _ => b, fun _ => by decide⟩, fun z => absurd z (by decide), fun z => absurd z a⟩
    · rw [if_neg b]
      exact ⟨⟨fun z => absurd z (by decide), fun z => absurd z b⟩, fun z => absurd z (by decide), fun z => absurd z a⟩
theorem bin6 {k : Int32} (hk : isK k) {x y : Int64} : iT (isRk k) (reaS 6 k x y) (whoS 6 k x y) = (0, if f_X3_order k y < f_X3_order k x then y else x) := by
  by_cases hr : isRk k
  · rw [iT_t hr]; rfl
  · rw [iT_f hr, ordK hk hr, ordK hk hr]; rfl
theorem bin7 {k : Int32} (hk : isK k) {x y : Int64} : iT (isRk k) (reaS 7 k x y) (whoS 7 k x y) = (0, if f_X3_order k x < f_X3_order k y then y else x) := by
  by_cases hr : isRk k
  · rw [iT_t hr]; rfl
  · rw [iT_f hr, ordK hk hr, ordK hk hr]; rfl
noncomputable def binS (o : Nat) (k : Int32) (x y : Int64) : Int32 × Int64 := iT (isRk k) (reaS o k x y) (whoS o k x y)
/-- how a call of make goes on -/
def mkC (M : Mem) (K : RT) (k : Int32) (r : Int32 × Int64) : Prop := ∀ M', Wf M' → FrC rwS M M' → (r.1 = 0 → RW M' k r.2) → K (some (.int r.1)) M'
theorem mkC.ok {M : Mem} {K : RT} {k : Int32} {r : Int32 × Int64} (h : mkC M K k r) {v : Int64} (e : r = (0, v)) : ∀ M', Wf M' → FrC rwS M M' → RW M' k v → K (some (.int 0)) M' := by
  subst e
  exact fun M' a b c => h M' a b (fun _ => c)
theorem mkC.inf {M : Mem} {K : RT} {k : Int32} {r : Int32 × Int64} (h : mkC M K k r) {v : Int64} (e : r = (infJ k v, v)) : ∀ M', Wf M' → FrC rwS M M' → RW M' k v → K (some (.int (infJ k v))) M' := by
  subst e
  exact fun M' a b c => h M' a b (fun _ => c)

theorem c_make13_1 {k : Int32} {w w' b b' : Int64} {x x' : UInt64} {M : Mem} {K : RT} (hW : Wf M) (hk : isK k) (hb : okJ k b) (hb' : okJ k b') (hv : VR k w x b) (hv' : VR k w' x' b') (h : mkC M K k (binS 1 k b b')) : sp_X13_make [.ref 605, .int 1, .int k, .long w, .double x, .long w', .double x'] M K := by
  refine wX13_make hW (fun {G} hc => ⟨fun a => absurd a (by decide), fun _ => ⟨fun _ => ⟨fun r => ?_, fun r => ?_⟩, fun a => absurd a (by decide)⟩⟩)
  · have hr : ¬ isRk k := fun z => r ((isReal_P hk).mpr z)
    unfold binS at h
    rw [iT_f hr] at h
    rw [hv.w hr, hv'.w hr]
    exact ⟨fun _ => gv_W hW hk hr rfl (h.ok rfl), fun a => absurd rfl a⟩
  · have hr := (isReal_P hk).mp r
    unfold binS at h
    rw [iT_t hr] at h
    rw [hv.r hr, hv'.r hr]
    obtain ⟨s, n, hn, rfl⟩ := fin_bk (hb.1 hr)
    obtain ⟨t, m, hm, rfl⟩ := fin_bk (hb'.1 hr)
    have hn' := Nat.le_of_lt hn
    have hm' := Nat.le_of_lt hm
    obtain ⟨e, q⟩ := rm1 hr hn hm (s := s) (t := t)
    have hh := h.inf rfl
    rw [sumJ_bk hr hn' hm'] at hh
    refine ⟨fun _ => ⟨q, ?_⟩, fun a => absurd (by decide) a⟩
    rw [e]
    exact gv_R hW hr suM_le hh
theorem c_make13_2 {k : Int32} {w w' b b' : Int64} {x x' : UInt64} {M : Mem} {K : RT} (hW : Wf M) (hk : isK k) (hb : okJ k b) (hb' : okJ k b') (hv : VR k w x b) (hv' : VR k w' x' b') (h : mkC M K k (binS 2 k b b')) : sp_X13_make [.ref 605, .int 2, .int k, .long w, .double x, .long w', .double x'] M K := by
  refine wX13_make hW (fun {G} hc => ⟨fun a => absurd a (by decide), fun _ => ⟨fun _ => ⟨fun r => ?_, fun r => ?_⟩, fun a => absurd a (by decide)⟩⟩)
  · have hr : ¬ isRk k := fun z => r ((isReal_P hk).mpr z)
    unfold binS at h
    rw [iT_f hr] at h
    rw [hv.w hr, hv'.w hr]
    exact ⟨fun a => absurd a (by decide), fun _ => ⟨fun _ => gv_W hW hk hr rfl (h.ok rfl), fun a => absurd rfl a⟩⟩
  · have hr := (isReal_P hk).mp r
    unfold binS at h
    rw [iT_t hr] at h
    rw [hv.r hr, hv'.r hr]
    obtain ⟨s, n, hn, rfl⟩ := fin_bk (hb.1 hr)
    obtain ⟨t, m, hm, rfl⟩ := fin_bk (hb'.1 hr)
    have hn' := Nat.le_of_lt hn
    have hm' := Nat.le_of_lt hm
    obtain ⟨e, q⟩ := rm2 hr hn hm (s := s) (t := t)
    have hh := h.inf rfl
    rw [turned_bk hr hm', sumJ_bk hr hn' hm'] at hh
    refine ⟨fun _ => ⟨q, ?_⟩, fun a => absurd (by decide) a⟩
    rw [e]
    exact gv_R hW hr suM_le hh
theorem c_make13_3 {k : Int32} {w w' b b' : Int64} {x x' : UInt64} {M : Mem} {K : RT} (hW : Wf M) (hk : isK k) (hb : okJ k b) (hb' : okJ k b') (hv : VR k w x b) (hv' : VR k w' x' b') (h : mkC M K k (binS 3 k b b')) : sp_X13_make [.ref 605, .int 3, .int k, .long w, .double x, .long w', .double x'] M K := by
  refine wX13_make hW (fun {G} hc => ⟨fun a => absurd a (by decide), fun _ => ⟨fun _ => ⟨fun r => ?_, fun r => ?_⟩, fun a => absurd a (by decide)⟩⟩)
  · have hr : ¬ isRk k := fun z => r ((isReal_P hk).mpr z)
    unfold binS at h
    rw [iT_f hr] at h
    rw [hv.w hr, hv'.w hr]
    exact ⟨fun a => absurd a (by decide), fun _ => ⟨fun a => absurd a (by decide), fun _ => ⟨fun _ => gv_W hW hk hr rfl (h.ok rfl), fun a => absurd rfl a⟩⟩⟩
  · have hr := (isReal_P hk).mp r
    unfold binS at h
    rw [iT_t hr] at h
    rw [hv.r hr, hv'.r hr]
    obtain ⟨s, n, hn, rfl⟩ := fin_bk (hb.1 hr)
    obtain ⟨t, m, hm, rfl⟩ := fin_bk (hb'.1 hr)
    have hn' := Nat.le_of_lt hn
    have hm' := Nat.le_of_lt hm
    obtain ⟨e, q⟩ := rm3 hr hn hm (s := s) (t := t)
    have hh := h.inf rfl
    rw [proJ_bk hr hn' hm'] at hh
    refine ⟨fun _ => ⟨q, ?_⟩, fun a => absurd (by decide) a⟩
    rw [e]
    exact gv_R hW hr muM_le hh
theorem c_make13_4 {k : Int32} {w w' b b' : Int64} {x x' : UInt64} {M : Mem} {K : RT} (hW : Wf M) (hk : isK k) (hb : okJ k b) (hb' : okJ k b') (hv : VR k w x b) (hv' : VR k w' x' b') (h : mkC M K k (binS 4 k b b')) : sp_X13_make [.ref 605, .int 4, .int k, .long w, .double x, .long w', .double x'] M K := by
  refine wX13_make hW (fun {G} hc => ⟨fun a => absurd a (by decide), fun _ => ⟨fun _ => ⟨fun r => ?_, fun r => ?_⟩, fun a => absurd a (by decide)⟩⟩)
  · have hr : ¬ isRk k := fun z => r ((isReal_P hk).mpr z)
    unfold binS at h
    rw [iT_f hr] at h
    rw [hv.w hr, hv'.w hr]
    rw [whoS4] at h
    refine ⟨fun a => absurd a (by decide), fun _ => ⟨fun a => absurd a (by decide), fun _ => ⟨fun a => absurd a (by decide), fun _ => ⟨fun _ => eX13_make_210 hc hW ⟨fun z => ?_, fun z => ?_⟩, fun a => absurd rfl a⟩⟩⟩⟩
    · rw [if_neg z] at h
      exact ⟨fun a => absurd rfl a, fun _ => ⟨z, gv_W hW hk hr rfl (h.ok rfl)⟩⟩
    · rw [if_pos z] at h
      exact h _ hW FrC.rf (fun y => absurd y (by decide))
  · have hr := (isReal_P hk).mp r
    unfold binS at h
    rw [iT_t hr] at h
    rw [hv.r hr, hv'.r hr]
    obtain ⟨s, n, hn, rfl⟩ := fin_bk (hb.1 hr)
    obtain ⟨t, m, hm, rfl⟩ := fin_bk (hb'.1 hr)
    have hn' := Nat.le_of_lt hn
    have hm' := Nat.le_of_lt hm
    rw [x_z hr hm]
    rw [reaS4] at h
    refine ⟨fun a => absurd a (by decide), fun _ => ⟨fun z => ?_, fun z => ?_⟩⟩
    · rw [iT_f (fun y => z ((zero_bk hr hm').mp y))] at h
      have hz : 0 < sgN (fm k) m := Nat.pos_of_ne_zero (fun y => z ((sg_z hr hm).mp y))
      obtain ⟨e, q⟩ := rm4 hr hn hm (s := s) (t := t) hz
      refine ⟨q, ?_⟩
      rw [e]
      have hh := h.inf rfl
      rw [quoJ_bk hr hn' hm'] at hh
      exact gv_R hW hr (diM_le hr n m) hh
    · rw [iT_t ((zero_bk hr hm').mpr z)] at h
      exact h _ hW FrC.rf (fun y => absurd y (by decide))
theorem c_make13_5 {k : Int32} {w w' b b' : Int64} {x x' : UInt64} {M : Mem} {K : RT} (hW : Wf M) (hk : isK k) (hb : okJ k b) (hb' : okJ k b') (hv : VR k w x b) (hv' : VR k w' x' b') (h : mkC M K k (binS 5 k b b')) : sp_X13_make [.ref 605, .int 5, .int k, .long w, .double x, .long w', .double x'] M K := by
  refine wX13_make hW (fun {G} hc => ⟨fun a => absurd a (by decide), fun _ => ⟨fun _ => ⟨fun r => ?_, fun r => ?_⟩, fun a => absurd a (by decide)⟩⟩)
  · have hr : ¬ isRk k := fun z => r ((isReal_P hk).mpr z)
    unfold binS at h
    rw [iT_f hr] at h
    rw [hv.w hr, hv'.w hr]
    rw [whoS5] at h
    refine ⟨fun a => absurd a (by decide), fun _ => ⟨fun a => absurd a (by decide), fun _ => ⟨fun a => absurd a (by decide), fun _ => ⟨fun a => absurd a (by decide), fun _ => ⟨fun _ => eX13_make_210 hc hW ⟨fun z => ?_, fun z => ?_⟩, fun a => absurd rfl a⟩⟩⟩⟩⟩
    · rw [if_neg z] at h
      exact ⟨fun _ => ⟨z, gv_W hW hk hr rfl (h.ok rfl)⟩, fun a => absurd a (by decide)⟩
    · rw [if_pos z] at h
      exact h _ hW FrC.rf (fun y => absurd y (by decide))
  · have hr := (isReal_P hk).mp r
    unfold binS at h
    rw [iT_t hr] at h
    rw [hv.r hr, hv'.r hr]
    obtain ⟨s, n, hn, rfl⟩ := fin_bk (hb.1 hr)
    obtain ⟨t, m, hm, rfl⟩ := fin_bk (hb'.1 hr)
    have hn' := Nat.le_of_lt hn
    have hm' := Nat.le_of_lt hm
    rw [x_z hr hm]
    rw [reaS5] at h
    refine ⟨fun a => absurd a (by decide), fun _ => ⟨fun z => ?_, fun z => ?_⟩⟩
    · rw [iT_f (fun y => z ((zero_bk hr hm').mp y))] at h
      have hz : 0 < sgN (fm k) m := Nat.pos_of_ne_zero (fun y => z ((sg_z hr hm).mp y))
      obtain ⟨e, q⟩ := rm5 hr hn hm (s := s) (t := t) hz
      refine ⟨q, ?_⟩
      rw [e]
      have hh := h.ok rfl
      rw [resJ_bk hr hn' hm'] at hh
      have hl := reM_lt hr hn hm hz
      exact gv_R hW hr (Nat.le_of_lt hl) (by rw [infJ_nf hr hl]; exact hh)
    · rw [iT_t ((zero_bk hr hm').mpr z)] at h
      exact h _ hW FrC.rf (fun y => absurd y (by decide))
theorem c_make13_6 {k : Int32} {w w' b b' : Int64} {x x' : UInt64} {M : Mem} {K : RT} (hW : Wf M) (hk : isK k) (hb : okJ k b) (hb' : okJ k b') (hv : VR k w x b) (hv' : VR k w' x' b') (h : mkC M K k (binS 6 k b b')) : sp_X13_make [.ref 605, .int 6, .int k, .long w, .double x, .long w', .double x'] M K := by
  refine wX13_make hW (fun {G} hc => ⟨fun _ => ?_, fun a => absurd rfl a⟩)
  unfold binS at h
  rw [bin6 hk] at h
  refine eX13_make_12 hc hW (c_order13 hW hk hb hb' hv hv' (rX13_make_12_5 hc hW ?_))
  have hh := h.ok rfl
  refine ⟨fun z => absurd rfl z, fun _ => ⟨fun y => ?_, fun y => ?_⟩⟩
  · rw [if_pos (ordS_pos.1.mp y)] at hh
    refine eX13_make_54 hc hW ⟨fun _ => ⟨fun _ => hh _ (rw_u.wf hW) rw_u (rw_v hv'), fun z => absurd rfl z⟩, fun z => absurd rfl z⟩
  · rw [if_neg (fun z => y (ordS_pos.1.mpr z))] at hh
    refine eX13_make_54 hc hW ⟨fun z => absurd z (by decide), fun _ => ⟨fun z => absurd z (by decide), fun _ => hh _ (rw_u.wf hW) rw_u (rw_v hv)⟩⟩
theorem c_make13_7 {k : Int32} {w w' b b' : Int64} {x x' : UInt64} {M : Mem} {K : RT} (hW : Wf M) (hk : isK k) (hb : okJ k b) (hb' : okJ k b') (hv : VR k w x b) (hv' : VR k w' x' b') (h : mkC M K k (binS 7 k b b')) : sp_X13_make [.ref 605, .int 7, .int k, .long w, .double x, .long w', .double x'] M K := by
  refine wX13_make hW (fun {G} hc => ⟨fun a => absurd a (by decide), fun _ => ⟨fun a => absurd rfl a, fun _ => ?_⟩⟩)
  unfold binS at h
  rw [bin7 hk] at h
  refine eX13_make_12 hc hW (c_order13 hW hk hb hb' hv hv' (rX13_make_12_5 hc hW ?_))
  have hh := h.ok rfl
  refine ⟨fun _ => ⟨fun y => ?_, fun y => ?_⟩, fun z => absurd z (by decide)⟩
  · rw [if_pos (ordS_pos.2.mp y)] at hh
    refine eX13_make_54 hc hW ⟨fun _ => ⟨fun _ => hh _ (rw_u.wf hW) rw_u (rw_v hv'), fun z => absurd rfl z⟩, fun z => absurd rfl z⟩
  · rw [if_neg (fun z => y (ordS_pos.2.mpr z))] at hh
    refine eX13_make_54 hc hW ⟨fun z => absurd z (by decide), fun _ => ⟨fun z => absurd z (by decide), fun _ => hh _ (rw_u.wf hW) rw_u (rw_v hv)⟩⟩
theorem c_make13_8 {k : Int32} {w w' b b' : Int64} {x x' : UInt64} {M : Mem} {K : RT} (hW : Wf M) (hk : isK k) (hb : okJ k b) (hb' : okJ k b') (hv : VR k w x b) (hv' : VR k w' x' b') (h7 : ¬ isRk k) (h : mkC M K k (binS 8 k b b')) : sp_X13_make [.ref 605, .int 8, .int k, .long w, .double x, .long w', .double x'] M K := by
  refine wX13_make hW (fun {G} hc => ⟨fun a => absurd a (by decide), fun _ => ⟨fun _ => ⟨fun r => ?_, fun r => ?_⟩, fun a => absurd a (by decide)⟩⟩)
  · have hr : ¬ isRk k := fun z => r ((isReal_P hk).mpr z)
    unfold binS at h
    rw [iT_f hr] at h
    rw [hv.w hr, hv'.w hr]
    exact ⟨fun a => absurd a (by decide), fun _ => ⟨fun a => absurd a (by decide), fun _ => ⟨fun a => absurd a (by decide), fun _ => ⟨fun a => absurd a (by decide), fun _ => ⟨fun a => absurd a (by decide), fun _ => ⟨fun a => absurd a (by decide), fun _ => ⟨fun a => absurd a (by decide), fun _ => ⟨fun _ => gv_W hW hk hr ((whoS_ok hk hr (o := 8) (by omega) hb hb' rfl).2 hr) (h.ok rfl), fun a => absurd rfl a⟩⟩⟩⟩⟩⟩⟩⟩
  · exact absurd ((isReal_P hk).mp r) h7
theorem c_make13_9 {k : Int32} {w w' b b' : Int64} {x x' : UInt64} {M : Mem} {K : RT} (hW : Wf M) (hk : isK k) (hb : okJ k b) (hb' : okJ k b') (hv : VR k w x b) (hv' : VR k w' x' b') (h7 : ¬ isRk k) (h : mkC M K k (binS 9 k b b')) : sp_X13_make [.ref 605, .int 9, .int k, .long w, .double x, .long w', .double x'] M K := by
  refine wX13_make hW (fun {G} hc => ⟨fun a => absurd a (by decide), fun _ => ⟨fun _ => ⟨fun r => ?_, fun r => ?_⟩, fun a => absurd a (by decide)⟩⟩)
  · have hr : ¬ isRk k := fun z => r ((isReal_P hk).mpr z)
    unfold binS at h
    rw [iT_f hr] at h
    rw [hv.w hr, hv'.w hr]
    exact ⟨fun a => absurd a (by decide), fun _ => ⟨fun a => absurd a (by decide), fun _ => ⟨fun a => absurd a (by decide), fun _ => ⟨fun a => absurd a (by decide), fun _ => ⟨fun a => absurd a (by decide), fun _ => ⟨fun a => absurd a (by decide), fun _ => ⟨fun a => absurd a (by decide), fun _ => ⟨fun a => absurd a (by decide), fun _ => ⟨fun _ => gv_W hW hk hr ((whoS_ok hk hr (o := 9) (by omega) hb hb' rfl).2 hr) (h.ok rfl), fun a => absurd rfl a⟩⟩⟩⟩⟩⟩⟩⟩⟩
  · exact absurd ((isReal_P hk).mp r) h7
theorem c_make13_10 {k : Int32} {w w' b b' : Int64} {x x' : UInt64} {M : Mem} {K : RT} (hW : Wf M) (hk : isK k) (hb : okJ k b) (hb' : okJ k b') (hv : VR k w x b) (hv' : VR k w' x' b') (h7 : ¬ isRk k) (h : mkC M K k (binS 10 k b b')) : sp_X13_make [.ref 605, .int 10, .int k, .long w, .double x, .long w', .double x'] M K := by
  refine wX13_make hW (fun {G} hc => ⟨fun a => absurd a (by decide), fun _ => ⟨fun _ => ⟨fun r => ?_, fun r => ?_⟩, fun a => absurd a (by decide)⟩⟩)
  · have hr : ¬ isRk k := fun z => r ((isReal_P hk).mpr z)
    unfold binS at h
    rw [iT_f hr] at h
    rw [hv.w hr, hv'.w hr]
    exact ⟨fun a => absurd a (by decide), fun _ => ⟨fun a => absurd a (by decide), fun _ => ⟨fun a => absurd a (by decide), fun _ => ⟨fun a => absurd a (by decide), fun _ => ⟨fun a => absurd a (by decide), fun _ => ⟨fun a => absurd a (by decide), fun _ => ⟨fun a => absurd a (by decide), fun _ => ⟨fun a => absurd a (by decide), fun _ => ⟨fun a => absurd a (by decide), fun _ => gv_W hW hk hr ((whoS_ok hk hr (o := 10) (by omega) hb hb' rfl).2 hr) (h.ok rfl)⟩⟩⟩⟩⟩⟩⟩⟩⟩
  · exact absurd ((isReal_P hk).mp r) h7
theorem c_make13 {o : Nat} {k : Int32} {w w' b b' : Int64} {x x' : UInt64} {M : Mem} {K : RT} (hW : Wf M) (hk : isK k) (hb : okJ k b) (hb' : okJ k b') (hv : VR k w x b) (hv' : VR k w' x' b') (ho : 1 ≤ o ∧ o ≤ 10) (h7 : isRk k → o ≤ 7) (h : mkC M K k (binS o k b b')) : sp_X13_make [.ref 605, .int (nI o), .int k, .long w, .double x, .long w', .double x'] M K := by
  have hcs : o = 1 ∨ o = 2 ∨ o = 3 ∨ o = 4 ∨ o = 5 ∨ o = 6 ∨ o = 7 ∨ o = 8 ∨ o = 9 ∨ o = 10 := by omega
  rcases hcs with rfl | rfl | rfl | rfl | rfl | rfl | rfl | rfl | rfl | rfl
  · exact c_make13_1 hW hk hb hb' hv hv' h
  · exact c_make13_2 hW hk hb hb' hv hv' h
  · exact c_make13_3 hW hk hb hb' hv hv' h
  · exact c_make13_4 hW hk hb hb' hv hv' h
  · exact c_make13_5 hW hk hb hb' hv hv' h
  · exact c_make13_6 hW hk hb hb' hv hv' h
  · exact c_make13_7 hW hk hb hb' hv hv' h
  · exact c_make13_8 hW hk hb hb' hv hv' (fun z => by have := h7 z; omega) h
  · exact c_make13_9 hW hk hb hb' hv hv' (fun z => by have := h7 z; omega) h
  · exact c_make13_10 hW hk hb hb' hv hv' (fun z => by have := h7 z; omega) h
end MAKE13
