section TRAIL
/-- where the run stands: data, PC, how many calls are open, where they lead back, STEPS, LANES DONE, ended -/
abbrev ES : Type := DS × Nat × Nat × (Nat → Nat) × Int64 × Int64 × Bool
def eD (x : ES) : DS := x.1
def ePc (x : ES) : Nat := x.2.1
def eK (x : ES) : Nat := x.2.2.1
def eCf (x : ES) : Nat → Nat := x.2.2.2.1
def eSt (x : ES) : Int64 := x.2.2.2.2.1
def eLn (x : ES) : Int64 := x.2.2.2.2.2.1
def eEn (x : ES) : Bool := x.2.2.2.2.2.2
/-- a step of the list: its place, its lanes done, what was ahead of it -/
abbrev TE : Type := Nat × Nat × ES
def slN (l k : Nat) : Nat := (l + 64 - k) % 64
/-- what a slot gives back -/
def TP (M : Mem) (s : Nat) (cur bef : DS) (tg : Nat × Nat) : Prop := ∃ sb qb sa qa e1, SvIs M (rR M 19 s) sb qb e1 ∧ SB sb qb cur e1 ∧ (sb ≠ 32 → sb = tg.1 ∧ qb = tg.2) ∧ SvIs M (rR M 18 s) sa qa bef ∧ SB sa qa e1 bef
/-- how two states that follow each other hang together -/
def StepR (cur bef : ES) (pl wr : Nat) : Prop := ePc bef = pl ∧ eEn bef = false ∧ eSt cur = eSt bef + 1 ∧ eLn cur = eLn bef + lN wr ∧ ∀ j, j + 1 < eK bef → j < eK cur ∧ eCf cur j = eCf bef j
def TrC (M : Mem) (tgf : Nat → Nat × Nat) (l : Nat) : Nat → ES → List TE → Prop
  | _, _, [] => True
  | k, cur, t :: rest => (gI M 11 (slN l k) = nI t.1 ∧ gI M 12 (slN l k) = nI t.2.1 ∧ gI M 13 (slN l k) = nI (eK t.2.2) ∧ (0 < eK t.2.2 → gI M 14 (slN l k) = nI (eCf t.2.2 (eK t.2.2 - 1))))
      ∧ StepR cur t.2.2 t.1 t.2.1 ∧ TP M (slN l k) (eD cur) (eD t.2.2) (tgf (ePc cur)) ∧ TrC M tgf l (k + 1) t.2.2 rest
/-- the saved things: next, ahead, behind -/
def svR (M : Mem) (u : Nat) : Nat := if u = 0 then rR M 10 5 else if u ≤ 64 then rR M 18 (u - 1) else rR M 19 (u - 65)
def SvD (M : Mem) : Prop := ∀ u v, u < 129 → v < 129 → svR M u = svR M v → u = v
def TrI (M : Mem) (l h : Nat) : Prop := l < 64 ∧ gI M 10 6 = nI l ∧ gI M 10 0 = nI h ∧ h ≤ 64 ∧ SvD M
theorem svR_0 {M : Mem} : svR M 0 = rR M 10 5 := rfl
theorem svR_a {M : Mem} {j : Nat} (h : j < 64) : svR M (1 + j) = rR M 18 j := by unfold svR; rw [if_neg (by omega), if_pos (by omega)]; congr 1; omega
theorem svR_b {M : Mem} {j : Nat} : svR M (65 + j) = rR M 19 j := by unfold svR; rw [if_neg (by omega), if_neg (by omega)]; congr 1; omega
theorem svR_6 {M : Mem} (hW : Wf M) {u : Nat} (h : u < 129) : (Sh (svR M u)).1 = 6 := by
  unfold svR
  split
  · exact Wf.mutS (M := M) hW (show mx 10 5 = some 6 from by decide)
  · split
    · exact Wf.mutS (M := M) hW (mx_ahead (by omega))
    · exact Wf.mutS (M := M) hW (mx_behind (by omega))
/-- different saved things are apart -/
theorem sv_apart {a b : Nat} (ha : (Sh a).1 = 6) (hb : (Sh b).1 = 6) (h : a ≠ b) : ∀ x, svS a x → ¬ svS b x := by
  have h1 := sv_at ha
  have h2 := sv_at hb
  intro x hx hy
  have := hx.1; have := hx.2; have := hy.1; have := hy.2
  omega
def tlS (b : Nat) : Prop := 10 ≤ b ∧ b ≤ 403
theorem TP.mo {S : Nat → Prop} {M M' : Mem} {s : Nat} {cur bef : DS} {tg : Nat × Nat} (h : Mo S M M') (hR : rR M' 19 s = rR M 19 s ∧ rR M' 18 s = rR M 18 s) (hS : ∀ b, S b → ¬ svS (rR M 19 s) b ∧ ¬ svS (rR M 18 s) b) (hv : TP M s cur bef tg) : TP M' s cur bef tg := by
  obtain ⟨sb, qb, sa, qa, e1, h1, h2, h3, h4, h5⟩ := hv
  refine ⟨sb, qb, sa, qa, e1, ?_, h2, h3, ?_, h5⟩
  · rw [hR.1]; exact h1.mo h (fun b hb => (hS b hb).1)
  · rw [hR.2]; exact h4.mo h (fun b hb => (hS b hb).2)
theorem sv_tl {M : Mem} (hW : Wf M) {s : Nat} (hs : s < 64) {b : Nat} (h : svS (rR M 19 s) b ∨ svS (rR M 18 s) b) : tlS b := by
  have h1 := sv_at (Wf.mutS (M := M) hW (mx_behind hs))
  have h2 := sv_at (Wf.mutS (M := M) hW (mx_ahead hs))
  rcases h with z | z
  · have := z.1; have := z.2; exact ⟨by omega, by omega⟩
  · have := z.1; have := z.2; exact ⟨by omega, by omega⟩
theorem slN_lt {l k : Nat} : slN l k < 64 := Nat.mod_lt _ (by decide)
theorem TrC.mo {S : Nat → Prop} {M M' : Mem} {tgf : Nat → Nat × Nat} {l : Nat} (hW : Wf M) (h : Mo S M M') (hS : ∀ b, S b → ¬ tlS b) : ∀ (tr : List TE) (k : Nat) (cur : ES), TrC M tgf l k cur tr → TrC M' tgf l k cur tr := by
  intro tr
  induction tr with
  | nil => intro k cur _; exact trivial
  | cons t rest ih =>
    intro k cur hc
    obtain ⟨⟨a1, a2, a3, a4⟩, a5, a6, a7⟩ := hc
    have nI : ∀ a j, 10 ≤ a → a ≤ 403 → gI M' a j = gI M a j := fun a j h1 h2 => h.I (fun z => hS _ z ⟨h1, h2⟩)
    have nR : ∀ a j, 10 ≤ a → a ≤ 403 → rR M' a j = rR M a j := fun a j h1 h2 => by unfold rR; rw [h.R (fun z => hS _ z ⟨h1, h2⟩)]
    refine ⟨⟨by rw [nI _ _ (by decide) (by decide)]; exact a1, by rw [nI _ _ (by decide) (by decide)]; exact a2, by rw [nI _ _ (by decide) (by decide)]; exact a3, fun z => by rw [nI _ _ (by decide) (by decide)]; exact a4 z⟩, a5, a6.mo h ⟨nR _ _ (by decide) (by decide), nR _ _ (by decide) (by decide)⟩ (fun b hb => ⟨fun z => hS b hb (sv_tl hW slN_lt (Or.inl z)), fun z => hS b hb (sv_tl hW slN_lt (Or.inr z))⟩), ih _ _ a7⟩
theorem TrI.mo {S : Nat → Prop} {M M' : Mem} {l n : Nat} (h : Mo S M M') (hS : ∀ b, S b → ¬ tlS b) (ht : TrI M l n) : TrI M' l n := by
  obtain ⟨a1, a2, a3, a4, a5⟩ := ht
  have nI : ∀ j, gI M' 10 j = gI M 10 j := fun j => h.I (fun z => hS _ z ⟨by decide, by decide⟩)
  have nR : ∀ a j, 10 ≤ a → a ≤ 403 → rR M' a j = rR M a j := fun a j h1 h2 => by unfold rR; rw [h.R (fun z => hS _ z ⟨h1, h2⟩)]
  have e : ∀ u, svR M' u = svR M u := fun u => by unfold svR; rw [nR _ _ (by decide) (by decide), nR _ _ (by decide) (by decide), nR _ _ (by decide) (by decide)]
  exact ⟨a1, by rw [nI]; exact a2, by rw [nI]; exact a3, a4, fun u v hu hv z => a5 u v hu hv (by rw [← e, ← e]; exact z)⟩
theorem SvD.swap {M M' : Mem} {p : Nat} (h : SvD M) (hp : 0 < p ∧ p < 129) (e : ∀ u, u < 129 → svR M' u = svR M (if u = 0 then p else if u = p then 0 else u)) : SvD M' := by
  intro u v hu hv z
  rw [e u hu, e v hv] at z
  have := h _ _ (by split <;> (try split) <;> omega) (by split <;> (try split) <;> omega) z
  split at this <;> split at this <;> (try split at this) <;> (try split at this) <;> omega
theorem slot_l {l : Nat} {k : Nat} (hl : l < 64) (hk : k < 64) : (nI l - nI k) &&& (63 : Int32) = nI (slN l k) := by
  have h : ∀ l ∈ List.range 64, ∀ k ∈ List.range 64, (nI l - nI k) &&& (63 : Int32) = nI (slN l k) := by decide +kernel
  exact h l (List.mem_range.mpr hl) k (List.mem_range.mpr hk)
theorem slot_n {l : Nat} (hl : l < 64) : (nI l - (-1 : Int32)) &&& (63 : Int32) = nI (slN (l + 1) 0) := by
  have h : ∀ l ∈ List.range 64, (nI l - (-1 : Int32)) &&& (63 : Int32) = nI (slN (l + 1) 0) := by decide +kernel
  exact h l (List.mem_range.mpr hl)
/-- the chain behind a new step -/
theorem TrC.push {M M' : Mem} {tgf : Nat → Nat × Nat} {l : Nat} (hl : l < 64) (hW : Wf M) (hD : SvD M) {s0 : Nat} (hs : s0 = slN (l + 1) 0) (hI : ∀ a j, 11 ≤ a → a ≤ 14 → j ≠ s0 → gI M' a j = gI M a j) (hR : ∀ j, j < 64 → j ≠ s0 → rR M' 18 j = rR M 18 j ∧ rR M' 19 j = rR M 19 j)
    (hm : Mo (fun b => b ≤ 14 ∨ b = 18 ∨ b = 19 ∨ svS (rR M 19 s0) b) M M') : ∀ (tr : List TE) (k : Nat) (cur : ES), k + tr.length ≤ 64 → TrC M tgf l k cur tr → TrC M' tgf s0 (k + 1) cur (tr.take (63 - k)) := by
  intro tr
  induction tr with
  | nil => intro k cur _ _; rw [List.take_nil]; exact trivial
  | cons t rest ih =>
    intro k cur hk hc
    obtain ⟨⟨a1, a2, a3, a4⟩, a5, a6, a7⟩ := hc
    rw [List.length_cons] at hk
    by_cases w : k = 63
    · subst w; exact trivial
    · obtain ⟨x, hx⟩ : ∃ x, 63 - k = x + 1 := ⟨62 - k, by omega⟩
      rw [hx, List.take_succ_cons]
      have hx2 : x = 63 - (k + 1) := by omega
      subst hx2
      have es : slN s0 (k + 1) = slN l k := by subst hs; unfold slN; omega
      have ne : slN l k ≠ s0 := by subst hs; unfold slN; omega
      have hlt := slN_lt (l := l) (k := k)
      refine ⟨?_, a5, ?_, ih (k + 1) _ (by omega) a7⟩
      · rw [es, hI _ _ (by decide) (by decide) ne, hI _ _ (by decide) (by decide) ne, hI _ _ (by decide) (by decide) ne, hI _ _ (by decide) (by decide) ne]
        exact ⟨a1, a2, a3, a4⟩
      · rw [es]
        have hs0 : s0 < 64 := by subst hs; exact slN_lt
        have b0 : (Sh (rR M 19 s0)).1 = 6 := Wf.mutS (M := M) hW (mx_behind hs0)
        have b1 : (Sh (rR M 19 (slN l k))).1 = 6 := Wf.mutS (M := M) hW (mx_behind hlt)
        have b2 : (Sh (rR M 18 (slN l k))).1 = 6 := Wf.mutS (M := M) hW (mx_ahead hlt)
        have n1 : rR M 19 s0 ≠ rR M 19 (slN l k) := fun z => by
          rw [← svR_b, ← svR_b] at z
          have := hD _ _ (by omega) (by omega) z
          omega
        have n2 : rR M 19 s0 ≠ rR M 18 (slN l k) := fun z => by
          rw [← svR_b, ← svR_a hlt] at z
          have := hD _ _ (by omega) (by omega) z
          omega
        have o1 := sv_at b1
        have o2 := sv_at b2
        refine a6.mo hm ⟨(hR _ hlt ne).2, (hR _ hlt ne).1⟩ (fun b hb => ⟨fun z => ?_, fun z => ?_⟩)
        · rcases hb with y | y | y | y
          · have := z.1; omega
          · have := z.1; have := z.2; omega
          · have := z.1; have := z.2; omega
          · exact sv_apart b0 b1 n1 b y z
        · rcases hb with y | y | y | y
          · have := z.1; omega
          · have := z.1; have := z.2; omega
          · have := z.1; have := z.2; omega
          · exact sv_apart b0 b2 n2 b y z
theorem SB.of32 {q s' q' : Nat} {d e : DS} (h : SB 32 q d e) : SB s' q' d e :=
  ⟨fun j hj _ _ => h.1 j hj (fun z => absurd z.1 (by decide)) (fun z => absurd z.1 (by decide)), fun m hm _ => h.2.1 m hm (fun z => absurd z.1 (by decide)), fun k hk _ => h.2.2 k hk (fun z => absurd z.1 (by decide))⟩
theorem uR_rR {M : Mem} {a k b j r : Nat} : rR (uR M a k (some r)) b j = if b = a ∧ j = k then r else rR M b j := by
  unfold rR
  rw [gR_uR]
  split <;> rfl
end TRAIL
