section MEM1
/-- only objects of S are written -/
def Mo (S : Nat → Prop) (M M' : Mem) : Prop := M'.1 = M.1 ∧ ∀ a, ¬ S a → gI M' a = gI M a ∧ gL M' a = gL M a ∧ gD M' a = gD M a ∧ gR M' a = gR M a
theorem Mo.rf {S : Nat → Prop} {M : Mem} : Mo S M M := ⟨rfl, fun _ _ => ⟨rfl, rfl, rfl, rfl⟩⟩
theorem Mo.tr {S : Nat → Prop} {M M' M'' : Mem} (h : Mo S M M') (h' : Mo S M' M'') : Mo S M M'' := ⟨h'.1.trans h.1, fun a ha => by
  obtain ⟨a1, a2, a3, a4⟩ := h.2 a ha
  obtain ⟨b1, b2, b3, b4⟩ := h'.2 a ha
  exact ⟨b1.trans a1, b2.trans a2, b3.trans a3, b4.trans a4⟩⟩
theorem Mo.mono {S S' : Nat → Prop} {M M' : Mem} (h : Mo S M M') (hs : ∀ a, S a → S' a) : Mo S' M M' := ⟨h.1, fun a ha => h.2 a (fun q => ha (hs a q))⟩
theorem Mo.I {S : Nat → Prop} {M M' : Mem} (h : Mo S M M') {a k : Nat} (ha : ¬ S a) : gI M' a k = gI M a k := by rw [(h.2 a ha).1]
theorem Mo.L {S : Nat → Prop} {M M' : Mem} (h : Mo S M M') {a k : Nat} (ha : ¬ S a) : gL M' a k = gL M a k := by rw [(h.2 a ha).2.1]
theorem Mo.D {S : Nat → Prop} {M M' : Mem} (h : Mo S M M') {a k : Nat} (ha : ¬ S a) : gD M' a k = gD M a k := by rw [(h.2 a ha).2.2.1]
theorem Mo.R {S : Nat → Prop} {M M' : Mem} (h : Mo S M M') {a k : Nat} (ha : ¬ S a) : gR M' a k = gR M a k := by rw [(h.2 a ha).2.2.2]
theorem up2_other {α : Type} {f : Nat → Nat → α} {a k b : Nat} {x : α} (h : b ≠ a) : up2 f a k x b = f b := up2_ne h
theorem Mo_uI {S : Nat → Prop} {M : Mem} {a k : Nat} {x : Int32} (h : S a) : Mo S M (uI M a k x) := ⟨rfl, fun b hb => ⟨up2_ne (fun q => hb (q ▸ h)), rfl, rfl, rfl⟩⟩
theorem Mo_uL {S : Nat → Prop} {M : Mem} {a k : Nat} {x : Int64} (h : S a) : Mo S M (uL M a k x) := ⟨rfl, fun b hb => ⟨rfl, up2_ne (fun q => hb (q ▸ h)), rfl, rfl⟩⟩
theorem Mo_uD {S : Nat → Prop} {M : Mem} {a k : Nat} {x : UInt64} (h : S a) : Mo S M (uD M a k x) := ⟨rfl, fun b hb => ⟨rfl, rfl, up2_ne (fun q => hb (q ▸ h)), rfl⟩⟩
theorem Mo_uR {S : Nat → Prop} {M : Mem} {a k : Nat} {x : Option Nat} (h : S a) : Mo S M (uR M a k x) := ⟨rfl, fun b hb => ⟨rfl, rfl, rfl, up2_ne (fun q => hb (q ▸ h))⟩⟩
theorem Mo_bI {S : Nat → Prop} {M : Mem} {a : Nat} {x : Nat → Int32} (h : S a) : Mo S M (bI M a x) := ⟨rfl, fun b hb => ⟨rw2_ne (fun q => hb (q ▸ h)), rfl, rfl, rfl⟩⟩
theorem Mo_bL {S : Nat → Prop} {M : Mem} {a : Nat} {x : Nat → Int64} (h : S a) : Mo S M (bL M a x) := ⟨rfl, fun b hb => ⟨rfl, rw2_ne (fun q => hb (q ▸ h)), rfl, rfl⟩⟩
theorem Wf_uI {M : Mem} {a k : Nat} {x : Int32} (h : Wf M) : Wf (uI M a k x) := h
theorem Wf_uL {M : Mem} {a k : Nat} {x : Int64} (h : Wf M) : Wf (uL M a k x) := h
theorem Wf_uD {M : Mem} {a k : Nat} {x : UInt64} (h : Wf M) : Wf (uD M a k x) := h
theorem Wf_bI {M : Mem} {a : Nat} {x : Nat → Int32} (h : Wf M) : Wf (bI M a x) := h
theorem Wf_bL {M : Mem} {a : Nat} {x : Nat → Int64} (h : Wf M) : Wf (bL M a x) := h
/-- references are as they were -/
theorem Wf.mo {M M' : Mem} (h : Wf M) (h1 : M'.1 = M.1) (h2 : gR M' = gR M) : Wf M' := ⟨h1.trans h.1, by rw [h2]; exact h.2.1, by rw [h2]; exact h.2.2⟩
/-- a run of writes is one -/
theorem bL_uL {M : Mem} {a k : Nat} {f : Nat → Int64} {x : Int64} : uL (bL M a f) a k x = bL M a (fun j => if j = k then x else f j) := by
  have e : up2 (rw2 M.2.2.1 a f) a k x = rw2 M.2.2.1 a (fun j => if j = k then x else f j) := by
    funext b j
    unfold up2 rw2
    by_cases h : b = a
    · by_cases q : j = k
      · simp [h, q]
      · simp [h, q]
    · simp [h]
  show (M.1, M.2.1, up2 (rw2 M.2.2.1 a f) a k x, M.2.2.2.1, M.2.2.2.2) = _
  rw [e]
  rfl
theorem bI_uI {M : Mem} {a k : Nat} {f : Nat → Int32} {x : Int32} : uI (bI M a f) a k x = bI M a (fun j => if j = k then x else f j) := by
  have e : up2 (rw2 M.2.1 a f) a k x = rw2 M.2.1 a (fun j => if j = k then x else f j) := by
    funext b j
    unfold up2 rw2
    by_cases h : b = a
    · by_cases q : j = k
      · simp [h, q]
      · simp [h, q]
    · simp [h]
  show (M.1, up2 (rw2 M.2.1 a f) a k x, M.2.2.1, M.2.2.2.1, M.2.2.2.2) = _
  rw [e]
  rfl
theorem bL_id {M : Mem} {a : Nat} {f : Nat → Int64} (h : ∀ j, f j = gL M a j) : bL M a f = M := by
  have : rw2 M.2.2.1 a f = M.2.2.1 := by
    funext b j
    unfold rw2
    by_cases q : b = a
    · rw [if_pos q, h, q]; rfl
    · rw [if_neg q]
  show (M.1, M.2.1, rw2 M.2.2.1 a f, M.2.2.2.1, M.2.2.2.2) = M
  rw [this]
theorem bI_id {M : Mem} {a : Nat} {f : Nat → Int32} (h : ∀ j, f j = gI M a j) : bI M a f = M := by
  have : rw2 M.2.1 a f = M.2.1 := by
    funext b j
    unfold rw2
    by_cases q : b = a
    · rw [if_pos q, h, q]; rfl
    · rw [if_neg q]
  show (M.1, rw2 M.2.1 a f, M.2.2.1, M.2.2.2.1, M.2.2.2.2) = M
  rw [this]
theorem vpN {n N : Nat} (h : n < N) (hN : N < 2 ^ 31) : vp_in (nI n) N := nI_in h hN
/-- a row (a register or an array) -/
def RowIs (M : Mem) (a : Nat) (k : Int32) (n : Nat) (f : Nat → Int64) : Prop := gI M a 0 = k ∧ gI M a 1 = nI n ∧ n ≤ 64 ∧ ∀ i, i < n → gL M (a + 1) i = f i
theorem RowIs.mo {S : Nat → Prop} {M M' : Mem} (h : Mo S M M') {a n : Nat} {k : Int32} {f : Nat → Int64} (h1 : ¬ S a) (h2 : ¬ S (a + 1)) (hr : RowIs M a k n f) : RowIs M' a k n f :=
  ⟨(h.I h1).trans hr.1, (h.I h1).trans hr.2.1, hr.2.2.1, fun i hi => (h.L h2).trans (hr.2.2.2 i hi)⟩
end MEM1
