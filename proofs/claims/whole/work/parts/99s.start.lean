section START
def M00 : Mem := ((0, true), fun _ _ => 0, fun _ _ => 0, fun _ _ => 0, fun _ _ => none)
theorem start_of (pure : ∀ (b L9 : Nat) (xs : Nat → Int32), L9 ≤ 3072 → ∀ G, cloL_law G b L9 xs → G 0 0 (lini 8 [.ref (200000 + b)]) [] M00)
    {p : Program} {e : Env} {s : State} {m : MethodId} {below : List Frame} {meth : Method} {c : Code} (l : Launch) (hflags : l.flags = flags0) {b L : Nat} {xs : Nat → Int32} (hL : L ≤ 3072) (C0 : lw_At p s m meth c b L xs) : W p l e room_1 s m #[Value.ref b] below meth c s.heap [] 0 0 (lw_Z below #[Value.ref b] s) (entryFrame m ([Value.ref b] : List Value).toArray 8) := by
  obtain ⟨hexec, hcode, hty, hml, hown, hts, hX, hbl, hlk, hgv⟩ := C0
  obtain ⟨w, hw, hOk⟩ := world hts hgv
  have hl9 : l.stackTraces = false := by unfold Launch.stackTraces; rw [hflags]; rfl
  have hbA : ¬ Aw w b := by
    show ¬ (wS w).heap.size ≤ b
    rw [hw]
    exact Nat.not_le.mpr hbl
  have hE : EnvW w s := ⟨by rw [hw]; exact State.WarmedH.refl s, by show (wS w).heap.size ≤ _; rw [hw]; exact Nat.le_refl _, fun q _ => by rw [hw]⟩
  have hCx : Cx p s m #[Value.ref b] c w cL_law RL 8 := ⟨hexec, hcode, hml, hown, fun x hx => hts x (List.mem_filter.mp hx).1, by have := hOk.1; rw [hw] at this; exact this, hE, hOk⟩
  have hG := pure b L xs hL _ (soL_law (e := e) (below := below) hCx law_Cr hl9 hw hX hbl hbA hty hlk)
  have hlen : (lent [Value.ref (200000 + b)]).length ≤ 8 := Nat.le_of_ble_eq_true rfl
  have hLoc := LocR.entry (w := w) hlen
  rw [show [Value.ref (200000 + b)].map (tr w) = [Value.ref b] from congrArg (fun z => [Value.ref z]) (ad_raw w b)] at hLoc
  have hR : Rl w M00 s.heap := ⟨fun k q h => by simp [cells, gN, M00] at h, Nat.zero_le _, fun h => by cases h⟩
  have hg := hG _ s.heap [] hLoc hR va_S.rf ⟨Nat.le_refl _, fun _ => by show s.heap.size = (wS w).heap.size + 0; rw [hw, Nat.add_zero], Nat.zero_le _, fun _ => rfl⟩
  rw [lg_entry_eq]
  exact hg
end START
