section LAW6
theorem nI_short : ∀ n ∈ List.range 6, (nI n - 6).toInt < 0 := by decide +kernel
theorem nI_m6 (m : Nat) : nI (m + 6) - 6 = nI m := by
  rw [← nI_add]
  exact Int32.add_sub_cancel (nI m) 6
theorem nI_end {n p : Nat} (hn : n ≤ 3072) (hp : p ≤ 4000) : nI n - 6 < nI p ↔ n < p + 6 := by
  rcases Nat.lt_or_ge n 6 with h | h
  · refine ⟨fun _ => by omega, fun _ => ?_⟩
    rw [Int32.lt_iff_toInt_lt, nI_toInt (n := p) (by omega)]
    have := nI_short n (List.mem_range.mpr h)
    omega
  · obtain ⟨m, rfl⟩ : ∃ m, n = m + 6 := ⟨n - 6, by omega⟩
    rw [nI_m6, nI_ltI (by omega) (by omega)]
    omega
section
variable {G : Nat → Nat → KT} {b L9 : Nat} {xs : Nat → Int32}
theorem loop9 (hc : cloL_law G b L9 xs) (hL : L9 ≤ 3072) : ∀ (f q x : Nat) (M : Mem) (s : SG) (o5 o6 o7 : Option Value), L9 < 6 * q + 6 * f → 6 * q ≤ L9 → x ≤ q → Wf M → CI FlM M s → RI FlR M s → G x 23 [some (.ref (200000 + b)), some (.ref 0), some (.ref 605), some (.ref 650), some (.int (nI (6 * q))), o5, o6, o7] [] M := by
  intro f
  induction f with
  | zero => intro q x M s o5 o6 o7 h1 h2; omega
  | succ f ih =>
    intro q x M s o5 o6 o7 h1 h2 h3 hW hC hI
    have hx : x ≤ 3072 := by omega
    refine (hc.2 x hx).2.1 _ _ _ (i_iload rfl (i_aload rfl ⟨rfl, i_ic (i_isub (i_icmp_gt (fun _ => (hc.2 x hx).2.2.2.2.2.2.2.2.2.2.2.2.2.2.2.2.2.2.2.2.2.2.2.2.2.2.2.2.2.2.2.2.2.2.2.2.2.2.2.2.2.2.2.2.2.2.2.2.2.2.2.2.2.2.2.2.2.2.2.2.2.2.2.2.2.2.2.2.2.2.2.2.2.2.2.2.2.2.2.2.2.2.2.2.2.2.2.2.2.2.2.2.2.2 _ _ _ (i_ic ⟨by omega, rfl⟩)) (fun z => ?_)))⟩))
    have hp : 6 * q + 6 ≤ L9 := Nat.le_of_not_lt (fun y => z ((nI_end hL (by omega)).mpr y))
    have hx1 : x + 1 ≤ 3072 := by omega
    have nx : Nx G b x (6 * q) := by
      intro x' M' s' o5 o6 o7 h4 hW' hC' hI'
      have hx' : x' ≤ 3072 := by omega
      exact (hc.2 x' hx').2.2.2.2.2.2.2.2.2.2.2.2.2.2.2.2.2.2.2.2.2.2.2.2.2.2.2.2.2.2.2.2.2.2.2.2.2.2.2.2.2.2.2.2.2.2.2.2.2.2.2.2.2.2.2.2.2.2.2.2.2.2.2.2.2.2.2.2.2.2.2.2.2.2.2.2.2.2.2.2.2.2.2.2.2.2.2.2.2.2.2.2.2.1 _ _ _ (i_iincE rfl (show nI (6 * q) + 6 = nI (6 * (q + 1)) from nI_add (6 * q) 6) (ih (q + 1) x' M' s' o5 o6 o7 (by omega) (by omega) (by omega) hW' hC' hI'))
    refine (hc.2 x hx).2.2.1 _ _ _ (i_aload rfl (i_iload rfl ⟨rfl, vpN (show 6 * q < L9 by omega) (by omega), i_ic (i_iand ?_)⟩))
    exact ⟨fun _ => op_168 hc hx hx1 hL hp hW hC hI nx, fun _ => ⟨fun _ => op_241 hc hx hx1 hL hp hW hC hI nx, fun _ => ⟨fun _ => op_266 hc hx hx1 hL hp hW hC hI nx, fun _ => ⟨fun _ => op_333 hc hx hx1 hL hp hW hC hI nx, fun _ => ⟨fun _ => op_346 hc hx hx1 hL hp hW hC hI nx, fun _ => ⟨fun _ => op_383 hc hx hx1 hL hp hW hC hI nx, fun _ => ⟨fun _ => op_396 hc hx hx1 hL hp hW hC hI nx, fun _ => ⟨fun _ => op_409 hc hx hx1 hL hp hW hC hI nx, fun _ => ⟨fun _ => op_420 hc hx hx1 hL hp hW hC hI nx, fun _ => ⟨fun _ => op_476 hc hx hx1 hL hp hW hC hI nx, fun _ => ⟨fun _ => op_489 hc hx hx1 hL hp hW hC hI nx, fun _ => ⟨fun _ => op_514 hc hx hx1 hL hp hW hC hI nx, fun _ => ⟨fun _ => op_551 hc hx hx1 hL hp hW hC hI nx, fun _ => ⟨fun _ => op_576 hc hx hx1 hL hp hW hC hI nx, fun _ => ⟨fun _ => op_613 hc hx hx1 hL hp hW hC hI nx, fun _ => ⟨fun _ => op_694 hc hx hx1 hL hp hW hC hI nx, fun _ => ⟨fun _ => op_761 hc hx hx1 hL hp hW hC hI nx, fun _ => ⟨fun _ => op_798 hc hx hx1 hL hp hW hC hI nx, fun _ => ⟨fun _ => op_867 hc hx hx1 hL hp hW hC hI nx, fun _ => ⟨fun _ => op_922 hc hx hx1 hL hp hW hC hI nx, fun _ => ⟨fun _ => op_959 hc hx hx1 hL hp hW hC hI nx, fun _ => ⟨fun _ => op_1026 hc hx hx1 hL hp hW hC hI nx, fun _ => ⟨fun _ => op_1051 hc hx hx1 hL hp hW hC hI nx, fun _ => ⟨fun _ => op_1104 hc hx hx1 hL hp hW hC hI nx, fun _ => ⟨fun _ => op_1169 hc hx hx1 hL hp hW hC hI nx, fun _ => ⟨fun _ => op_1206 hc hx hx1 hL hp hW hC hI nx, fun _ => ⟨fun _ => op_1231 hc hx hx1 hL hp hW hC hI nx, fun _ => ⟨fun _ => op_1268 hc hx hx1 hL hp hW hC hI nx, fun _ => nx x M s o5 o6 o7 (by omega) hW hC hI⟩⟩⟩⟩⟩⟩⟩⟩⟩⟩⟩⟩⟩⟩⟩⟩⟩⟩⟩⟩⟩⟩⟩⟩⟩⟩⟩⟩
end
/-- the law's run -/
theorem pure9 (b L9 : Nat) (xs : Nat → Int32) (hL : L9 ≤ 3072) (G : Nat → Nat → KT) (hc : cloL_law G b L9 xs) : G 0 0 (lini 8 [.ref (200000 + b)]) [] M00 :=
  pure_start hc (fun M hW hC hI => loop9 hc hL 513 0 0 M s0 none none none (by omega) (Nat.zero_le _) (Nat.le_refl _) hW hC hI)
end LAW6
