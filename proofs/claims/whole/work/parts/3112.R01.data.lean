section RDATA
theorem zand255 {x : Nat} (h : x < 2 ^ 32) : nI x &&& (255 : Int32) = nI (x % 256) := by
  apply Int32.toBitVec_inj.mp
  apply BitVec.eq_of_toNat_eq
  rw [Int32.toBitVec_and, BitVec.toNat_and]
  show (x % 2 ^ 32) &&& (2 ^ 8 - 1) = (x % 256) % 2 ^ 32
  rw [Nat.mod_eq_of_lt h, Nat.and_two_pow_sub_one_eq_mod]
  omega
/-- the reference's words and operands -/
def wdR : List Nat := [7562612, 6382692, 7566690, 7173484, 6580598, 7497069, 7170414, 7168376, 6385252, 28530, 7892850, 7563372, 7563378, 7697256, 7234919, 6382195, 1936814708, 25969, 28261, 27764, 27749, 26484, 26469, 7562604, 1667330932, 7561588, 113668262487410, 32478892538488178, 1819238756, 495874699877, 1718185068, 1768911969, 1885430635, 126926792778084, 1936225638, 7499636, 7497078, 8022384, 1936683636, 1935892846, 1751215206, 7566701, 465557353332, 1836020596, 6776180, 7370100, 1835101796, 7171954, 1836609394, 1835954036, 1836279156, 120273839156852, 120286623200116, 7171958, 1935762532, 1936946530, 1936553324, 1935960438, 1936876909, 6974832, 6972785, 6975077, 6974580, 6974565, 1819242352, 1667329132, 7497076, 6647396]
def opR : List Nat := [5655374, 5658198, 5658198, 5658198, 5658198, 5658198, 5658198, 5658198, 5658198, 5658198, 5658198, 5658195, 5658195, 5658195, 22102, 22102, 22102, 5068374, 5068374, 5068374, 5068374, 5068374, 5068374, 1447908950, 22102, 22102, 5652822, 5652822, 5652819, 5652819, 22099, 22099, 5655894, 5655894, 5658198, 5658195, 22102, 5658198, 22102, 22102, 22102, 21334, 21334, 21334, 5461582, 5656147, 5066061, 5066061, 5066061, 19789, 19790, 21325, 21325, 21326, 5460819, 5460819, 5460819, 5460819, 5460819, 76, 5460812, 5460812, 5460812, 5460812, 21324, 76, 0, 0]
def RK (M : Mem) : Prop := ∀ o, o < 68 → gL M 606 o = lN (wdR.getD o 0) ∧ gL M 607 o = lN (opR.getD o 0)
/-- a program of the reference: operations, operands, masks -/
def RPr (M : Mem) (a b m n : Nat) (c : Nat → Nat → Int64) : Prop := ∀ i, i < n → gI M a i = nI (cn (c i) 0) ∧ (∀ k, k < 4 → gL M b (4 * i + k) = c i (k + 1)) ∧ gI M m i = (c i 5).toInt32
/-- instruction i of the program -/
def RC (M : Mem) (n : Nat) (c : Nat → Nat → Int64) (i : Nat) : Prop := RK M ∧ RPr M 618 619 620 n c ∧ n ≤ 100 ∧ i < n ∧ VI n (c i)
def prS (a : Nat) : Prop := a = 606 ∨ a = 607 ∨ a = 618 ∨ a = 619 ∨ a = 620
theorem RK.fr {S : Nat → Nat → Prop} {M M' : Mem} (hf : FrC S M M') (hS : ∀ a j, S a j → ¬ prS a) (h : RK M) : RK M' := fun o ho => by
  have n : ∀ a j, prS a → ¬ S a j := fun a j p q => hS a j q p
  rw [hf.l (n 606 o (by unfold prS; omega)), hf.l (n 607 o (by unfold prS; omega))]
  exact h o ho
theorem RPr.fr {S : Nat → Nat → Prop} {M M' : Mem} {a b m n : Nat} {c : Nat → Nat → Int64} (hf : FrC S M M') (h1 : ∀ j, ¬ S a j) (h2 : ∀ j, ¬ S b j) (h3 : ∀ j, ¬ S m j) (h : RPr M a b m n c) : RPr M' a b m n c := fun i hi => by
  obtain ⟨a1, a2, a3⟩ := h i hi
  exact ⟨by rw [hf.i (h1 _)]; exact a1, fun k hk => by rw [hf.l (h2 _)]; exact a2 k hk, by rw [hf.i (h3 _)]; exact a3⟩
theorem RC.fr {S : Nat → Nat → Prop} {M M' : Mem} {n i : Nat} {c : Nat → Nat → Int64} (hf : FrC S M M') (hS : ∀ a j, S a j → ¬ prS a) (h : RC M n c i) : RC M' n c i := by
  have n : ∀ a j, prS a → ¬ S a j := fun a j p q => hS a j q p
  exact ⟨h.1.fr hf hS, h.2.1.fr hf (fun j => n _ j (by unfold prS; omega)) (fun j => n _ j (by unfold prS; omega)) (fun j => n _ j (by unfold prS; omega)), h.2.2⟩
section
variable {M M' : Mem} {K : RT} {n i : Nat} {c : Nat → Nat → Int64}
/-- an operand -/
theorem opOf {k v : Nat} (h : RC M n c i) (hk : k < 4) (hv : c i (k + 1) = lN v) : q_X13_operandOf (nI i) (nI k) M ∧ f_X13_operandOf (nI i) (nI k) M = nI v := by
  obtain ⟨-, h2, h3, h4, -⟩ := h
  unfold q_X13_operandOf f_X13_operandOf
  have e : (4 : Int32) * nI i + nI k = nI (4 * i + k) := by rw [show (4 : Int32) = nI 4 from rfl, pk_mul, nI_add]
  rw [e, nI_clamp (by omega), (h2 i h4).2.1 k hk, hv, lN_toI]
  exact ⟨vpN (by omega) (by decide), rfl⟩
theorem opI (h : RC M n c i) : vp_in (nI i) 100 ∧ gI M 618 (nI i).toNatClampNeg = nI (cn (c i) 0) ∧ cn (c i) 0 < 68 := by
  obtain ⟨-, h2, h3, h4, h5⟩ := h
  rw [nI_clamp (by omega)]
  exact ⟨vpN (by omega) (by decide), (h2 i h4).1, h5.o.1⟩
/-- how many operands, which letters -/
def mnR (o : Nat) : Nat := let v := opR.getD o 0; if v ≤ 16777215 then (if v ≤ 65535 then (if v ≤ 255 then (if v ≤ 0 then 0 else 1) else 2) else 3) else 4
def ltR (o k : Nat) : Nat := opR.getD o 0 / 2 ^ (8 * (mnR o - 1 - k)) % 256
theorem opR_lt : ∀ o ∈ List.range 68, opR.getD o 0 < 2 ^ 32 := by decide +kernel
theorem many_is {o : Nat} (h : RK M) (ho : o < 68) : q_X13_manyOf (nI o) M ∧ f_X13_manyOf (nI o) M = nI (mnR o) := by
  have hl := opR_lt o (List.mem_range.mpr ho)
  unfold q_X13_manyOf f_X13_manyOf
  rw [nI_clamp (by omega), (h o ho).2]
  refine ⟨vpN ho (by decide), ?_⟩
  rw [show (16777215 : Int64) = lN 16777215 from rfl, show (65535 : Int64) = lN 65535 from rfl, show (255 : Int64) = lN 255 from rfl, show (0 : Int64) = lN 0 from rfl]
  unfold mnR
  simp only [l6_le (show opR.getD o 0 < 2 ^ 63 by omega) (show 16777215 < 2 ^ 63 by decide), l6_le (show opR.getD o 0 < 2 ^ 63 by omega) (show 65535 < 2 ^ 63 by decide), l6_le (show opR.getD o 0 < 2 ^ 63 by omega) (show 255 < 2 ^ 63 by decide), l6_le (show opR.getD o 0 < 2 ^ 63 by omega) (show 0 < 2 ^ 63 by decide)]
  repeat' split
  all_goals first | rfl | omega
theorem mn_all : ∀ o ∈ List.range 68, mnR o = (opL o).length ∧ ∀ k ∈ List.range (opL o).length, (ltR o k = 86 ↔ (97 ≤ letN o k ∧ letN o k ≤ 122)) := by decide +kernel
theorem mn_is {o : Nat} (ho : o < 68) : mnR o = (opL o).length := (mn_all o (List.mem_range.mpr ho)).1
theorem letter_is {o k : Nat} (h : RK M) (ho : o < 68) (hk : k < (opL o).length) : q_X13_letter (nI o) (nI k) M ∧ f_X13_letter (nI o) (nI k) M = nI (ltR o k) := by
  obtain ⟨m1, m2⟩ := many_is h ho
  have hl := opR_lt o (List.mem_range.mpr ho)
  have hm := mn_is ho
  have h4 := opLen4 ho
  unfold q_X13_letter f_X13_letter
  rw [m2]
  have e : (8 : Int32) * (nI (mnR o) - (1 : Int32) - nI k) = nI (8 * (mnR o - 1 - k)) := by
    rw [show (1 : Int32) = nI 1 from rfl, pk_sub (by omega), pk_sub (by omega), show (8 : Int32) = nI 8 from rfl, pk_mul]
  rw [e, nI_clamp (by omega), (h o ho).2, ssh (by omega) (by omega), lN_toI]
  refine ⟨⟨vpN ho (by decide), m1⟩, ?_⟩
  unfold ltR
  have hd := Nat.div_le_self (opR.getD o 0) (2 ^ (8 * (mnR o - 1 - k)))
  generalize opR.getD o 0 / 2 ^ (8 * (mnR o - 1 - k)) = x at *
  exact zand255 (by omega)
def rgF (o k : Nat) : Nat → Nat → Nat → Option Nat
  | 0, _, _ => none
  | f + 1, j, had => if ltR o j = 86 then (if had = k then some j else rgF o k f (j + 1) (had + 1)) else rgF o k f (j + 1) had
theorem rg_all : ∀ o ∈ List.range 68, ∀ k ∈ List.range 3, rgF o k (mnR o) 0 0 = (if o < 46 ∧ k < cntR o 4 then some (posR o k) else none) := by decide +kernel
/-- register k of an instruction, -1: none -/
def regI (o : Nat) (c : Nat → Int64) (k : Nat) : Int32 := if o < 46 ∧ k < cntR o 4 then nI (rgN o c k) else -1
theorem c_regOf {k : Nat} (hW : Wf M) (hC : RC M n c i) (hk : k < 3) (h : K (some (.int (regI (cn (c i) 0) (c i) k))) M) : sp_X13_registerOf [.ref 605, .int (nI i), .int (nI k)] M K := by
  obtain ⟨o1, o2, o3⟩ := opI hC
  have hm := mn_is o3
  have h4 := opLen4 o3
  refine wX13_registerOf hW (fun {G} hc => ?_)
  rw [o2]
  obtain ⟨m1, m2⟩ := many_is hC.1 o3
  refine ⟨o1, m1, fun y1 hy1 => ?_⟩
  rw [hy1, m2]
  have key : ∀ f j had : Nat, j + f = mnR (cn (c i) 0) → had ≤ j → (∀ x, (match rgF (cn (c i) 0) k f j had with | none => x = (-1 : Int32) | some p => p < mnR (cn (c i) 0) ∧ q_X13_operandOf (nI i) (nI p) M ∧ x = f_X13_operandOf (nI i) (nI p) M) → K (some (.int x)) M) → (∀ p, rgF (cn (c i) 0) k f j had = some p → q_X13_operandOf (nI i) (nI p) M) → G 17 [some (.ref 605), some (.int (nI i)), some (.int (nI k)), some (.int (nI (mnR (cn (c i) 0)))), some (.int (nI had)), some (.int (nI j))] [] M := by
    intro f
    induction f with
    | zero =>
      intro j had hj hh hK hq
      refine eX13_registerOf_17 hc hW ⟨fun _ => hK _ rfl, fun z => absurd (nI_le (by omega) (by omega)) z⟩
    | succ f ih =>
      intro j had hj hh hK hq
      obtain ⟨l1, l2⟩ := letter_is (k := j) hC.1 o3 (by omega)
      have lt : ltR (cn (c i) 0) j < 256 := Nat.mod_lt _ (by decide)
      refine eX13_registerOf_17 hc hW ⟨fun z => absurd ((nI_leI (by omega) (by omega)).mp z) (by omega), fun _ => ?_⟩
      rw [o2, l2, show (86 : Int32) = nI 86 from rfl, nI_eq (by omega) (by decide), nI_eq (by omega) (by omega), nI_1, nI_1]
      unfold rgF at hK hq
      refine ⟨o1, l1, fun a => ?_, fun a => ⟨fun b => ?_, fun b => ?_⟩⟩
      · rw [if_neg a] at hK hq
        exact ih (j + 1) had (by omega) (by omega) hK hq
      · rw [if_pos a, if_neg b] at hK hq
        exact ih (j + 1) (had + 1) (by omega) (by omega) hK hq
      · rw [if_pos a, if_pos b] at hK hq
        have := hq j rfl
        exact ⟨this, hK _ ⟨by omega, this, rfl⟩⟩
  have tb := rg_all _ (List.mem_range.mpr o3) k (List.mem_range.mpr hk)
  have hp : cn (c i) 0 < 46 ∧ k < cntR (cn (c i) 0) 4 → q_X13_operandOf (nI i) (nI (posR (cn (c i) 0) k)) M ∧ f_X13_operandOf (nI i) (nI (posR (cn (c i) 0) k)) M = nI (rgN (cn (c i) 0) (c i) k) := by
    intro hh
    obtain ⟨p1, -, -, -, -, -⟩ := pos_all _ (List.mem_range.mpr hh.1)
    obtain ⟨b1, b2, b3⟩ := p1 k (List.mem_range.mpr hk) hh.2
    obtain ⟨r1, r2⟩ := hC.2.2.2.2.rl b1 b2
    exact opOf hC (by omega) r2
  refine key (mnR (cn (c i) 0)) 0 0 (Nat.zero_add _) (Nat.le_refl _) ?_ ?_
  · intro x hx
    rw [tb] at hx
    unfold regI at h
    by_cases hh : cn (c i) 0 < 46 ∧ k < cntR (cn (c i) 0) 4
    · rw [if_pos hh] at hx h
      obtain ⟨-, -, e⟩ := hx
      rw [e, (hp hh).2]
      exact h
    · rw [if_neg hh] at hx h
      have hx : x = -1 := hx
      rw [hx]
      exact h
  · intro p hx
    rw [tb] at hx
    by_cases hh : cn (c i) 0 < 46 ∧ k < cntR (cn (c i) 0) 4
    · rw [if_pos hh] at hx
      obtain rfl := Option.some.inj hx
      exact (hp hh).1
    · rw [if_neg hh] at hx
      cases hx
end
end RDATA
