section CLS
theorem cl_in {C : String} {T : u_T} {N : Nat} (ps : List Nat) (h : ∀ k, k < N → lw_tbl[ps.getD k 0]? = some (u_lay C T k)) (hg : ∀ k, k < N → goodWord (u_lay C T k) = true) : ∀ x ∈ u_ws C T N, x ∈ lw_ok := by
  intro x hx
  obtain ⟨k, hk, rfl⟩ := List.mem_map.mp hx
  have hk := List.mem_range.mp hk
  exact lw_in _ (h k hk) (hg k hk)
theorem cl_0 : ∀ x ∈ u_ws RX1 TX1 4, x ∈ lw_ok := cl_in [503, 505, 507, 509] (by decide +kernel) (by decide +kernel)
theorem cl_1 : ∀ x ∈ u_ws RX2 TX2 14, x ∈ lw_ok := cl_in [402, 404, 406, 408, 410, 412, 414, 416, 418, 420, 422, 424, 426, 428] (by decide +kernel) (by decide +kernel)
theorem cl_2 : ∀ x ∈ u_ws RX5 TX5 16, x ∈ lw_ok := cl_in [458, 460, 462, 464, 466, 468, 470, 472, 474, 476, 478, 480, 482, 484, 486, 488] (by decide +kernel) (by decide +kernel)
theorem cl_3 : ∀ x ∈ u_ws RX6 TX6 3, x ∈ lw_ok := cl_in [199, 201, 203] (by decide +kernel) (by decide +kernel)
theorem cl_4 : ∀ x ∈ u_ws RX7 TX7 11, x ∈ lw_ok := cl_in [220, 222, 224, 226, 228, 230, 232, 234, 236, 238, 240] (by decide +kernel) (by decide +kernel)
theorem cl_5 : ∀ x ∈ u_ws RX8 TX8 3, x ∈ lw_ok := cl_in [283, 285, 287] (by decide +kernel) (by decide +kernel)
theorem cl_6 : ∀ x ∈ u_ws RX9 TX9 4, x ∈ lw_ok := cl_in [294, 296, 298, 300] (by decide +kernel) (by decide +kernel)
theorem cl_7 : ∀ x ∈ u_ws RX10 TX10 4, x ∈ lw_ok := cl_in [374, 376, 378, 380] (by decide +kernel) (by decide +kernel)
theorem cl_8 : ∀ x ∈ u_ws RX11 TX11 9, x ∈ lw_ok := cl_in [322, 324, 326, 328, 330, 332, 334, 336, 338] (by decide +kernel) (by decide +kernel)
theorem cl_9 : ∀ x ∈ u_ws RX12 TX12 11, x ∈ lw_ok := cl_in [527, 529, 531, 533, 535, 537, 539, 541, 543, 545, 547] (by decide +kernel) (by decide +kernel)
theorem cl_10 : ∀ x ∈ u_ws RX13 TX13 76, x ∈ lw_ok := cl_in [2003, 2005, 2007, 2009, 2011, 2013, 2015, 2017, 2019, 2021, 2023, 2025, 2027, 2029, 2031, 2033, 2035, 2037, 2039, 2041, 2043, 2045, 2047, 2049, 2051, 2053, 2055, 2057, 2059, 2061, 2063, 2065, 2067, 2069, 2071, 2073, 2075, 2077, 2079, 2081, 2083, 2085, 2087, 2089, 2091, 2093, 2095, 2097, 2099, 2101, 2103, 2105, 2107, 2109, 2111, 2113, 2115, 2117, 2119, 2121, 2123, 2125, 2127, 2129, 2131, 2133, 2135, 2137, 2139, 2141, 2143, 2145, 2147, 2149, 2151, 2153] (by decide +kernel) (by decide +kernel)
def tyF (c : Nat) : Nat → FieldType := match c with
  | 0 => tyX1
  | 1 => tyX2
  | 2 => tyX5
  | 3 => tyX6
  | 4 => tyX7
  | 5 => tyX8
  | 6 => tyX9
  | 7 => tyX10
  | 8 => tyX11
  | 9 => tyX12
  | 10 => tyX13
  | _ => fun _ => .int
theorem cl_all {c : Nat} (hc : c ≤ 10) : ∃ (C : String) (T : u_T) (N : Nat), vwCl[c + 3]? = some (C, T, N) ∧ (∀ x ∈ u_ws C T N, x ∈ lw_ok) ∧ (∀ k, k < N → parseFieldDescriptor (T k).2.2.1 = some (tyF c k)) ∧ (∀ a, a < N → ∀ b, b < N → a ≠ b → (T a).2.1 ≠ (T b).2.1) ∧ N = (fT c).length := by
  match c, hc with
  | 0, _ => exact ⟨RX1, TX1, 4, rfl, cl_0, tyX1_ok, nmX1, rfl⟩
  | 1, _ => exact ⟨RX2, TX2, 14, rfl, cl_1, tyX2_ok, nmX2, rfl⟩
  | 2, _ => exact ⟨RX5, TX5, 16, rfl, cl_2, tyX5_ok, nmX5, rfl⟩
  | 3, _ => exact ⟨RX6, TX6, 3, rfl, cl_3, tyX6_ok, nmX6, rfl⟩
  | 4, _ => exact ⟨RX7, TX7, 11, rfl, cl_4, tyX7_ok, nmX7, rfl⟩
  | 5, _ => exact ⟨RX8, TX8, 3, rfl, cl_5, tyX8_ok, nmX8, rfl⟩
  | 6, _ => exact ⟨RX9, TX9, 4, rfl, cl_6, tyX9_ok, nmX9, rfl⟩
  | 7, _ => exact ⟨RX10, TX10, 4, rfl, cl_7, tyX10_ok, nmX10, rfl⟩
  | 8, _ => exact ⟨RX11, TX11, 9, rfl, cl_8, tyX11_ok, nmX11, rfl⟩
  | 9, _ => exact ⟨RX12, TX12, 11, rfl, cl_9, tyX12_ok, nmX12, rfl⟩
  | 10, _ => exact ⟨RX13, TX13, 76, rfl, cl_10, tyX13_ok, nmX13, rfl⟩
  | n + 11, h => exact absurd h (by omega)
end CLS
