/-! The small machine over the real one. -/
def z_W : List Cond := lw_tbl.filter goodWord
theorem z_W_good : ∀ w ∈ z_W, goodWord w = true := fun _ h => (List.mem_filter.mp h).2
theorem z_W_tbl : ∀ w ∈ z_W, w ∈ lw_tbl := fun _ h => (List.mem_filter.mp h).1
theorem z_at {w : Cond} (i : Nat) (h : lw_tbl[i]? = some w) (hg : goodWord w = true) : w ∈ z_W := List.mem_filter.mpr ⟨List.mem_of_getElem? h, hg⟩
theorem z_in {ws : List Cond} (ps : List Nat) (hp : ws = ps.filterMap (fun i => lw_tbl[i]?)) (hg : ws.all goodWord = true) : ∀ w ∈ ws, w ∈ z_W := by
  intro w h
  have h1 := List.all_eq_true.mp hg w h
  rw [hp] at h
  obtain ⟨i, -, hi⟩ := List.mem_filterMap.mp h
  exact z_at i hi h1
def z_C (k : Nat) : vw_C := (vwCl[k]?).getD (RX0, TX0, 5)

set_option maxRecDepth 100000 in
theorem z_wd_X0 : ∀ w ∈ u_ws RX0 TX0 5, w ∈ z_W := z_in [431, 433, 435, 437, 439] (by decide +kernel) (by decide +kernel)
set_option maxRecDepth 100000 in
theorem z_wd_X1 : ∀ w ∈ u_ws RX1 TX1 6, w ∈ z_W := z_in [404, 406, 408, 410, 412, 414] (by decide +kernel) (by decide +kernel)
set_option maxRecDepth 100000 in
theorem z_wd_X2 : ∀ w ∈ u_ws RX2 TX2 6, w ∈ z_W := z_in [255, 257, 259, 261, 263, 265] (by decide +kernel) (by decide +kernel)
set_option maxRecDepth 100000 in
theorem z_wd_X3 : ∀ w ∈ u_ws RX3 TX3 10, w ∈ z_W := z_in [297, 299, 301, 303, 305, 307, 309, 311, 313, 315] (by decide +kernel) (by decide +kernel)
set_option maxRecDepth 100000 in
theorem z_wd_X4 : ∀ w ∈ u_ws RX4 TX4 7, w ∈ z_W := z_in [169, 171, 173, 175, 177, 179, 181] (by decide +kernel) (by decide +kernel)
set_option maxRecDepth 100000 in
theorem z_wd_X5 : ∀ w ∈ u_ws RX5 TX5 3, w ∈ z_W := z_in [198, 200, 202] (by decide +kernel) (by decide +kernel)
set_option maxRecDepth 100000 in
theorem z_wd_X6 : ∀ w ∈ u_ws RX6 TX6 2, w ∈ z_W := z_in [452, 454] (by decide +kernel) (by decide +kernel)
set_option maxRecDepth 100000 in
theorem z_wd_X8 : ∀ w ∈ u_ws RX8 TX8 10, w ∈ z_W := z_in [365, 367, 369, 371, 373, 375, 377, 379, 381, 383] (by decide +kernel) (by decide +kernel)
set_option maxRecDepth 100000 in
theorem z_wd_X9 : ∀ w ∈ u_ws RX9 TX9 7, w ∈ z_W := z_in [220, 222, 224, 226, 228, 230, 232] (by decide +kernel) (by decide +kernel)
set_option maxRecDepth 100000 in
theorem z_wd_X10 : ∀ w ∈ u_ws RX10 TX10 4, w ∈ z_W := z_in [333, 335, 337, 339] (by decide +kernel) (by decide +kernel)
set_option maxRecDepth 100000 in
theorem z_wd_X11 : ∀ w ∈ u_ws RX11 TX11 14, w ∈ z_W := z_in [471, 473, 475, 477, 479, 481, 483, 485, 487, 489, 491, 493, 495, 497] (by decide +kernel) (by decide +kernel)
set_option maxRecDepth 100000 in
theorem z_wd_X12 : ∀ w ∈ u_ws RX12 TX12 31, w ∈ z_W := z_in [1526, 1528, 1530, 1532, 1534, 1536, 1538, 1540, 1542, 1544, 1546, 1548, 1550, 1552, 1554, 1556, 1558, 1560, 1562, 1564, 1566, 1568, 1570, 1572, 1574, 1576, 1578, 1580, 1582, 1584, 1586] (by decide +kernel) (by decide +kernel)
theorem z_cls {k : Nat} (h : 2 ≤ k ∧ k < 14) : vwCl[k]? = some (z_C k) ∧ (∀ w ∈ u_ws (z_C k).1 (z_C k).2.1 (z_C k).2.2, w ∈ z_W) ∧ (∀ j, j < (z_C k).2.2 → parseFieldDescriptor ((z_C k).2.1 j).2.2.1 = some (z_tyf k j)) ∧ (∀ a, a < (z_C k).2.2 → ∀ b, b < (z_C k).2.2 → a ≠ b → ((z_C k).2.1 a).2.1 ≠ ((z_C k).2.1 b).2.1) := by
  have h : k = 2 ∨ k = 3 ∨ k = 4 ∨ k = 5 ∨ k = 6 ∨ k = 7 ∨ k = 8 ∨ k = 9 ∨ k = 10 ∨ k = 11 ∨ k = 12 ∨ k = 13 := by omega
  rcases h with rfl | rfl | rfl | rfl | rfl | rfl | rfl | rfl | rfl | rfl | rfl | rfl
  · exact ⟨rfl, z_wd_X0, tyX0_ok, nmX0⟩
  · exact ⟨rfl, z_wd_X1, tyX1_ok, nmX1⟩
  · exact ⟨rfl, z_wd_X2, tyX2_ok, nmX2⟩
  · exact ⟨rfl, z_wd_X3, tyX3_ok, nmX3⟩
  · exact ⟨rfl, z_wd_X4, tyX4_ok, nmX4⟩
  · exact ⟨rfl, z_wd_X5, tyX5_ok, nmX5⟩
  · exact ⟨rfl, z_wd_X6, tyX6_ok, nmX6⟩
  · exact ⟨rfl, z_wd_X8, tyX8_ok, nmX8⟩
  · exact ⟨rfl, z_wd_X9, tyX9_ok, nmX9⟩
  · exact ⟨rfl, z_wd_X10, tyX10_ok, nmX10⟩
  · exact ⟨rfl, z_wd_X11, tyX11_ok, nmX11⟩
  · exact ⟨rfl, z_wd_X12, tyX12_ok, nmX12⟩
