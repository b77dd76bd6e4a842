/-! Depths of the class; cells that there are. -/
abbrev zPd (k i j : Nat) : Prop := (k = 20 ∧ i = 34) ∨ (k = 4 ∧ i = 0 ∧ j = 5)
theorem zGp_d {g : Nat} (hg : g < 11) {k i j : Nat} (h : zGp g k i j) : ¬ zPd k i j := by
  unfold zGp at h
  unfold zPd
  omega
section
variable {g : Nat} {a : zG}
theorem s_depths_12 (v : zGV a) (hg : g < 11) : ∀ (j c : Nat) (m : zM), c ≤ a.n → a.n - c < j → zGR m g a → (∀ d, d < a.n → m.1 20 33 d = Int32.ofNat (a.lv d)) → (∀ d, d < c → m.1 20 34 d = Int32.ofNat (a.lv d - a.ht d)) → (∀ d, d < 64 → zb (m.2.1 4 0 5) d = decide (d < c ∧ a.ht d < a.lv d)) →
    ∃ m', f_X2_findDepths_12 g j (Int32.ofNat a.n) (Int32.ofNat c) m = some m' ∧ zFr zPd m m' ∧ (∀ d, d < a.n → m'.1 20 34 d = Int32.ofNat (a.lv d - a.ht d)) ∧ ∀ d, d < 64 → zb (m'.2.1 4 0 5) d = decide (d < a.n ∧ a.ht d < a.lv d)
  | 0, _, _, _, h, _, _, _, _ => absurd h (Nat.not_lt_zero _)
  | j + 1, c, m, hc, h, r, hl, hd, hw => by
    have n64 := v.n64
    unfold f_X2_findDepths_12
    by_cases he : c = a.n
    · rw [if_pos (by rw [zi_le (by omega) (by omega)]; omega)]
      subst he
      exact ⟨m, rfl, zFr.refl m, hd, hw⟩
    · have hcn : c < a.n := by omega
      have hc' : c < 64 := by omega
      have h1 := zG.lv99 v hcn
      have h2 := zG.lv_ht v hcn
      rw [if_neg (by rw [zi_le (by omega) (by omega)]; omega), s_at' 20 33 hc', Option.bind_some, hl c hcn, s_at' 20 (3 * g) hc', Option.bind_some, r.ht c hc', zi_sub h2, s_put 20 34 hc', Option.bind_some, show Int32.ofNat c + 1 = Int32.ofNat (c + 1) from zi_add c 1]
      have f1 : zFr zPd m (z_sI m 20 34 c (Int32.ofNat (a.lv c - a.ht c))) := zFr.sI (zFr.refl m) _ (.inl ⟨rfl, rfl⟩)
      have r1 := r.keep f1 (fun k i j => zGp_d hg)
      have row : ∀ d, d < c + 1 → (z_sI m 20 34 c (Int32.ofNat (a.lv c - a.ht c))).1 20 34 d = Int32.ofNat (a.lv d - a.ht d) := fun d hdc => by
        rw [zm_I]
        by_cases q : d = c
        · rw [if_pos ⟨rfl, rfl, q⟩, q]
        · rw [if_neg (c := 20 = 20 ∧ 34 = 34 ∧ d = c) (fun w => q w.2.2)]
          exact hd d (by omega)
      have lev : ∀ d, d < a.n → (z_sI m 20 34 c (Int32.ofNat (a.lv c - a.ht c))).1 20 33 d = Int32.ofNat (a.lv d) := fun d hdn => by
        rw [zm_I, if_neg (c := 20 = 20 ∧ 33 = 34 ∧ d = c) (by omega)]
        exact hl d hdn
      by_cases hq : a.ht c < a.lv c
      · rw [if_neg (by rw [show (0 : Int32) = Int32.ofNat 0 from rfl, zi_le (by omega) (by omega)]; omega)]
        have f2 := zFr.sL f1 (k := 4) (i := 0) (j := 5) ((z_sI m 20 34 c (Int32.ofNat (a.lv c - a.ht c))).2.1 4 0 5 ||| z_shl 1 (Int32.ofNat c)) (.inr ⟨rfl, rfl, rfl⟩)
        obtain ⟨m', p1, p2, p3, p4⟩ := s_depths_12 v hg j (c + 1) _ (by omega) (by omega) (r.keep f2 (fun k i j => zGp_d hg)) lev row fun d hd64 => by
          rw [zm_L, if_pos ⟨rfl, rfl, rfl⟩, zm_IL, zb_or, hw d hd64, zb_one hc' hd64]
          by_cases q : d = c
          · subst q
            simp [hq]
          · have : d < c + 1 ↔ d < c := by omega
            simp [q, this]
        exact ⟨m', p1, f2.trans p2, p3, p4⟩
      · rw [if_pos (by rw [show (0 : Int32) = Int32.ofNat 0 from rfl, zi_le (by omega) (by omega)]; omega)]
        obtain ⟨m', p1, p2, p3, p4⟩ := s_depths_12 v hg j (c + 1) _ (by omega) (by omega) r1 lev row fun d hd64 => by
          rw [zm_IL, hw d hd64]
          by_cases q : d = c
          · subst q
            simp [hq]
          · have : d < c + 1 ↔ d < c := by omega
            simp [this]
        exact ⟨m', p1, f1.trans p2, p3, p4⟩
theorem s_depths (v : zGV a) (hg : g < 11) {m : zM} (r : zGR m g a) (hl : ∀ d, d < a.n → m.1 20 33 d = Int32.ofNat (a.lv d)) : ∃ m', f_X2_findDepths g m = some m' ∧ zFr zPd m m' ∧ (∀ d, d < a.n → m'.1 20 34 d = Int32.ofNat (a.lv d - a.ht d)) ∧ ∀ d, d < 64 → zb (m'.2.1 4 0 5) d = decide (d < a.n ∧ a.ht d < a.lv d) := by
  have n64 := v.n64
  have f1 : zFr zPd m (z_sL m 4 0 5 0) := zFr.sL (zFr.refl m) _ (.inr ⟨rfl, rfl, rfl⟩)
  have r1 := r.keep f1 (fun k i j => zGp_d hg)
  unfold f_X2_findDepths
  rw [s_size v r1, Option.bind_some]
  obtain ⟨m', p1, p2, p3, p4⟩ := s_depths_12 v hg zF 0 (z_sL m 4 0 5 0) (Nat.zero_le _) (Nat.lt_of_lt_of_le (by omega : a.n - 0 < 65) (zF_ge (by decide))) r1 hl (fun d q => absurd q (Nat.not_lt_zero _)) fun d _ => by
    rw [zm_L, if_pos ⟨rfl, rfl, rfl⟩, zb_0]
    simp
  exact ⟨m', p1, f1.trans p2, p3, p4⟩
/-- a number is a cell, or it isn't -/
theorem z_cell (v : zGV a) (x : Int32) : (∃ c, c < a.n ∧ x = Int32.ofNat c) ∨ x < 0 ∨ ∃ c, c < 2147483648 ∧ a.n ≤ c ∧ x = Int32.ofNat c := by
  rcases zi_cases x with h | ⟨c, h, e⟩
  · exact .inr (.inl h)
  · by_cases q : c < a.n
    · exact .inl ⟨c, q, e⟩
    · exact .inr (.inr ⟨c, h, by omega, e⟩)
theorem s_req {m : zM} (v : zGV a) (r : zGR m 0 a) {c : Nat} (h : c < a.n) : f_X11_requireCell (Int32.ofNat c) m = some (.inl (), m) := by
  have n64 := v.n64
  unfold f_X11_requireCell
  rw [if_neg (zi_nn (by omega)), s_size v r, Option.bind_some, if_pos (by rw [zi_lt (by omega) (by omega)]; exact h)]
theorem s_reqn {m : zM} (v : zGV a) (r : zGR m 0 a) {x : Int32} (h : x < 0 ∨ ∃ c, c < 2147483648 ∧ a.n ≤ c ∧ x = Int32.ofNat c) : f_X11_requireCell x m = some (.inr 1, m) := by
  have n64 := v.n64
  unfold f_X11_requireCell
  rcases h with h | ⟨c, h1, h2, rfl⟩
  · rw [if_pos h]
  · rw [if_neg (zi_nn h1), s_size v r, Option.bind_some, if_neg (by rw [zi_lt h1 (by omega)]; omega)]
theorem z_lcp (x y : Int64) : 0 < lg_cmp x y ↔ y < x := by
  unfold lg_cmp
  by_cases h : y < x
  · simp [h]
  · by_cases h2 : x = y
    · simp [h2]
    · simp [h, h2]
theorem z_lcn (x y : Int64) : lg_cmp x y < 0 ↔ x < y := by
  unfold lg_cmp
  by_cases h : y < x
  · have : ¬ x < y := by
      rw [Int64.lt_iff_toInt_lt] at h ⊢
      omega
    simp [h, this]
  · by_cases h2 : x = y
    · simp [h2]
    · have h3 : x < y := by
        rw [Int64.lt_iff_toInt_lt] at h ⊢
        have : x.toInt ≠ y.toInt := fun e => h2 (Int64.toInt_inj.mp e)
        omega
      simp [h, h2, h3]
theorem zi_64 (x : Int32) : (Int32.toInt64 x).toInt = x.toInt := Int32.toInt_toInt64 x
/-- the reference's bounds -/
theorem s_in (x lo hi : Int64) (m : zM) : f_X12_in x lo hi m = some (decide (lo ≤ x ∧ x ≤ hi)) := by
  unfold f_X12_in
  by_cases h1 : x < lo
  · rw [if_pos ((z_lcn _ _).mpr h1)]
    have : ¬ lo ≤ x := by
      rw [Int64.lt_iff_toInt_lt] at h1
      rw [Int64.le_iff_toInt_le]
      omega
    simp [this]
  · rw [if_neg (mt (z_lcn _ _).mp h1)]
    have h1' : lo ≤ x := by
      rw [Int64.lt_iff_toInt_lt] at h1
      rw [Int64.le_iff_toInt_le]
      omega
    by_cases h2 : hi < x
    · rw [if_pos ((z_lcp _ _).mpr h2)]
      have : ¬ x ≤ hi := by
        rw [Int64.lt_iff_toInt_lt] at h2
        rw [Int64.le_iff_toInt_le]
        omega
      simp [this]
    · rw [if_neg (mt (z_lcp _ _).mp h2)]
      have : x ≤ hi := by
        rw [Int64.lt_iff_toInt_lt] at h2
        rw [Int64.le_iff_toInt_le]
        omega
      simp [h1', this]
theorem s_isCell {m : zM} (v : zGV a) (r : zMR (m.1 23 0) a) {c : Nat} (h : c < a.n) : f_X12_isCell (Int32.ofNat c) m = some true := by
  have n64 := v.n64
  unfold f_X12_isCell
  rw [s_mcells r, Option.bind_some, s_in, Option.bind_some, show (1 : Int32) = Int32.ofNat 1 from rfl, zi_sub (by omega)]
  congr 1
  rw [decide_eq_true_eq, Int64.le_iff_toInt_le, Int64.le_iff_toInt_le, zi_64, zi_64, zi_toInt (by omega), zi_toInt (by omega)]
  have : (0 : Int64).toInt = 0 := rfl
  omega
theorem s_isCelln {m : zM} (v : zGV a) (r : zMR (m.1 23 0) a) {x : Int32} (h : x < 0 ∨ ∃ c, c < 2147483648 ∧ a.n ≤ c ∧ x = Int32.ofNat c) : f_X12_isCell x m = some false := by
  have n64 := v.n64
  have n4 := v.n4
  unfold f_X12_isCell
  rw [s_mcells r, Option.bind_some, s_in, Option.bind_some, show (1 : Int32) = Int32.ofNat 1 from rfl, zi_sub (by omega)]
  congr 1
  rw [decide_eq_false_iff_not, Int64.le_iff_toInt_le, Int64.le_iff_toInt_le, zi_64, zi_64, zi_toInt (by omega)]
  have e0 : (0 : Int64).toInt = 0 := rfl
  rcases h with h | ⟨c, h1, h2, rfl⟩
  · rw [Int32.lt_iff_toInt_lt] at h
    have : (0 : Int32).toInt = 0 := rfl
    omega
  · rw [zi_toInt h1]
    omega
end
