/-! Lines: cells along a section. -/
def zfd (x y : Int32) : Int32 := if 0 ≤ (x ^^^ y) then x / y else if (x / y) * y = x then x / y else x / y - 1
def zab (x : Int32) : Int32 := if 0 ≤ x then x else -x
theorem s_floorDiv (x y : Int32) (m : zM) (h : z_nz y = true) : f_J9_floorDiv_7cf53 x y m = some (zfd x y) := by
  unfold f_J9_floorDiv_7cf53 zfd
  rw [z_gdt h]
  split
  · rfl
  · split <;> rfl
theorem s_abs (x : Int32) (m : zM) : f_J9_abs_0f7a4 x m = some (zab x) := by
  unfold f_J9_abs_0f7a4 zab
  split <;> rfl
def z_dist (x y : Nat) : Nat := (x - y) + (y - x)
theorem zab_dist : ∀ x, x < 8 → ∀ y, y < 8 → zab (Int32.ofNat x - Int32.ofNat y) = Int32.ofNat (z_dist x y) := by decide +kernel
/-- where a coordinate is after k of n steps -/
def zmp (k n x y : Nat) : Int32 := zfd ((2 * Int32.ofNat k) * (Int32.ofNat y - Int32.ofNat x) + Int32.ofNat n) (2 * Int32.ofNat n)
def zmq (k n x y : Nat) : Nat := (Int32.ofNat x + zmp k n x y).toNatClampNeg
def zck (n k x y : Nat) : Bool := (decide (n = 0) || decide (n < k) || decide (n < z_dist x y)) || (decide (Int32.ofNat x + zmp k n x y = Int32.ofNat (zmq k n x y)) && decide (zmq k n x y ≤ max x y) && (!(decide (k = 0)) || decide (zmq k n x y = x)) && (!(decide (k = n)) || decide (zmq k n x y = y)) && (!(decide (z_dist x y = n)) || decide (zmq k n x y = if x ≤ y then x + k else x - k)))
theorem zck_all : ∀ n, n < 8 → ∀ k, k < 8 → ∀ x, x < 8 → ∀ y, y < 8 → zck n k x y = true := by decide +kernel
theorem zmq_all (n : Nat) (hn : n < 8) (k : Nat) (hk : k < 8) (x : Nat) (hx : x < 8) (y : Nat) (hy : y < 8) (h0 : n ≠ 0) (h1 : k ≤ n) (h2 : z_dist x y ≤ n) : Int32.ofNat x + zmp k n x y = Int32.ofNat (zmq k n x y) ∧ zmq k n x y ≤ max x y ∧ (k = 0 → zmq k n x y = x) ∧ (k = n → zmq k n x y = y) ∧ (z_dist x y = n → zmq k n x y = if x ≤ y then x + k else x - k) := by
  have h := zck_all n hn k hk x hx y hy
  unfold zck at h
  simp only [Bool.or_eq_true, Bool.and_eq_true, decide_eq_true_eq, Bool.not_eq_true', decide_eq_false_iff_not] at h
  rcases h with ((h | h) | h) | ⟨⟨⟨⟨q1, q2⟩, q3⟩, q4⟩, q5⟩
  · exact absurd h h0
  · omega
  · omega
  · exact ⟨q1, q2, fun w => q3.resolve_left fun z => z w, fun w => q4.resolve_left fun z => z w, fun w => q5.resolve_left fun z => z w⟩
theorem z_dist_lt {x y n : Nat} (hx : x < n) (hy : y < n) : z_dist x y < n := by
  unfold z_dist
  omega
theorem z_dist_sym (x y : Nat) : z_dist x y = z_dist y x := by
  unfold z_dist
  omega
theorem z_step_inj {x y n k l : Nat} (hm : z_dist x y = n) (hk : k ≤ n) (hl : l ≤ n) (h : (if x ≤ y then x + k else x - k) = if x ≤ y then x + l else x - l) : k = l := by
  unfold z_dist at hm
  split at h <;> omega
theorem z_dist0 {x y : Nat} (h : z_dist x y ≤ 0) : x = y := by
  unfold z_dist at h
  omega
noncomputable def zG.far (a : zG) (c d : Nat) : Nat := max (z_dist (c % a.w) (d % a.w)) (z_dist (c / a.w) (d / a.w))
noncomputable def zG.al (a : zG) (c d k : Nat) : Nat := if a.far c d = 0 then c else zmq k (a.far c d) (c / a.w) (d / a.w) * a.w + zmq k (a.far c d) (c % a.w) (d % a.w)
section
variable {a : zG} {g : Nat}
theorem zG.cr (v : zGV a) {c : Nat} (hc : c < a.n) : c % a.w < 8 ∧ c / a.w < 8 ∧ c % a.w < a.w ∧ c / a.w < a.h := by
  have h1 := Nat.mod_lt c v.w0
  have h2 := v.row hc
  have := v.w8
  have := v.h8
  omega
theorem zG.far7 (v : zGV a) {c d : Nat} (hc : c < a.n) (hd : d < a.n) : a.far c d < 8 := by
  have h1 := zG.cr v hc
  have h2 := zG.cr v hd
  exact Nat.max_lt.mpr ⟨z_dist_lt h1.1 h2.1, z_dist_lt h1.2.1 h2.2.1⟩
theorem zG.al_xy (v : zGV a) {c d k : Nat} (hc : c < a.n) (hd : d < a.n) (hk : k ≤ a.far c d) (h0 : a.far c d ≠ 0) : zmq k (a.far c d) (c % a.w) (d % a.w) < a.w ∧ zmq k (a.far c d) (c / a.w) (d / a.w) < a.h := by
  have h1 := zG.cr v hc
  have h2 := zG.cr v hd
  have h3 := zG.far7 v hc hd
  have e1 : z_dist (c % a.w) (d % a.w) ≤ a.far c d := Nat.le_max_left _ _
  have e2 : z_dist (c / a.w) (d / a.w) ≤ a.far c d := Nat.le_max_right _ _
  have q1 := (zmq_all _ h3 k (by omega) _ h1.1 _ h2.1 h0 hk e1).2.1
  have q2 := (zmq_all _ h3 k (by omega) _ h1.2.1 _ h2.2.1 h0 hk e2).2.1
  omega
theorem zG.al_n (v : zGV a) {c d k : Nat} (hc : c < a.n) (hd : d < a.n) (hk : k ≤ a.far c d) : a.al c d k < a.n := by
  unfold zG.al
  by_cases h0 : a.far c d = 0
  · rw [if_pos h0]; exact hc
  · rw [if_neg h0]
    obtain ⟨q1, q2⟩ := zG.al_xy v hc hd hk h0
    have : (zmq k (a.far c d) (c / a.w) (d / a.w) + 1) * a.w ≤ a.h * a.w := Nat.mul_le_mul_right _ q2
    rw [Nat.add_mul] at this
    show _ < a.w * a.h
    rw [Nat.mul_comm a.w a.h]
    omega
theorem zG.al_mod (v : zGV a) {c d k : Nat} (hc : c < a.n) (hd : d < a.n) (hk : k ≤ a.far c d) (h0 : a.far c d ≠ 0) : a.al c d k % a.w = zmq k (a.far c d) (c % a.w) (d % a.w) ∧ a.al c d k / a.w = zmq k (a.far c d) (c / a.w) (d / a.w) := by
  obtain ⟨q1, q2⟩ := zG.al_xy v hc hd hk h0
  unfold zG.al
  rw [if_neg h0]
  refine ⟨?_, ?_⟩
  · rw [Nat.mul_comm, Nat.mul_add_mod, Nat.mod_eq_of_lt q1]
  · rw [Nat.mul_comm, Nat.mul_add_div v.w0, Nat.div_eq_of_lt q1, Nat.add_zero]
theorem zG.al_ends (v : zGV a) {c d : Nat} (hc : c < a.n) (hd : d < a.n) : a.al c d 0 = c ∧ a.al c d (a.far c d) = d := by
  have h1 := zG.cr v hc
  have h2 := zG.cr v hd
  have h3 := zG.far7 v hc hd
  have e1 : z_dist (c % a.w) (d % a.w) ≤ a.far c d := Nat.le_max_left _ _
  have e2 : z_dist (c / a.w) (d / a.w) ≤ a.far c d := Nat.le_max_right _ _
  have dc := Nat.div_add_mod c a.w
  have dd := Nat.div_add_mod d a.w
  by_cases h0 : a.far c d = 0
  · unfold zG.al
    rw [if_pos h0, if_pos h0]
    have x1 : c % a.w = d % a.w := z_dist0 (by rw [← h0]; exact e1)
    have x2 : c / a.w = d / a.w := z_dist0 (by rw [← h0]; exact e2)
    refine ⟨rfl, ?_⟩
    rw [← dc, ← dd, x1, x2]
  · unfold zG.al
    rw [if_neg h0, if_neg h0]
    have a0 := zmq_all _ h3 0 (by omega) _ h1.1 _ h2.1 h0 (Nat.zero_le _) e1
    have a1 := zmq_all _ h3 0 (by omega) _ h1.2.1 _ h2.2.1 h0 (Nat.zero_le _) e2
    have a2 := zmq_all _ h3 _ h3 _ h1.1 _ h2.1 h0 (Nat.le_refl _) e1
    have a3 := zmq_all _ h3 _ h3 _ h1.2.1 _ h2.2.1 h0 (Nat.le_refl _) e2
    rw [a0.2.2.1 rfl, a1.2.2.1 rfl, a2.2.2.2.1 rfl, a3.2.2.2.1 rfl]
    rw [Nat.mul_comm, Nat.mul_comm (d / a.w)]
    exact ⟨dc, dd⟩
theorem zG.al_inj (v : zGV a) {c d k l : Nat} (hc : c < a.n) (hd : d < a.n) (hk : k ≤ a.far c d) (hl : l ≤ a.far c d) (h : a.al c d k = a.al c d l) : k = l := by
  have h1 := zG.cr v hc
  have h2 := zG.cr v hd
  have h3 := zG.far7 v hc hd
  by_cases h0 : a.far c d = 0
  · omega
  · have e1 : z_dist (c % a.w) (d % a.w) ≤ a.far c d := Nat.le_max_left _ _
    have e2 : z_dist (c / a.w) (d / a.w) ≤ a.far c d := Nat.le_max_right _ _
    obtain ⟨k1, k2⟩ := zG.al_mod v hc hd hk h0
    obtain ⟨l1, l2⟩ := zG.al_mod v hc hd hl h0
    rw [h] at k1 k2
    have ek := zmq_all _ h3 k (by omega) _ h1.1 _ h2.1 h0 hk e1
    have el := zmq_all _ h3 l (by omega) _ h1.1 _ h2.1 h0 hl e1
    have fk := zmq_all _ h3 k (by omega) _ h1.2.1 _ h2.2.1 h0 hk e2
    have fl := zmq_all _ h3 l (by omega) _ h1.2.1 _ h2.2.1 h0 hl e2
    have hm : z_dist (c % a.w) (d % a.w) = a.far c d ∨ z_dist (c / a.w) (d / a.w) = a.far c d := by
      rcases Nat.le_total (z_dist (c % a.w) (d % a.w)) (z_dist (c / a.w) (d / a.w)) with q | q
      · exact .inr (Nat.max_eq_right q).symm
      · exact .inl (Nat.max_eq_left q).symm
    rcases hm with hm | hm
    · have p1 := ek.2.2.2.2 hm
      have p2 := el.2.2.2.2 hm
      exact z_step_inj hm hk hl (p1.symm.trans ((k1.symm.trans l1).trans p2))
    · have p1 := fk.2.2.2.2 hm
      have p2 := fl.2.2.2.2 hm
      exact z_step_inj hm hk hl (p1.symm.trans ((k2.symm.trans l2).trans p2))
theorem s_far (v : zGV a) {m : zM} (r : zMR (m.1 23 0) a) {c d : Nat} (hc : c < a.n) (hd : d < a.n) : f_X12_far (Int32.ofNat c) (Int32.ofNat d) m = some (Int32.ofNat (a.far c d)) := by
  have n64 := v.n64
  have w8 := v.w8
  have w2 := v.w2
  have h1 := zG.cr v hc
  have h2 := zG.cr v hd
  unfold f_X12_far
  rw [z_gdt z_i0, z_c0, r.1, z_gdt (zi_nz (by omega) (by omega)), zi_rem (by omega) (by omega), zi_rem (by omega) (by omega), s_abs, Option.bind_some, z_gdt (zi_nz (by omega) (by omega)), zi_div (by omega) (by omega), zi_div (by omega) (by omega), s_abs, Option.bind_some, zab_dist _ h1.1 _ h2.1, zab_dist _ h1.2.1 _ h2.2.1, z_max (Nat.lt_trans (z_dist_lt h1.1 h2.1) (by decide)) (Nat.lt_trans (z_dist_lt h1.2.1 h2.2.1) (by decide)), Option.bind_some]
  rfl
theorem s_along (v : zGV a) {m : zM} (r : zMR (m.1 23 0) a) {c d k : Nat} (hc : c < a.n) (hd : d < a.n) (hk : k ≤ a.far c d) : f_X12_along (Int32.ofNat c) (Int32.ofNat d) (Int32.ofNat k) m = some (Int32.ofNat (a.al c d k)) := by
  have n64 := v.n64
  have w8 := v.w8
  have w2 := v.w2
  have h1 := zG.cr v hc
  have h2 := zG.cr v hd
  have h3 := zG.far7 v hc hd
  unfold f_X12_along
  rw [s_far v r hc hd, Option.bind_some]
  unfold zG.al
  by_cases h0 : a.far c d = 0
  · rw [if_pos (by rw [h0]; rfl), if_pos h0]
  · rw [if_neg (by rw [zi_0 (by omega)]; exact h0), if_neg h0]
    have e1 : z_dist (c % a.w) (d % a.w) ≤ a.far c d := Nat.le_max_left _ _
    have e2 : z_dist (c / a.w) (d / a.w) ≤ a.far c d := Nat.le_max_right _ _
    have q1 := (zmq_all _ h3 k (by omega) _ h1.1 _ h2.1 h0 hk e1).1
    have q2 := (zmq_all _ h3 k (by omega) _ h1.2.1 _ h2.2.1 h0 hk e2).1
    have nz : z_nz ((2 : Int32) * Int32.ofNat (a.far c d)) = true := by
      rw [show (2 : Int32) = Int32.ofNat 2 from rfl, zi_mul]
      exact zi_nz (by omega) (by omega)
    rw [z_gdt z_i0, z_c0, r.1, z_gdt (zi_nz (by omega) (by omega)), zi_rem (by omega) (by omega), zi_rem (by omega) (by omega), s_floorDiv _ _ _ nz, Option.bind_some, z_gdt (zi_nz (by omega) (by omega)), zi_div (by omega) (by omega), zi_div (by omega) (by omega), s_floorDiv _ _ _ nz, Option.bind_some]
    rw [show zfd ((2 * Int32.ofNat k) * (Int32.ofNat (d % a.w) - Int32.ofNat (c % a.w)) + Int32.ofNat (a.far c d)) (2 * Int32.ofNat (a.far c d)) = zmp k (a.far c d) (c % a.w) (d % a.w) from rfl, show zfd ((2 * Int32.ofNat k) * (Int32.ofNat (d / a.w) - Int32.ofNat (c / a.w)) + Int32.ofNat (a.far c d)) (2 * Int32.ofNat (a.far c d)) = zmp k (a.far c d) (c / a.w) (d / a.w) from rfl, q1, q2, zi_mul, zi_add, Nat.mul_comm]
abbrev zPli (k i j : Nat) : Prop := (k = 22 ∧ i = 0) ∨ (k = 8 ∧ i = 0 ∧ j = 1)
def zLi (a : zG) (c d : Nat) (m : zM) : Prop := m.1 8 0 1 = Int32.ofNat (a.far c d + 1) ∧ ∀ k, k ≤ a.far c d → m.1 22 0 k = Int32.ofNat (a.al c d k)
theorem zl_22 : z_alen 22 = 8 := rfl
theorem s_draw_60 (v : zGV a) (hg : g < 11) {c d : Nat} (hc : c < a.n) (hd : d < a.n) : ∀ (j k : Nat) (m : zM), k ≤ a.far c d + 1 → a.far c d + 1 - k < j → zGR m g a → m.1 8 0 1 = Int32.ofNat (a.far c d + 1) → (∀ l, l < k → m.1 22 0 l = Int32.ofNat (a.al c d l)) →
    ∃ m', f_X6_draw_60 g j (Int32.ofNat (c % a.w)) (Int32.ofNat (c / a.w)) (Int32.ofNat (d % a.w) - Int32.ofNat (c % a.w)) (Int32.ofNat (d / a.w) - Int32.ofNat (c / a.w)) (Int32.ofNat (a.far c d)) (Int32.ofNat k) m = some m' ∧ zFr zPli m m' ∧ zLi a c d m'
  | 0, _, _, _, h, _, _, _ => absurd h (Nat.not_lt_zero _)
  | j + 1, k, m, hk, hj, r, hn, hm => by
    have h1 := zG.cr v hc
    have h2 := zG.cr v hd
    have h3 := zG.far7 v hc hd
    unfold f_X6_draw_60
    by_cases he : k = a.far c d + 1
    · rw [if_pos (by rw [zi_lt (by omega) (by omega)]; omega)]
      exact ⟨m, rfl, zFr.refl m, hn, fun l hl => hm l (by omega)⟩
    · have hk' : k ≤ a.far c d := by omega
      rw [if_neg (by rw [zi_lt (by omega) (by omega)]; omega), zi_s]
      have mv : ∀ x y, x < 8 → y < 8 → z_dist x y ≤ a.far c d → ∃ u, f_X6_moved (Int32.ofNat k) (Int32.ofNat y - Int32.ofNat x) (Int32.ofNat (a.far c d)) m = some u ∧ Int32.ofNat x + u = Int32.ofNat (if a.far c d = 0 then x else zmq k (a.far c d) x y) := fun x y hx hy hxy => by
        unfold f_X6_moved
        by_cases h0 : a.far c d = 0
        · rw [if_pos (by rw [h0]; decide), if_pos h0]
          exact ⟨0, rfl, Int32.add_zero _⟩
        · have nz : z_nz ((2 : Int32) * Int32.ofNat (a.far c d)) = true := by
            rw [show (2 : Int32) = Int32.ofNat 2 from rfl, zi_mul]
            exact zi_nz (by omega) (by omega)
          rw [if_neg (by rw [show (0 : Int32) = Int32.ofNat 0 from rfl, zi_le (by omega) (by omega)]; omega), if_neg h0, s_floorDiv _ _ _ nz, Option.bind_some]
          exact ⟨_, rfl, (zmq_all _ h3 k (by omega) _ hx _ hy h0 hk' hxy).1⟩
      obtain ⟨u1, p1, p2⟩ := mv (c / a.w) (d / a.w) h1.2.1 h2.2.1 (Nat.le_max_right _ _)
      obtain ⟨u2, p3, p4⟩ := mv (c % a.w) (d % a.w) h1.1 h2.1 (Nat.le_max_left _ _)
      rw [p1, Option.bind_some, p3, Option.bind_some, r.w, p2, zi_mul, Int32.add_assoc, p4, zi_add, s_put 22 0 (by rw [zl_22]; omega), Option.bind_some]
      have e : (if a.far c d = 0 then c / a.w else zmq k (a.far c d) (c / a.w) (d / a.w)) * a.w + (if a.far c d = 0 then c % a.w else zmq k (a.far c d) (c % a.w) (d % a.w)) = a.al c d k := by
        unfold zG.al
        by_cases h0 : a.far c d = 0
        · rw [if_pos h0, if_pos h0, if_pos h0, Nat.mul_comm]
          exact Nat.div_add_mod c a.w
        · rw [if_neg h0, if_neg h0, if_neg h0]
      rw [e]
      have f1 : zFr zPli m (z_sI m 22 0 k (Int32.ofNat (a.al c d k))) := zFr.sI (zFr.refl m) _ (.inl ⟨rfl, rfl⟩)
      obtain ⟨m', q1, q2, q3⟩ := s_draw_60 v hg hc hd j (k + 1) _ (by omega) (by omega) (r.keep f1 fun k i j w => by unfold zGp at w; unfold zPli; omega) (by rw [zm_ot _ _ _ _ (by omega)]; exact hn) fun l hl => by
        rw [zm_row]
        by_cases z : l = k
        · rw [if_pos z, z]
        · rw [if_neg z]; exact hm l (by omega)
      exact ⟨m', q1, f1.trans q2, q3⟩
theorem s_draw (v : zGV a) (hg : g < 11) {c d : Nat} (hc : c < a.n) (hd : d < a.n) {m : zM} (r : zGR m g a) : ∃ m', f_X6_draw g (Int32.ofNat c) (Int32.ofNat d) m = some m' ∧ zFr zPli m m' ∧ zLi a c d m' := by
  have n64 := v.n64
  have h1 := zG.cr v hc
  have h2 := zG.cr v hd
  have h3 := zG.far7 v hc hd
  unfold f_X6_draw
  rw [s_col v r (by omega), Option.bind_some, s_row v r (by omega), Option.bind_some, s_col v r (by omega), Option.bind_some, s_row v r (by omega), Option.bind_some, s_abs, Option.bind_some, s_abs, Option.bind_some, zab_dist _ h2.1 _ h1.1, zab_dist _ h2.2.1 _ h1.2.1, z_max (Nat.lt_trans (z_dist_lt h2.1 h1.1) (by decide)) (Nat.lt_trans (z_dist_lt h2.2.1 h1.2.1) (by decide)), Option.bind_some]
  have e : max (z_dist (d % a.w) (c % a.w)) (z_dist (d / a.w) (c / a.w)) = a.far c d := by
    rw [z_dist_sym, z_dist_sym (d / a.w)]
    rfl
  rw [e, zi_s]
  have f1 : zFr zPli m (z_sI m 8 0 1 (Int32.ofNat (a.far c d + 1))) := zFr.sI (zFr.refl m) _ (.inr ⟨rfl, rfl, rfl⟩)
  obtain ⟨m', q1, q2, q3⟩ := s_draw_60 v hg hc hd zF 0 _ (Nat.zero_le _) (zF_lt (by omega)) (r.keep f1 fun k i j w => by unfold zGp at w; unfold zPli; omega) (by rw [zm_row, if_pos rfl]) fun l hl => absurd hl (Nat.not_lt_zero _)
  exact ⟨m', q1, f1.trans q2, q3⟩
theorem s_heightAt (v : zGV a) {c d k : Nat} (hc : c < a.n) (hd : d < a.n) {m : zM} (r : zGR m g a) (h : zLi a c d m) (hk : k ≤ a.far c d) : f_X6_heightAt g (Int32.ofNat k) m = some (Int32.ofNat (a.ht (a.al c d k))) := by
  have n64 := v.n64
  have h3 := zG.far7 v hc hd
  have hal := zG.al_n v hc hd hk
  unfold f_X6_heightAt
  rw [s_at' 22 0 (by rw [zl_22]; omega), Option.bind_some, h.2 k hk, s_at' 20 (3 * g) (show a.al c d k < 64 by omega), Option.bind_some, r.ht _ (by omega)]
/-- the sight is not hidden by cell k -/
noncomputable def zG.opn (a : zG) (c d : Nat) (e : Int32) (k : Nat) : Prop := Int32.ofNat (a.far c d) * (Int32.ofNat (a.ht (a.al c d k)) - (Int32.ofNat (a.ht c) + e)) ≤ Int32.ofNat k * (Int32.ofNat (a.ht d) - (Int32.ofNat (a.ht c) + e))
noncomputable def zG.see (a : zG) (c d : Nat) (e : Int32) : Bool := @decide (∀ k, 1 ≤ k → k < a.far c d → a.opn c d e k) (Classical.propDecidable _)
theorem s_open_31 (v : zGV a) {c d : Nat} (hc : c < a.n) (hd : d < a.n) (e : Int32) {m : zM} (r : zGR m g a) (h : zLi a c d m) : ∀ (j k : Nat), 1 ≤ k → k ≤ 8 → a.far c d - k < j → (∀ l, 1 ≤ l → l < k → a.opn c d e l) → f_X6_isOpen_31 g m j (Int32.ofNat (a.far c d)) (Int32.ofNat (a.ht c) + e) (Int32.ofNat (a.ht d) - (Int32.ofNat (a.ht c) + e)) (Int32.ofNat k) = some (a.see c d e)
  | 0, _, _, _, h, _ => absurd h (Nat.not_lt_zero _)
  | j + 1, k, hk1, hk8, hj, hl => by
    have h3 := zG.far7 v hc hd
    unfold f_X6_isOpen_31
    by_cases he : a.far c d ≤ k
    · rw [if_pos (by rw [zi_le (by omega) (by omega)]; exact he)]
      congr 1
      exact (z_dec.mpr fun l q1 q2 => hl l q1 (by omega)).symm
    · have hk2 : k + 1 ≤ a.far c d := by clear hl; omega
      have hj2 : a.far c d - (k + 1) < j := by clear hl; omega
      rw [if_neg (by rw [zi_le (by omega) (by omega)]; exact he), s_heightAt v hc hd r h (by omega), Option.bind_some, zi_s]
      by_cases w : a.opn c d e k
      · rw [if_pos (show Int32.ofNat (a.far c d) * (Int32.ofNat (a.ht (a.al c d k)) - (Int32.ofNat (a.ht c) + e)) ≤ Int32.ofNat k * (Int32.ofNat (a.ht d) - (Int32.ofNat (a.ht c) + e)) from w)]
        refine s_open_31 v hc hd e r h j (k + 1) (by omega) (by clear hl; omega) hj2 fun l q1 q2 => ?_
        by_cases z : l = k
        · rw [z]; exact w
        · exact hl l q1 (by omega)
      · rw [if_neg (show ¬ Int32.ofNat (a.far c d) * (Int32.ofNat (a.ht (a.al c d k)) - (Int32.ofNat (a.ht c) + e)) ≤ Int32.ofNat k * (Int32.ofNat (a.ht d) - (Int32.ofNat (a.ht c) + e)) from w)]
        congr 1
        cases q : a.see c d e with
        | false => rfl
        | true => exact absurd (z_dec.mp q k hk1 (by omega)) w
theorem s_isOpen (v : zGV a) {c d : Nat} (hc : c < a.n) (hd : d < a.n) (e : Int32) {m : zM} (r : zGR m g a) (h : zLi a c d m) : f_X6_isOpen g e m = some (a.see c d e) := by
  have h3 := zG.far7 v hc hd
  obtain ⟨e1, e2⟩ := zG.al_ends v hc hd
  unfold f_X6_isOpen
  have h0 := s_heightAt v hc hd r h (Nat.zero_le _)
  rw [e1] at h0
  rw [show (0 : Int32) = Int32.ofNat 0 from rfl, h0, Option.bind_some, h.1, zi_q (by omega), Nat.add_sub_cancel, s_heightAt v hc hd r h (Nat.le_refl _), Option.bind_some, e2]
  exact s_open_31 v hc hd e r h zF 1 (Nat.le_refl _) (by omega) (zF_lt (by omega)) fun l q1 q2 => by omega
theorem s_seen_20 (v : zGV a) {c d : Nat} (hc : c < a.n) (hd : d < a.n) (e : Int32) {m : zM} (r : zMR (m.1 23 0) a) : ∀ (j k : Nat), 1 ≤ k → k ≤ 8 → a.far c d - k < j → (∀ l, 1 ≤ l → l < k → a.opn c d e l) → f_X12_isSeen_20 m j (Int32.ofNat c) (Int32.ofNat d) (Int32.ofNat (a.far c d)) (Int32.ofNat (a.ht c) + e) (Int32.ofNat k) = some (a.see c d e)
  | 0, _, _, _, h, _ => absurd h (Nat.not_lt_zero _)
  | j + 1, k, hk1, hk8, hj, hl => by
    have n64 := v.n64
    have h3 := zG.far7 v hc hd
    unfold f_X12_isSeen_20
    by_cases he : a.far c d ≤ k
    · rw [if_pos (by rw [zi_le (by omega) (by omega)]; exact he)]
      congr 1
      exact (z_dec.mpr fun l q1 q2 => hl l q1 (by omega)).symm
    · have hk2 : k ≤ a.far c d := by clear hl; omega
      have hj2 : a.far c d - (k + 1) < j := by clear hl; omega
      have hal := zG.al_n v hc hd hk2
      rw [if_neg (by rw [zi_le (by omega) (by omega)]; exact he), s_along v r hc hd hk2, Option.bind_some, s_mheight r (by omega), Option.bind_some, s_mheight r (by omega), Option.bind_some, zi_s]
      by_cases w : a.opn c d e k
      · rw [if_pos (show Int32.ofNat (a.far c d) * (Int32.ofNat (a.ht (a.al c d k)) - (Int32.ofNat (a.ht c) + e)) ≤ Int32.ofNat k * (Int32.ofNat (a.ht d) - (Int32.ofNat (a.ht c) + e)) from w)]
        refine s_seen_20 v hc hd e r j (k + 1) (by omega) (by clear hl; omega) hj2 fun l q1 q2 => ?_
        by_cases z : l = k
        · rw [z]; exact w
        · exact hl l q1 (by omega)
      · rw [if_neg (show ¬ Int32.ofNat (a.far c d) * (Int32.ofNat (a.ht (a.al c d k)) - (Int32.ofNat (a.ht c) + e)) ≤ Int32.ofNat k * (Int32.ofNat (a.ht d) - (Int32.ofNat (a.ht c) + e)) from w)]
        congr 1
        cases q : a.see c d e with
        | false => rfl
        | true => exact absurd (z_dec.mp q k hk1 (by omega)) w
theorem s_isSeen (v : zGV a) {c d : Nat} (hc : c < a.n) (hd : d < a.n) (e : Int32) {m : zM} (r : zMR (m.1 23 0) a) : f_X12_isSeen (Int32.ofNat c) (Int32.ofNat d) e m = some (a.see c d e) := by
  have n64 := v.n64
  unfold f_X12_isSeen
  rw [s_far v r hc hd, Option.bind_some, s_mheight r (by omega), Option.bind_some]
  exact s_seen_20 v hc hd e r zF 1 (Nat.le_refl _) (by omega) (zF_lt (by have := zG.far7 v hc hd; omega)) fun l q1 q2 => by omega
end
