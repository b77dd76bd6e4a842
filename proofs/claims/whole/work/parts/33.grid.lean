/-! Grids: what they are, and how the memory holds them. -/
abbrev zG : Type := Nat × Nat × Nat × (Nat → Nat) × (Nat → Nat) × (Nat → Nat) × (Nat → Bool)
def zG.w (a : zG) : Nat := a.1
def zG.h (a : zG) : Nat := a.2.1
def zG.thr (a : zG) : Nat := a.2.2.1
def zG.ht (a : zG) : Nat → Nat := a.2.2.2.1
def zG.rn (a : zG) : Nat → Nat := a.2.2.2.2.1
def zG.sk (a : zG) : Nat → Nat := a.2.2.2.2.2.1
def zG.ou (a : zG) : Nat → Bool := a.2.2.2.2.2.2
def zG.n (a : zG) : Nat := a.w * a.h
def zGV (a : zG) : Prop :=
  (2 ≤ a.w) ∧
  (a.w ≤ 8) ∧
  (2 ≤ a.h) ∧
  (a.h ≤ 8) ∧
  (1 ≤ a.thr) ∧
  (a.thr ≤ 99) ∧
  (∀ c, a.ht c ≤ 99) ∧
  (∀ c, a.rn c ≤ 9) ∧
  (∀ c, a.sk c ≤ 9) ∧
  (∃ c, c < a.n ∧ a.ou c = true) ∧
  (∀ c, a.ou c = true → c < a.n)
theorem zGV.w2 {a : zG} (v : zGV a) : 2 ≤ a.w := v.1
theorem zGV.w8 {a : zG} (v : zGV a) : a.w ≤ 8 := v.2.1
theorem zGV.h2 {a : zG} (v : zGV a) : 2 ≤ a.h := v.2.2.1
theorem zGV.h8 {a : zG} (v : zGV a) : a.h ≤ 8 := v.2.2.2.1
theorem zGV.t1 {a : zG} (v : zGV a) : 1 ≤ a.thr := v.2.2.2.2.1
theorem zGV.t99 {a : zG} (v : zGV a) : a.thr ≤ 99 := v.2.2.2.2.2.1
theorem zGV.ht {a : zG} (v : zGV a) : ∀ c, a.ht c ≤ 99 := v.2.2.2.2.2.2.1
theorem zGV.rn {a : zG} (v : zGV a) : ∀ c, a.rn c ≤ 9 := v.2.2.2.2.2.2.2.1
theorem zGV.sk {a : zG} (v : zGV a) : ∀ c, a.sk c ≤ 9 := v.2.2.2.2.2.2.2.2.1
theorem zGV.ou {a : zG} (v : zGV a) : ∃ c, c < a.n ∧ a.ou c = true := v.2.2.2.2.2.2.2.2.2.1
theorem zGV.ob {a : zG} (v : zGV a) : ∀ c, a.ou c = true → c < a.n := v.2.2.2.2.2.2.2.2.2.2
theorem zGV.n64 {a : zG} (v : zGV a) : a.n ≤ 64 := Nat.mul_le_mul v.w8 v.h8
theorem zGV.n4 {a : zG} (v : zGV a) : 4 ≤ a.n := Nat.mul_le_mul v.w2 v.h2
theorem zGV.w0 {a : zG} (v : zGV a) : 0 < a.w := by have := v.w2; omega
theorem zGV.row {a : zG} (v : zGV a) {c : Nat} (h : c < a.n) : c / a.w < a.h := Nat.div_lt_of_lt_mul h
/-- class Grid number g holds the grid a -/
def zGR (m : zM) (g : Nat) (a : zG) : Prop :=
  (m.1 6 g 0 = Int32.ofNat a.w) ∧
  (m.1 6 g 1 = Int32.ofNat a.h) ∧
  (m.1 6 g 2 = Int32.ofNat a.thr) ∧
  (∀ c, c < 64 → m.1 20 (3 * g) c = Int32.ofNat (a.ht c)) ∧
  (∀ c, c < 64 → m.1 20 (3 * g + 1) c = Int32.ofNat (a.rn c)) ∧
  (∀ c, c < 64 → m.1 20 (3 * g + 2) c = Int32.ofNat (a.sk c)) ∧
  (∀ c, c < 64 → zb (m.2.1 6 g 3) c = a.ou c)
theorem zGR.w {m : zM} {g : Nat} {a : zG} (v : zGR m g a) : m.1 6 g 0 = Int32.ofNat a.w := v.1
theorem zGR.h {m : zM} {g : Nat} {a : zG} (v : zGR m g a) : m.1 6 g 1 = Int32.ofNat a.h := v.2.1
theorem zGR.thr {m : zM} {g : Nat} {a : zG} (v : zGR m g a) : m.1 6 g 2 = Int32.ofNat a.thr := v.2.2.1
theorem zGR.ht {m : zM} {g : Nat} {a : zG} (v : zGR m g a) : ∀ c, c < 64 → m.1 20 (3 * g) c = Int32.ofNat (a.ht c) := v.2.2.2.1
theorem zGR.rn {m : zM} {g : Nat} {a : zG} (v : zGR m g a) : ∀ c, c < 64 → m.1 20 (3 * g + 1) c = Int32.ofNat (a.rn c) := v.2.2.2.2.1
theorem zGR.sk {m : zM} {g : Nat} {a : zG} (v : zGR m g a) : ∀ c, c < 64 → m.1 20 (3 * g + 2) c = Int32.ofNat (a.sk c) := v.2.2.2.2.2.1
theorem zGR.ou {m : zM} {g : Nat} {a : zG} (v : zGR m g a) : ∀ c, c < 64 → zb (m.2.1 6 g 3) c = a.ou c := v.2.2.2.2.2.2
/-- what of a grid may be changed by nobody -/
def zGp (g : Nat) (k i j : Nat) : Prop := (k = 6 ∧ i = g ∧ j < 4) ∨ (k = 20 ∧ (i = 3 * g ∨ i = 3 * g + 1 ∨ i = 3 * g + 2))
theorem zGR.keep {m m' : zM} {g : Nat} {a : zG} {P : Nat → Nat → Nat → Prop} (r : zGR m g a) (f : zFr P m m') (h : ∀ k i j, zGp g k i j → ¬ P k i j) : zGR m' g a :=
  ⟨by rw [(f 6 g 0 (h _ _ _ (by unfold zGp; omega))).1]; exact r.w,
   by rw [(f 6 g 1 (h _ _ _ (by unfold zGp; omega))).1]; exact r.h,
   by rw [(f 6 g 2 (h _ _ _ (by unfold zGp; omega))).1]; exact r.thr,
   fun c hc => by rw [(f 20 (3 * g) c (h _ _ _ (by unfold zGp; omega))).1]; exact r.ht c hc,
   fun c hc => by rw [(f 20 (3 * g + 1) c (h _ _ _ (by unfold zGp; omega))).1]; exact r.rn c hc,
   fun c hc => by rw [(f 20 (3 * g + 2) c (h _ _ _ (by unfold zGp; omega))).1]; exact r.sk c hc,
   fun c hc => by rw [(f 6 g 3 (h _ _ _ (by unfold zGp; omega))).2.1]; exact r.ou c hc⟩
/-- the neighbour in a direction -/
def zG.nb (a : zG) (c : Nat) : Nat → Option Nat
  | 0 => if a.w ≤ c then some (c - a.w) else none
  | 1 => if c % a.w + 1 < a.w then some (c + 1) else none
  | 2 => if c + a.w < a.n then some (c + a.w) else none
  | _ => if 0 < c % a.w then some (c - 1) else none
def zo : Option Nat → Int32
  | none => -1
  | some e => Int32.ofNat e
section
variable {m : zM} {g : Nat} {a : zG}
theorem s_size (v : zGV a) (r : zGR m g a) : f_X4_size g m = some (Int32.ofNat a.n) := by
  unfold f_X4_size
  rw [r.w, r.h, zi_mul]
  rfl
theorem s_col (v : zGV a) (r : zGR m g a) {c : Nat} (h : c < 2147483648) : f_X4_columnOf g (Int32.ofNat c) m = some (Int32.ofNat (c % a.w)) := by
  have w8 := v.w8
  have w2 := v.w2
  unfold f_X4_columnOf
  rw [r.w, if_neg (by rw [show (0 : Int32) = Int32.ofNat 0 from rfl, zi_le (by omega) (by omega)]; omega), z_gdt (zi_nz (by omega) (by omega)), zi_rem h (by omega)]
theorem s_row (v : zGV a) (r : zGR m g a) {c : Nat} (h : c < 2147483648) : f_X4_rowOf g (Int32.ofNat c) m = some (Int32.ofNat (c / a.w)) := by
  have w8 := v.w8
  have w2 := v.w2
  unfold f_X4_rowOf
  rw [r.w, if_neg (by rw [show (0 : Int32) = Int32.ofNat 0 from rfl, zi_le (by omega) (by omega)]; omega), z_gdt (zi_nz (by omega) (by omega)), zi_div h (by omega)]
theorem s_nb (v : zGV a) (r : zGR m g a) {c d : Nat} (h : c < a.n) (hd : d < 4) : f_X4_neighbor g (Int32.ofNat c) (Int32.ofNat d) m = some (zo (a.nb c d)) := by
  have n64 := v.n64
  have w8 := v.w8
  have w2 := v.w2
  have hm : c % a.w < a.w := Nat.mod_lt _ (by omega)
  have hle : c % a.w ≤ c := Nat.mod_le _ _
  unfold f_X4_neighbor
  have e1 : (1 : Int32) = Int32.ofNat 1 := rfl
  have hd4 : d = 0 ∨ d = 1 ∨ d = 2 ∨ d = 3 := by omega
  rcases hd4 with rfl | rfl | rfl | rfl
  · rw [if_pos (by rfl), r.w]
    unfold zG.nb
    by_cases hq : a.w ≤ c
    · rw [if_neg (by rw [zi_lt (by omega) (by omega)]; omega), if_pos hq, zi_sub hq]
      rfl
    · rw [if_pos (by rw [zi_lt (by omega) (by omega)]; omega), if_neg hq]
      rfl
  · rw [if_neg (by decide), if_pos (by rfl), s_col v r (by omega), Option.bind_some, r.w, e1, zi_sub (by omega), zi_add]
    unfold zG.nb
    by_cases hq : c % a.w + 1 < a.w
    · rw [if_neg (by rw [zi_le (by omega) (by omega)]; omega), if_pos hq]
      rfl
    · rw [if_pos (by rw [zi_le (by omega) (by omega)]; omega), if_neg hq]
      rfl
  · rw [if_neg (by decide), if_neg (by decide), if_pos (by rfl), s_size v r, Option.bind_some, r.w, zi_add]
    unfold zG.nb
    by_cases hq : c + a.w < a.n
    · rw [if_neg (by rw [zi_le (by omega) (by omega)]; omega), if_pos hq]
      rfl
    · rw [if_pos (by rw [zi_le (by omega) (by omega)]; omega), if_neg hq]
      rfl
  · rw [if_neg (by decide), if_neg (by decide), if_neg (by decide), s_col v r (by omega), Option.bind_some]
    unfold zG.nb
    by_cases hq : 0 < c % a.w
    · rw [if_neg (by rw [show (0 : Int32) = Int32.ofNat 0 from rfl, zi_le (by omega) (by omega)]; omega), if_pos hq, e1, zi_sub (by omega)]
      rfl
    · rw [if_pos (by rw [show (0 : Int32) = Int32.ofNat 0 from rfl, zi_le (by omega) (by omega)]; omega), if_neg hq]
      rfl
theorem s_all (v : zGV a) (r : zGR m g a) : ∃ A, f_X4_all g m = some A ∧ ∀ c, c < 64 → zb A c = decide (c < a.n) := by
  have n64 := v.n64
  have n4 := v.n4
  unfold f_X4_all
  rw [s_size v r, Option.bind_some, show (64 : Int32) = Int32.ofNat 64 from rfl, zi_sub n64]
  refine ⟨_, rfl, fun c hc => ?_⟩
  rw [zb_shr _ (by omega)]
  by_cases h : c < a.n
  · rw [zb_m1 _ (by omega)]
    simp [h]
  · rw [zb_big _ (by omega)]
    simp [h]
theorem s_atMost_11 (v : zGV a) (r : zGR m g a) {t : Nat} (ht : t ≤ 99) : ∀ (j c : Nat) (x : Int64), c ≤ a.n → a.n - c < j → (∀ d, d < 64 → zb x d = decide (d < c ∧ a.ht d ≤ t)) → ∃ S, f_X4_atMost_11 g m j (Int32.ofNat t) x (Int32.ofNat a.n) (Int32.ofNat c) = some S ∧ ∀ d, d < 64 → zb S d = decide (d < a.n ∧ a.ht d ≤ t)
  | 0, _, _, _, h, _ => absurd h (Nat.not_lt_zero _)
  | j + 1, c, x, hc, h, hx => by
    have n64 := v.n64
    unfold f_X4_atMost_11
    by_cases he : c = a.n
    · rw [if_pos (by rw [zi_le (by omega) (by omega)]; omega)]
      exact ⟨x, rfl, he ▸ hx⟩
    · have hc' : c < 64 := by omega
      have hh := v.ht c
      rw [if_neg (by rw [zi_le (by omega) (by omega)]; omega), s_at' 20 _ hc', Option.bind_some, r.ht c hc', show (1 : Int32) = Int32.ofNat 1 from rfl, zi_add]
      by_cases hq : a.ht c ≤ t
      · rw [if_neg (by rw [zi_lt (by omega) (by omega)]; omega)]
        refine s_atMost_11 v r ht j (c + 1) _ (by omega) (by omega) fun d hd => ?_
        rw [zb_or, hx d hd, zb_one hc' hd]
        by_cases h1 : d = c
        · subst h1
          simp [hq]
        · have : d < c + 1 ↔ d < c := by omega
          simp [h1, this]
      · rw [if_pos (by rw [zi_lt (by omega) (by omega)]; omega)]
        refine s_atMost_11 v r ht j (c + 1) _ (by omega) (by omega) fun d hd => ?_
        rw [hx d hd]
        by_cases h1 : d = c
        · subst h1
          simp [hq]
        · have : d < c + 1 ↔ d < c := by omega
          simp [this]
theorem s_atMost (v : zGV a) (r : zGR m g a) {t : Nat} (ht : t ≤ 99) : ∃ S, f_X4_atMost g (Int32.ofNat t) m = some S ∧ ∀ d, d < 64 → zb S d = decide (d < a.n ∧ a.ht d ≤ t) := by
  have n64 := v.n64
  unfold f_X4_atMost
  rw [s_size v r, Option.bind_some]
  refine s_atMost_11 v r ht zF 0 0 (Nat.zero_le _) (Nat.lt_of_lt_of_le (by omega : a.n - 0 < 65) (zF_ge (by decide))) fun d _ => ?_
  rw [zb_0]
  simp
theorem s_column_5 (v : zGV a) (r : zGR m g a) {x : Nat} (hx : x < a.w) : ∀ (j y : Nat) (s : Int64), y ≤ a.h → a.h - y < j → (∀ d, d < 64 → zb s d = decide (d / a.w < y ∧ d % a.w = x)) → ∃ S, f_X4_column_5 g m j (Int32.ofNat x) s (Int32.ofNat y) = some S ∧ ∀ d, d < 64 → zb S d = decide (d / a.w < a.h ∧ d % a.w = x)
  | 0, _, _, _, h, _ => absurd h (Nat.not_lt_zero _)
  | j + 1, y, s, hy, h, hs => by
    have w8 := v.w8
    have h8 := v.h8
    unfold f_X4_column_5
    rw [r.h, r.w]
    by_cases he : y = a.h
    · rw [if_pos (by rw [zi_le (by omega) (by omega)]; omega)]
      exact ⟨s, rfl, he ▸ hs⟩
    · have hl : y * a.w + x < 64 := by
        have h1 : (y + 1) * a.w ≤ 8 * 8 := Nat.mul_le_mul (by omega) w8
        rw [Nat.add_mul] at h1
        omega
      rw [if_neg (by rw [zi_le (by omega) (by omega)]; omega), zi_mul, zi_add, show (1 : Int32) = Int32.ofNat 1 from rfl, zi_add]
      refine s_column_5 v r hx j (y + 1) _ (by omega) (by omega) fun d hd => ?_
      rw [zb_or, hs d hd, zb_one hl hd]
      have hdm := Nat.div_add_mod d a.w
      by_cases h1 : d = y * a.w + x
      · have e1 : d / a.w = y := by
          rw [h1, Nat.mul_comm, Nat.mul_add_div (by omega), Nat.div_eq_of_lt hx]
          omega
        have e2 : d % a.w = x := by
          rw [h1, Nat.mul_comm, Nat.mul_add_mod, Nat.mod_eq_of_lt hx]
        rw [e1, e2, h1]
        simp
      · have h2 : ¬ (d / a.w = y ∧ d % a.w = x) := by
          rintro ⟨q1, q2⟩
          rw [q1, q2, Nat.mul_comm] at hdm
          exact h1 hdm.symm
        have h3 : (d / a.w < y + 1 ∧ d % a.w = x) ↔ (d / a.w < y ∧ d % a.w = x) := by omega
        simp only [h1, h3, decide_false, Bool.or_false]
theorem s_column (v : zGV a) (r : zGR m g a) {x : Nat} (hx : x < a.w) : ∃ S, f_X4_column g (Int32.ofNat x) m = some S ∧ ∀ d, d < 64 → zb S d = decide (d / a.w < a.h ∧ d % a.w = x) := by
  have h8 := v.h8
  unfold f_X4_column
  refine s_column_5 v r hx zF 0 0 (Nat.zero_le _) (Nat.lt_of_lt_of_le (by omega : a.h - 0 < 65) (zF_ge (by decide))) fun d _ => ?_
  rw [zb_0]
  simp
end
