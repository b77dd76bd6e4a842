/-! The reference's grid, and its levels. -/
def zMR (f : Nat → Int32) (a : zG) : Prop := f 0 = Int32.ofNat a.w ∧ f 1 = Int32.ofNat a.h ∧ f 2 = Int32.ofNat a.thr ∧ (∀ c, c < 64 → f (3 + c) = Int32.ofNat (a.ht c)) ∧ (∀ c, c < 64 → f (67 + c) = Int32.ofNat (a.rn c)) ∧ (∀ c, c < 64 → f (131 + c) = Int32.ofNat (a.sk c)) ∧ ∀ c, c < 64 → f (195 + c) = if a.ou c = true then 1 else 0
theorem z_c0 : Int32.toNatClampNeg (0 : Int32) = 0 := rfl
theorem z_c1 : Int32.toNatClampNeg (1 : Int32) = 1 := rfl
theorem z_c2n : Int32.toNatClampNeg (2 : Int32) = 2 := rfl
theorem z_i0 : z_inb (0 : Int32) (z_alen 23) = true := by decide
theorem z_i1 : z_inb (1 : Int32) (z_alen 23) = true := by decide
theorem z_i2 : z_inb (2 : Int32) (z_alen 23) = true := by decide
theorem z_max {x y : Nat} (hx : x < 2147483648) (hy : y < 2147483648) (m : zM) : f_J9_max_7cf53 (Int32.ofNat x) (Int32.ofNat y) m = some (Int32.ofNat (max x y)) := by
  unfold f_J9_max_7cf53
  by_cases h : x < y
  · rw [if_pos (by rw [zi_lt hx hy]; exact h), Nat.max_eq_right (by omega)]
  · rw [if_neg (by rw [zi_lt hx hy]; exact h), Nat.max_eq_left (by omega)]
theorem z_min {x y : Nat} (hx : x < 2147483648) (hy : y < 2147483648) (m : zM) : f_J9_min_7cf53 (Int32.ofNat x) (Int32.ofNat y) m = some (Int32.ofNat (min x y)) := by
  unfold f_J9_min_7cf53
  by_cases h : y < x
  · rw [if_pos (by rw [zi_lt hy hx]; exact h), Nat.min_eq_right (by omega)]
  · rw [if_neg (by rw [zi_lt hy hx]; exact h), Nat.min_eq_left (by omega)]
theorem zG.nb_sym {a : zG} (v : zGV a) {c d e : Nat} (h : c < a.n) (hn : a.nb c d = some e) : ∃ d', d' < 4 ∧ a.nb e d' = some c := by
  have w2 := v.w2
  have hdm := Nat.div_add_mod c a.w
  have hml := Nat.mod_lt c v.w0
  unfold zG.nb at hn
  split at hn
  · split at hn
    · cases hn
      refine ⟨2, by omega, ?_⟩
      show (if c - a.w + a.w < a.n then some (c - a.w + a.w) else none) = _
      rw [if_pos (by omega)]
      congr 1
      omega
    · cases hn
  · split at hn
    · rename_i hq
      cases hn
      refine ⟨3, by omega, ?_⟩
      have e : (c + 1) % a.w = c % a.w + 1 := by
        rw [show c + 1 = a.w * (c / a.w) + (c % a.w + 1) by omega, Nat.mul_add_mod, Nat.mod_eq_of_lt hq]
      show (if 0 < (c + 1) % a.w then some (c + 1 - 1) else none) = _
      rw [if_pos (by omega)]
      rfl
    · cases hn
  · split at hn
    · cases hn
      refine ⟨0, by omega, ?_⟩
      show (if a.w ≤ c + a.w then some (c + a.w - a.w) else none) = _
      rw [if_pos (by omega)]
      congr 1
      omega
    · cases hn
  · split at hn
    · rename_i hq
      cases hn
      refine ⟨1, by omega, ?_⟩
      have hle := Nat.mod_le c a.w
      have e : (c - 1) % a.w = c % a.w - 1 := by
        rw [show c - 1 = a.w * (c / a.w) + (c % a.w - 1) by omega, Nat.mul_add_mod, Nat.mod_eq_of_lt (by omega)]
      show (if (c - 1) % a.w + 1 < a.w then some (c - 1 + 1) else none) = _
      rw [if_pos (by omega)]
      congr 1
      omega
    · cases hn
section
variable {m : zM} {a : zG}
theorem s_mcells (r : zMR (m.1 23 0) a) : f_X12_cells m = some (Int32.ofNat a.n) := by
  unfold f_X12_cells
  rw [z_gdt z_i0, z_gdt z_i1, z_c0, z_c1, r.1, r.2.1, zi_mul]
  rfl
theorem s_mheight (r : zMR (m.1 23 0) a) {c : Nat} (h : c < 64) : f_X12_height (Int32.ofNat c) m = some (Int32.ofNat (a.ht c)) := by
  unfold f_X12_height
  rw [show (3 : Int32) = Int32.ofNat 3 from rfl, zi_add, zi_inb (by omega), z_gdt (by simp [z_alen]; omega), zi_nat (by omega), r.2.2.2.1 c h]
theorem s_mout (r : zMR (m.1 23 0) a) {c : Nat} (h : c < 64) : f_X12_isOutlet (Int32.ofNat c) m = some (a.ou c) := by
  unfold f_X12_isOutlet
  rw [show (195 : Int32) = Int32.ofNat 195 from rfl, zi_add, zi_inb (by omega), z_gdt (by simp [z_alen]; omega), zi_nat (by omega), r.2.2.2.2.2.2 c h]
  cases a.ou c <;> decide
theorem s_next (v : zGV a) (r : zMR (m.1 23 0) a) {c d : Nat} (h : c < a.n) (hd : d < 4) : f_X12_next (Int32.ofNat c) (Int32.ofNat d) m = some (zo (a.nb c d)) := by
  have n64 := v.n64
  have w8 := v.w8
  have w2 := v.w2
  have h8 := v.h8
  have hm : c % a.w < a.w := Nat.mod_lt _ (by omega)
  have hle : c % a.w ≤ c := Nat.mod_le _ _
  have hdl : c / a.w ≤ c := Nat.div_le_self _ _
  have hdm := Nat.div_add_mod c a.w
  unfold f_X12_next
  rw [z_gdt z_i0, z_c0, r.1, z_gdt (zi_nz (by omega) (by omega)), zi_div (by omega) (by omega), zi_rem (by omega) (by omega), z_gdt z_i0, z_gdt z_i0, z_gdt z_i1, z_c1, r.2.1, z_gdt z_i0, show (1 : Int32) = Int32.ofNat 1 from rfl, zi_add, zi_add, zi_add, zi_add]
  have z0 : (0 : Int32) = Int32.ofNat 0 := rfl
  have hd4 : d = 0 ∨ d = 1 ∨ d = 2 ∨ d = 3 := by omega
  rcases hd4 with rfl | rfl | rfl | rfl
  · rw [if_pos (by rfl)]
    unfold zG.nb
    by_cases hq : a.w ≤ c
    · have : 0 < c / a.w := Nat.div_pos hq (by omega)
      rw [if_neg (by rw [z0, zi_le (by omega) (by omega)]; omega), if_pos hq, zi_sub hq]
      rfl
    · have : c / a.w = 0 := Nat.div_eq_of_lt (by omega)
      rw [if_pos (by rw [z0, zi_le (by omega) (by omega)]; omega), if_neg hq]
      rfl
  · rw [if_neg (by decide), if_pos (by rfl)]
    unfold zG.nb
    by_cases hq : c % a.w + 1 < a.w
    · rw [if_neg (by rw [zi_le (by omega) (by omega)]; omega), if_pos hq]
      rfl
    · rw [if_pos (by rw [zi_le (by omega) (by omega)]; omega), if_neg hq]
      rfl
  · rw [if_neg (by decide), if_neg (by decide), if_pos (by rfl)]
    unfold zG.nb
    have hiff : c + a.w < a.n ↔ c / a.w + 1 < a.h := by
      constructor
      · intro q
        have := v.row q
        rwa [Nat.add_div_right _ v.w0] at this
      · intro q
        have h1 : a.w * (c / a.w + 1 + 1) ≤ a.w * a.h := Nat.mul_le_mul (Nat.le_refl _) q
        rw [Nat.mul_add, Nat.mul_add] at h1
        show c + a.w < a.w * a.h
        omega
    by_cases hq : c + a.w < a.n
    · have := hiff.mp hq
      rw [if_neg (by rw [zi_le (by omega) (by omega)]; omega), if_pos hq]
      rfl
    · have := mt hiff.mpr hq
      rw [if_pos (by rw [zi_le (by omega) (by omega)]; omega), if_neg hq]
      rfl
  · rw [if_neg (by decide), if_neg (by decide), if_neg (by decide)]
    unfold zG.nb
    by_cases hq : 0 < c % a.w
    · rw [if_neg (by rw [z0, zi_le (by omega) (by omega)]; omega), if_pos hq, zi_sub (by omega)]
      rfl
    · rw [if_pos (by rw [z0, zi_le (by omega) (by omega)]; omega), if_neg hq]
      rfl
end
def z_tot (L : Nat → Nat) : Nat → Nat
  | 0 => 0
  | n + 1 => z_tot L n + L n
theorem z_tot_le {L L' : Nat → Nat} : ∀ {n : Nat}, (∀ c, c < n → L' c ≤ L c) → z_tot L' n ≤ z_tot L n
  | 0, _ => Nat.le_refl _
  | n + 1, h => by
    have h1 := z_tot_le (n := n) fun c hc => h c (by omega)
    have h2 := h n (by omega)
    unfold z_tot
    omega
theorem z_tot_lt {L L' : Nat → Nat} : ∀ {n c : Nat}, (∀ c, c < n → L' c ≤ L c) → c < n → L' c < L c → z_tot L' n < z_tot L n
  | 0, _, _, h, _ => absurd h (Nat.not_lt_zero _)
  | n + 1, c, h, hc, h1 => by
    unfold z_tot
    have h3 := h n (by omega)
    by_cases he : c = n
    · subst he
      have := z_tot_le (n := c) fun x hx => h x (by omega)
      omega
    · have := z_tot_lt (n := n) (fun x hx => h x (by omega)) (by omega) h1
      omega
theorem z_tot_b {L : Nat → Nat} {b : Nat} : ∀ {n : Nat}, (∀ c, c < n → L c ≤ b) → z_tot L n ≤ n * b
  | 0, _ => Nat.zero_le _
  | n + 1, h => by
    have h1 := z_tot_b (n := n) fun c hc => h c (by omega)
    have h2 := h n (by omega)
    unfold z_tot
    rw [Nat.add_mul]
    omega
