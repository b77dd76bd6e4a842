/-! Sets of cells, bit by bit. -/
theorem zb_or (x y : Int64) (c : Nat) : zb (x ||| y) c = (zb x c || zb y c) := by unfold zb; rw [Int64.toBitVec_or, BitVec.getLsbD_or]
theorem zb_and (x y : Int64) (c : Nat) : zb (x &&& y) c = (zb x c && zb y c) := by unfold zb; rw [Int64.toBitVec_and, BitVec.getLsbD_and]
theorem zb_m1 : ∀ c, c < 64 → zb (-1) c = true := by unfold zb; decide +kernel
theorem zb_not (x : Int64) {c : Nat} (h : c < 64) : zb (x ^^^ (-1)) c = !zb x c := by
  have := zb_m1 c h
  unfold zb at this ⊢
  rw [Int64.toBitVec_xor, BitVec.getLsbD_xor, this]
  simp
theorem zb_0 (c : Nat) : zb 0 c = false := BitVec.getLsbD_zero
theorem zb_big (x : Int64) {c : Nat} (h : 64 ≤ c) : zb x c = false := BitVec.getLsbD_of_ge _ _ h
theorem zb_ext {x y : Int64} (h : ∀ c, c < 64 → zb x c = zb y c) : x = y := Int64.toBitVec_inj.mp (BitVec.eq_of_getLsbD_eq h)
theorem zb_shr (x : Int64) {s : Nat} (hs : s < 64) (c : Nat) : zb (z_ushr x (Int32.ofNat s)) c = zb x (s + c) := by
  unfold zb
  rw [zb_ushr x hs, BitVec.getLsbD_ushiftRight]
theorem zb_sl : ∀ s, s < 64 → ((Int32.ofNat s).toInt64 &&& 63).toBitVec.smod 64 = BitVec.ofNat 64 s := by decide +kernel
theorem zb_shl (x : Int64) {s : Nat} (hs : s < 64) {c : Nat} (hc : c < 64) : zb (z_shl x (Int32.ofNat s)) c = (decide (s ≤ c) && zb x (c - s)) := by
  unfold zb z_shl
  rw [Int64.toBitVec_shiftLeft, zb_sl s hs, BitVec.shiftLeft_eq', BitVec.toNat_ofNat, Nat.mod_eq_of_lt (by omega), BitVec.getLsbD_shiftLeft]
  by_cases h : s ≤ c
  · simp [h, hc, Nat.not_lt.mpr h]
  · simp [h, Nat.not_le.mp h]
theorem zb_1 (c : Nat) : zb 1 c = decide (c = 0) := by
  show (1#64).getLsbD c = _
  rw [BitVec.getLsbD_one]
  simp
theorem zb_one {s : Nat} (hs : s < 64) {c : Nat} (hc : c < 64) : zb (z_shl 1 (Int32.ofNat s)) c = decide (c = s) := by
  rw [zb_shl 1 hs hc, zb_1]
  by_cases h : s ≤ c
  · by_cases h2 : c = s
    · subst h2
      simp
    · have : ¬ c - s = 0 := by omega
      simp [h, h2, this]
  · have : ¬ c = s := by omega
    simp [h, this]
theorem zb_lc (x y : Int64) : lg_cmp x y = 0 ↔ x = y := by
  unfold lg_cmp
  by_cases h : y < x
  · have h2 : ¬ x = y := by
      intro e
      rw [e] at h
      rw [Int64.lt_iff_toInt_lt] at h
      omega
    simp [h, h2]
  · by_cases h2 : x = y
    · simp [h2]
      try decide
    · simp [h, h2]
theorem zF_ge {n : Nat} (h : n ≤ 1099511627776) : n ≤ zF := Nat.le_trans h (by have := zF_big; omega)
/-- a row filled -/
def zm_fill (m : zM) (k i n : Nat) (v : Int32) : zM := (fun a b c => if a = k ∧ b = i ∧ c < n then v else m.1 a b c, m.2)
theorem s_fill_5 (k i : Nat) (v : Int32) : ∀ (j c : Nat) (m : zM), c ≤ z_alen k → z_alen k - c < j → f_J7_fill_53178_5 k i j v (Int32.ofNat c) (Int32.ofNat (z_alen k)) (zm_fill m k i c v) = some (zm_fill m k i (z_alen k) v)
  | 0, _, _, _, h => absurd h (Nat.not_lt_zero _)
  | j + 1, c, m, hc, h => by
    have hl := zl_alen k
    unfold f_J7_fill_53178_5
    by_cases he : c = z_alen k
    · rw [if_pos (by rw [zi_le (by omega) (by omega)]; omega), he]
    · rw [if_neg (by rw [zi_le (by omega) (by omega)]; omega), zi_inb (by omega), z_gdt (by simp; omega), zi_nat (by omega), show (1 : Int32) = Int32.ofNat 1 from rfl, zi_add]
      have e : z_sI (zm_fill m k i c v) k i c v = zm_fill m k i (c + 1) v := by
        unfold z_sI zm_fill
        congr 1
        funext a b d
        by_cases h1 : a = k ∧ b = i
        · obtain ⟨rfl, rfl⟩ := h1
          by_cases h2 : d = c
          · subst h2
            simp
          · have : d < c ↔ d < c + 1 := by omega
            simp [h2, this]
        · have h3 : ¬ (a = k ∧ b = i ∧ d = c) := fun q => h1 ⟨q.1, q.2.1⟩
          have h4 : ¬ (a = k ∧ b = i ∧ d < c) := fun q => h1 ⟨q.1, q.2.1⟩
          have h5 : ¬ (a = k ∧ b = i ∧ d < c + 1) := fun q => h1 ⟨q.1, q.2.1⟩
          simp only [h3, h4, h5, if_false]
      rw [e]
      exact s_fill_5 k i v j (c + 1) m (by omega) (by omega)
theorem s_fill (k i : Nat) (v : Int32) (m : zM) : f_J7_fill_53178 k i v m = some (zm_fill m k i (z_alen k) v) := by
  unfold f_J7_fill_53178
  have hl := zl_alen k
  have h := s_fill_5 k i v zF 0 m (Nat.zero_le _) (Nat.lt_of_lt_of_le (by omega : z_alen k - 0 < 6401) (zF_ge (by decide)))
  have e : zm_fill m k i 0 v = m := by
    unfold zm_fill
    simp
  rw [e] at h
  exact h
/-- a row copied -/
def zm_copy (m : zM) (k i k1 i1 n : Nat) : zM := (fun a b c => if a = k1 ∧ b = i1 ∧ c < n then m.1 k i c else m.1 a b c, m.2)
theorem s_copy_2 (k i k1 i1 : Nat) (hk : z_alen k = z_alen k1) (hd : ¬ (k = k1 ∧ i = i1)) : ∀ (j c : Nat) (m : zM), c ≤ z_alen k → z_alen k - c < j → f_X7_copy_2 k i k1 i1 j (Int32.ofNat c) (zm_copy m k i k1 i1 c) = some (zm_copy m k i k1 i1 (z_alen k))
  | 0, _, _, _, h => absurd h (Nat.not_lt_zero _)
  | j + 1, c, m, hc, h => by
    have hl := zl_alen k
    unfold f_X7_copy_2
    by_cases he : c = z_alen k
    · rw [if_pos (by rw [zi_le (by omega) (by omega)]; omega), he]
    · rw [if_neg (by rw [zi_le (by omega) (by omega)]; omega), if_neg (by rw [zi_le (by omega) (by omega)]; omega), zi_inb (by omega), z_gdt (by simp; omega), zi_inb (by omega), z_gdt (by simp; omega), zi_nat (by omega), show (1 : Int32) = Int32.ofNat 1 from rfl, zi_add]
      have e : z_sI (zm_copy m k i k1 i1 c) k1 i1 c ((zm_copy m k i k1 i1 c).1 k i c) = zm_copy m k i k1 i1 (c + 1) := by
        unfold z_sI zm_copy
        congr 1
        funext a b d
        have h0 : ¬ (k = k1 ∧ i = i1 ∧ c < c) := fun q => hd ⟨q.1, q.2.1⟩
        simp only [h0, if_false]
        by_cases h1 : a = k1 ∧ b = i1
        · obtain ⟨rfl, rfl⟩ := h1
          by_cases h2 : d = c
          · subst h2
            simp
          · have : d < c ↔ d < c + 1 := by omega
            simp [h2, this]
        · have h3 : ¬ (a = k1 ∧ b = i1 ∧ d = c) := fun q => h1 ⟨q.1, q.2.1⟩
          have h4 : ¬ (a = k1 ∧ b = i1 ∧ d < c) := fun q => h1 ⟨q.1, q.2.1⟩
          have h5 : ¬ (a = k1 ∧ b = i1 ∧ d < c + 1) := fun q => h1 ⟨q.1, q.2.1⟩
          simp only [h3, h4, h5, if_false]
      rw [e]
      exact s_copy_2 k i k1 i1 hk hd j (c + 1) m (by omega) (by omega)
theorem s_copy (k i k1 i1 : Nat) (hk : z_alen k = z_alen k1) (hd : ¬ (k = k1 ∧ i = i1)) (m : zM) : f_X7_copy k i k1 i1 m = some (zm_copy m k i k1 i1 (z_alen k)) := by
  unfold f_X7_copy
  have hl := zl_alen k
  have h := s_copy_2 k i k1 i1 hk hd zF 0 m (Nat.zero_le _) (Nat.lt_of_lt_of_le (by omega : z_alen k - 0 < 6401) (zF_ge (by decide)))
  have e : zm_copy m k i k1 i1 0 = m := by
    unfold zm_copy
    simp
  rw [e] at h
  exact h
/-- sums over a set -/
def z_sum (f : Nat → Nat) (S : Nat → Bool) : Nat → Nat
  | 0 => 0
  | n + 1 => z_sum f S n + (if S n then f n else 0)
def z_grt (f : Nat → Nat) (S : Nat → Bool) : Nat → Nat
  | 0 => 0
  | n + 1 => if S n then max (z_grt f S n) (f n) else z_grt f S n
theorem s_sum_5 (i : Nat) (m : zM) (x : Int64) (f : Nat → Nat) (hf : ∀ c, c < 64 → zb x c = true → m.1 20 i c = Int32.ofNat (f c)) : ∀ (j c : Nat), c ≤ 64 → 64 - c < j → f_X7_sum_5 20 i m j x (Int32.ofNat (z_sum f (zb x) c)) (Int32.ofNat c) = some (Int32.ofNat (z_sum f (zb x) 64))
  | 0, _, _, h => absurd h (Nat.not_lt_zero _)
  | j + 1, c, hc, h => by
    unfold f_X7_sum_5
    rw [show z_alen 20 = 64 from rfl]
    by_cases he : c = 64
    · rw [if_pos (by rw [zi_le (by omega) (by omega)]; omega), he]
    · have hc' : c < 64 := by omega
      rw [if_neg (by rw [zi_le (by omega) (by omega)]; omega), s_has x hc', Option.bind_some, show (1 : Int32) = Int32.ofNat 1 from rfl, zi_add, zi_inb (by omega), zi_nat (by omega)]
      have ih := s_sum_5 i m x f hf j (c + 1) (by omega) (by omega)
      cases hb : zb x c with
      | false =>
        rw [if_pos (by decide)]
        rw [show z_sum f (zb x) (c + 1) = z_sum f (zb x) c by simp [z_sum, hb]] at ih
        exact ih
      | true =>
        rw [if_neg (by decide), z_gdt (by simp; omega), hf c hc' hb, zi_add]
        rw [show z_sum f (zb x) (c + 1) = z_sum f (zb x) c + f c by simp [z_sum, hb]] at ih
        exact ih
theorem s_sum (i : Nat) (m : zM) (x : Int64) (f : Nat → Nat) (hf : ∀ c, c < 64 → zb x c = true → m.1 20 i c = Int32.ofNat (f c)) : f_X7_sum 20 i x m = some (Int32.ofNat (z_sum f (zb x) 64)) :=
  s_sum_5 i m x f hf zF 0 (by omega) (Nat.lt_of_lt_of_le (by omega : 64 - 0 < 65) (zF_ge (by decide)))
theorem z_grt_le {f : Nat → Nat} {S : Nat → Bool} {b : Nat} (h : ∀ c, S c = true → f c ≤ b) : ∀ n, z_grt f S n ≤ b
  | 0 => Nat.zero_le _
  | n + 1 => by
    have := z_grt_le h n
    unfold z_grt
    split
    · rename_i hs
      have := h n hs
      omega
    · exact this
theorem s_greatest_5 (i : Nat) (m : zM) (x : Int64) (f : Nat → Nat) (hf : ∀ c, c < 64 → zb x c = true → m.1 20 i c = Int32.ofNat (f c)) (hb : ∀ c, zb x c = true → f c ≤ 1000000000) : ∀ (j c : Nat), c ≤ 64 → 64 - c < j → f_X7_greatest_5 20 i m j x (Int32.ofNat (z_grt f (zb x) c)) (Int32.ofNat c) = some (Int32.ofNat (z_grt f (zb x) 64))
  | 0, _, _, h => absurd h (Nat.not_lt_zero _)
  | j + 1, c, hc, h => by
    unfold f_X7_greatest_5
    rw [show z_alen 20 = 64 from rfl]
    by_cases he : c = 64
    · rw [if_pos (by rw [zi_le (by omega) (by omega)]; omega), he]
    · have hc' : c < 64 := by omega
      rw [if_neg (by rw [zi_le (by omega) (by omega)]; omega), s_has x hc', Option.bind_some, show (1 : Int32) = Int32.ofNat 1 from rfl, zi_add, zi_inb (by omega), zi_nat (by omega)]
      have ih := s_greatest_5 i m x f hf hb j (c + 1) (by omega) (by omega)
      have hg := z_grt_le hb c
      cases hbc : zb x c with
      | false =>
        rw [if_pos (by decide)]
        rw [show z_grt f (zb x) (c + 1) = z_grt f (zb x) c by simp [z_grt, hbc]] at ih
        exact ih
      | true =>
        have hfc := hb c hbc
        rw [if_neg (by decide), z_gdt (by simp; omega), z_gdt (by simp; omega), hf c hc' hbc]
        rw [show z_grt f (zb x) (c + 1) = max (z_grt f (zb x) c) (f c) by simp [z_grt, hbc]] at ih
        by_cases hq : f c ≤ z_grt f (zb x) c
        · rw [if_pos (by rw [zi_le (by omega) (by omega)]; exact hq)]
          rw [Nat.max_eq_left hq] at ih
          exact ih
        · rw [if_neg (by rw [zi_le (by omega) (by omega)]; exact hq)]
          rw [Nat.max_eq_right (by omega)] at ih
          exact ih
theorem s_greatest (i : Nat) (m : zM) (x : Int64) (f : Nat → Nat) (hf : ∀ c, c < 64 → zb x c = true → m.1 20 i c = Int32.ofNat (f c)) (hb : ∀ c, zb x c = true → f c ≤ 1000000000) : f_X7_greatest 20 i x m = some (Int32.ofNat (z_grt f (zb x) 64)) :=
  s_greatest_5 i m x f hf hb zF 0 (by omega) (Nat.lt_of_lt_of_le (by omega : 64 - 0 < 65) (zF_ge (by decide)))
