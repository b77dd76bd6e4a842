/-! Rows of numbers and sets of cells. -/
theorem zl_alen (k : Nat) : z_alen k ≤ 6400 := by
  unfold z_alen
  split <;> decide
def zb (x : Int64) (c : Nat) : Bool := x.toBitVec.getLsbD c
theorem s_at (k i : Nat) {c : Nat} (h : c < 2147483648) (m : zM) : f_X7_at k i (Int32.ofNat c) m = some (if c < z_alen k then m.1 k i c else 0) := by
  unfold f_X7_at
  have hl := zl_alen k
  rw [if_neg (zi_nn h), zi_nat h, zi_inb h]
  by_cases hc : c < z_alen k
  · rw [if_neg (by rw [zi_le (by omega) h]; omega), if_pos hc, z_gdt (by simpa using hc)]
  · rw [if_pos (by rw [zi_le (by omega) h]; omega), if_neg hc]
theorem s_atn (k i : Nat) {x : Int32} (h : x < 0) (m : zM) : f_X7_at k i x m = some 0 := by
  unfold f_X7_at
  rw [if_pos h]
theorem s_at' (k i : Nat) {c : Nat} (h : c < z_alen k) (m : zM) : f_X7_at k i (Int32.ofNat c) m = some (m.1 k i c) := by
  have hl := zl_alen k
  rw [s_at k i (by omega), if_pos h]
theorem s_al (k i : Nat) {c : Nat} (h : c < z_alen k) (m : zM) : f_X7_at_ k i (Int32.ofNat c) m = some (m.2.1 k i c) := by
  have hl := zl_alen k
  have h2 : c < 2147483648 := by omega
  unfold f_X7_at_
  rw [if_neg (zi_nn h2), zi_nat h2, zi_inb h2, if_neg (by rw [zi_le (by omega) h2]; omega), z_gdt (by simpa using h)]
theorem s_put (k i : Nat) {c : Nat} (h : c < z_alen k) (v : Int32) (m : zM) : f_X7_put k i (Int32.ofNat c) v m = some (z_sI m k i c v) := by
  have hl := zl_alen k
  have h2 : c < 2147483648 := by omega
  unfold f_X7_put
  rw [if_neg (zi_nn h2), zi_nat h2, zi_inb h2, if_neg (by rw [zi_le (by omega) h2]; omega), z_gdt (by simpa using h)]
theorem s_putn (k i : Nat) {x : Int32} (h : x < 0) (v : Int32) (m : zM) : f_X7_put k i x v m = some m := by
  unfold f_X7_put
  rw [if_pos h]
theorem s_putl (k i : Nat) {c : Nat} (h : c < z_alen k) (v : Int64) (m : zM) : f_X7_put_ k i (Int32.ofNat c) v m = some (z_sL m k i c v) := by
  have hl := zl_alen k
  have h2 : c < 2147483648 := by omega
  unfold f_X7_put_
  rw [if_neg (zi_nn h2), zi_nat h2, zi_inb h2, if_neg (by rw [zi_le (by omega) h2]; omega), z_gdt (by simpa using h)]
theorem s_add (k i : Nat) {c : Nat} (h : c < z_alen k) (v : Int32) (m : zM) : f_X7_add k i (Int32.ofNat c) v m = some (z_sI m k i c (m.1 k i c + v)) := by
  have hl := zl_alen k
  have h2 : c < 2147483648 := by omega
  unfold f_X7_add
  rw [if_neg (zi_nn h2), zi_nat h2, zi_inb h2, if_neg (by rw [zi_le (by omega) h2]; omega), z_gdt (by simpa using h)]
  try rw [z_gdt (by simpa using h)]
theorem s_addn (k i : Nat) {x : Int32} (h : x < 0) (v : Int32) (m : zM) : f_X7_add k i x v m = some m := by
  unfold f_X7_add
  rw [if_pos h]
theorem zb_lcmp (x : Int64) : lg_cmp x 0 = 0 ↔ x = 0 := by
  unfold lg_cmp
  by_cases h : (0 : Int64) < x
  · have h2 : ¬ x = 0 := by
      intro e
      rw [e] at h
      exact absurd h (by decide)
    simp [h, h2]
  · by_cases h2 : x = 0
    · subst h2
      decide
    · simp [h, h2]
theorem zb_sh : ∀ c, c < 64 → ((Int32.ofNat c).toInt64.toUInt64 &&& Int64.toUInt64 63).toBitVec % 64 = BitVec.ofNat 64 c := by decide +kernel
theorem zb_ushr (x : Int64) {c : Nat} (h : c < 64) : (z_ushr x (Int32.ofNat c)).toBitVec = x.toBitVec >>> c := by
  unfold z_ushr
  show (x.toUInt64 >>> ((Int32.ofNat c).toInt64.toUInt64 &&& Int64.toUInt64 63)).toBitVec = _
  rw [UInt64.toBitVec_shiftRight]
  rw [zb_sh c h]
  show x.toBitVec >>> (BitVec.ofNat 64 c) = _
  rw [BitVec.ushiftRight_eq', BitVec.toNat_ofNat, Nat.mod_eq_of_lt (by omega)]
theorem zb_low (y : Int64) : (y &&& 1) = 0 ↔ zb y 0 = false := by
  unfold zb
  constructor
  · intro h
    have := congrArg (fun q : Int64 => q.toBitVec.getLsbD 0) h
    simpa using this
  · intro h
    apply Int64.toBitVec_inj.mp
    apply BitVec.eq_of_getLsbD_eq
    intro i hi
    rw [Int64.toBitVec_and, BitVec.getLsbD_and]
    by_cases h0 : i = 0
    · subst h0
      rw [h]
      rfl
    · have : (1 : Int64).toBitVec.getLsbD i = false := by
        show (1#64).getLsbD i = false
        rw [BitVec.getLsbD_one]
        simp [h0]
      rw [this]
      simp
theorem s_has (x : Int64) {c : Nat} (h : c < 64) (m : zM) : f_X7_has x (Int32.ofNat c) m = some (zb x c) := by
  unfold f_X7_has
  have h2 : c < 2147483648 := by omega
  rw [if_neg (zi_nn h2), if_neg (by rw [show (64 : Int32) = Int32.ofNat 64 from rfl, zi_le (by decide) h2]; omega)]
  have e : (lg_cmp (z_ushr x (Int32.ofNat c) &&& 1) 0 = 0) ↔ zb x c = false := by
    rw [zb_lcmp, zb_low]
    unfold zb
    rw [zb_ushr x h, BitVec.getLsbD_ushiftRight]
    simp
  by_cases hb : zb x c = false
  · rw [if_pos (e.mpr hb), hb]
  · rw [if_neg (mt e.mp hb)]
    simp at hb
    rw [hb]
theorem s_hasn (x : Int64) {y : Int32} (h : y < 0) (m : zM) : f_X7_has x y m = some false := by
  unfold f_X7_has
  rw [if_pos h]
