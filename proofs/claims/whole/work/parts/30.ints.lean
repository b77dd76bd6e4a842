/-! Numbers: small ones as natural numbers. -/
theorem zi_toInt {k : Nat} (h : k < 2147483648) : (Int32.ofNat k).toInt = k := Int32.toInt_ofNat_of_lt h
theorem zi_nat {k : Nat} (h : k < 2147483648) : (Int32.ofNat k).toNatClampNeg = k := by
  show (Int32.ofNat k).toInt.toNat = k
  rw [zi_toInt h]
  rfl
theorem zi_lt {a b : Nat} (ha : a < 2147483648) (hb : b < 2147483648) : Int32.ofNat a < Int32.ofNat b ↔ a < b := by
  rw [Int32.lt_iff_toInt_lt, zi_toInt ha, zi_toInt hb]
  omega
theorem zi_le {a b : Nat} (ha : a < 2147483648) (hb : b < 2147483648) : Int32.ofNat a ≤ Int32.ofNat b ↔ a ≤ b := by
  rw [Int32.le_iff_toInt_le, zi_toInt ha, zi_toInt hb]
  omega
theorem zi_eq {a b : Nat} (ha : a < 2147483648) (hb : b < 2147483648) : Int32.ofNat a = Int32.ofNat b ↔ a = b := by
  rw [← Int32.toInt_inj, zi_toInt ha, zi_toInt hb]
  omega
theorem zi_add (a b : Nat) : Int32.ofNat a + Int32.ofNat b = Int32.ofNat (a + b) := (Int32.ofNat_add a b).symm
theorem zi_mul (a b : Nat) : Int32.ofNat a * Int32.ofNat b = Int32.ofNat (a * b) := (Int32.ofNat_mul a b).symm
theorem zi_sub {a b : Nat} (h : b ≤ a) : Int32.ofNat a - Int32.ofNat b = Int32.ofNat (a - b) := by
  have : Int32.ofNat (a - b) + Int32.ofNat b = Int32.ofNat a := by rw [zi_add, Nat.sub_add_cancel h]
  rw [← this, Int32.add_sub_cancel]
theorem zi_div {a b : Nat} (ha : a < 2147483648) (hb : b < 2147483648) : Int32.ofNat a / Int32.ofNat b = Int32.ofNat (a / b) := by
  have hq : a / b < 2147483648 := Nat.lt_of_le_of_lt (Nat.div_le_self a b) ha
  rw [← Int32.toInt_inj, zi_toInt hq]
  rw [Int32.toInt_div_of_ne_left _ _ (by intro h; have := congrArg Int32.toInt h; rw [zi_toInt ha] at this; revert this; have : Int32.minValue.toInt = -2147483648 := by decide
                                         omega), zi_toInt ha, zi_toInt hb]
  rfl
theorem zi_rem {a b : Nat} (ha : a < 2147483648) (hb : b < 2147483648) : z_irem (Int32.ofNat a) (Int32.ofNat b) = Int32.ofNat (a % b) := by
  unfold z_irem
  rw [zi_div ha hb, zi_mul, zi_sub (Nat.div_mul_le_self a b)]
  congr 1
  have := Nat.div_add_mod a b
  rw [Nat.mul_comm] at this
  omega
theorem zi_nn {k : Nat} (h : k < 2147483648) : ¬ Int32.ofNat k < 0 := by
  rw [show (0 : Int32) = Int32.ofNat 0 from rfl, zi_lt h (by decide)]
  omega
theorem zi_0 {k : Nat} (h : k < 2147483648) : Int32.ofNat k = 0 ↔ k = 0 := by
  rw [show (0 : Int32) = Int32.ofNat 0 from rfl, zi_eq h (by decide)]
/-- each number is a small natural one, or below 0 -/
theorem zi_cases (x : Int32) : x < 0 ∨ ∃ k, k < 2147483648 ∧ x = Int32.ofNat k := by
  by_cases h : x < 0
  · exact .inl h
  · refine .inr ⟨x.toNatClampNeg, ?_, ?_⟩
    · have := Int32.toInt_lt x
      show x.toInt.toNat < _
      omega
    · have h0 : 0 ≤ x.toInt := by
        have := mt Int32.lt_iff_toInt_lt.mpr h
        have h0 : (0 : Int32).toInt = 0 := rfl
        omega
      rw [← Int32.toInt_inj, zi_toInt (by have := Int32.toInt_lt x; show x.toInt.toNat < _; omega)]
      show x.toInt = (x.toInt.toNat : Int)
      omega
theorem zi_inb {k n : Nat} (h : k < 2147483648) : z_inb (Int32.ofNat k) n = decide (k < n) := by
  unfold z_inb
  rw [zi_nat h]
  have := zi_nn h
  by_cases h1 : k < n
  · simp [this, h1, Nat.not_le.mpr h1]
  · simp [this, h1, Nat.not_lt.mp h1]
theorem zi_nz {k : Nat} (h : k < 2147483648) (h0 : 0 < k) : z_nz (Int32.ofNat k) = true := by
  unfold z_nz
  rw [decide_eq_true_eq, zi_0 h]
  omega
theorem zi_bi0 (b : Bool) : z_bi b = 0 ↔ b = false := by cases b <;> decide
theorem zi_biof (b : Bool) : z_bi b = Int32.ofNat (if b then 1 else 0) := by cases b <;> rfl
theorem zi_b01 {k : Nat} (h : k ≤ 1) : z_b01 (Int32.ofNat k) = true := by
  have : k = 0 ∨ k = 1 := by omega
  rcases this with rfl | rfl <;> decide
theorem z_gdt {α : Type} {b : Bool} {X : Option α} (h : b = true) : z_gd b X = X := by rw [h]; rfl
theorem zi_m1 {k : Nat} (h : k < 2147483648) : ¬ Int32.ofNat k = (-1 : Int32) := by
  intro e
  have := congrArg Int32.toInt e
  rw [zi_toInt h] at this
  have h1 : (-1 : Int32).toInt = -1 := by decide
  omega
/-- reading what was written -/
theorem zm_I (m : zM) (k i j : Nat) (v : Int32) (a b c : Nat) : (z_sI m k i j v).1 a b c = if a = k ∧ b = i ∧ c = j then v else m.1 a b c := rfl
theorem zm_L (m : zM) (k i j : Nat) (v : Int64) (a b c : Nat) : (z_sL m k i j v).2.1 a b c = if a = k ∧ b = i ∧ c = j then v else m.2.1 a b c := rfl
theorem zm_D (m : zM) (k i j : Nat) (v : UInt64) (a b c : Nat) : (z_sD m k i j v).2.2 a b c = if a = k ∧ b = i ∧ c = j then v else m.2.2 a b c := rfl
theorem zm_IL (m : zM) (k i j : Nat) (v : Int32) : (z_sI m k i j v).2 = m.2 := rfl
theorem zm_LI (m : zM) (k i j : Nat) (v : Int64) : (z_sL m k i j v).1 = m.1 := rfl
theorem zm_LD (m : zM) (k i j : Nat) (v : Int64) : (z_sL m k i j v).2.2 = m.2.2 := rfl
