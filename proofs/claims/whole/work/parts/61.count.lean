/-! Counting bits. -/
def zm5 : Nat → Nat
  | 0 => 0
  | n + 1 => 85 + 256 * zm5 n
def zm3 : Nat → Nat
  | 0 => 0
  | n + 1 => 51 + 256 * zm3 n
def zm1 : Nat → Nat
  | 0 => 0
  | n + 1 => 15 + 256 * zm1 n
def zg1 (n x : Nat) : Nat := x - ((x / 2) &&& zm5 n)
def zg2 (n x : Nat) : Nat := (x &&& zm3 n) + ((x / 4) &&& zm3 n)
def zg3 (n x : Nat) : Nat := (x + x / 16) &&& zm1 n
def zpb (b : Nat) : Nat := z_cnt (fun c => b.testBit c) 8
def zhb : Nat → Nat → Nat
  | 0, _ => 0
  | n + 1, x => zpb (x % 256) + 256 * zhb n (x / 256)
theorem z_land (u v c d : Nat) (hu : u < 256) (hc : c < 256) : (u + 256 * v) &&& (c + 256 * d) = (u &&& c) + 256 * (v &&& d) := by
  have h1 : ((u + 256 * v) &&& (c + 256 * d)) % 2 ^ 8 = (u &&& c) := by
    rw [Nat.and_mod_two_pow, show (u + 256 * v) % 2 ^ 8 = u by omega, show (c + 256 * d) % 2 ^ 8 = c by omega]
  have h2 : ((u + 256 * v) &&& (c + 256 * d)) / 2 ^ 8 = (v &&& d) := by
    rw [Nat.and_div_two_pow, show (u + 256 * v) / 2 ^ 8 = v by omega, show (c + 256 * d) / 2 ^ 8 = d by omega]
  omega
theorem z_bt1 : ∀ b, b < 256 → ∀ q, q < 2 → (b / 2 + 128 * q) &&& 85 = (b / 2) &&& 85 := by decide +kernel
theorem z_bt2 : ∀ b, b < 256 → ∀ q, q < 4 → (b / 4 + 64 * q) &&& 51 = (b / 4) &&& 51 := by decide +kernel
theorem z_bt3 : ∀ b, b < 256 → b - ((b / 2) &&& 85) < 256 ∧ ((b - ((b / 2) &&& 85)) &&& 51) + (((b - ((b / 2) &&& 85)) / 4) &&& 51) ≤ 68 ∧ (((b - ((b / 2) &&& 85)) &&& 51) + (((b - ((b / 2) &&& 85)) / 4) &&& 51)) % 16 ≤ 4 ∧ ((((b - ((b / 2) &&& 85)) &&& 51) + (((b - ((b / 2) &&& 85)) / 4) &&& 51)) + (((b - ((b / 2) &&& 85)) &&& 51) + (((b - ((b / 2) &&& 85)) / 4) &&& 51)) / 16) % 16 = zpb b ∧ zpb b ≤ 8 := by decide +kernel
theorem zg1_s (n b q : Nat) (hb : b < 256) : zg1 (n + 1) (b + 256 * q) = (b - ((b / 2) &&& 85)) + 256 * zg1 n q := by
  unfold zg1
  have e : (b + 256 * q) / 2 = (b / 2 + 128 * (q % 2)) + 256 * (q / 2) := by omega
  rw [e, show zm5 (n + 1) = 85 + 256 * zm5 n from rfl, z_land _ _ _ _ (by omega) (by omega), z_bt1 b hb _ (by omega)]
  have h1 : ((b / 2) &&& 85) ≤ b / 2 := Nat.and_le_left
  have h2 : ((q / 2) &&& zm5 n) ≤ q / 2 := Nat.and_le_left
  omega
theorem zg2_s (n b q : Nat) (hb : b < 256) : zg2 (n + 1) (b + 256 * q) = ((b &&& 51) + ((b / 4) &&& 51)) + 256 * zg2 n q := by
  unfold zg2
  have e : (b + 256 * q) / 4 = (b / 4 + 64 * (q % 4)) + 256 * (q / 4) := by omega
  rw [e, show zm3 (n + 1) = 51 + 256 * zm3 n from rfl, z_land _ _ _ _ hb (by omega), z_land _ _ _ _ (by omega) (by omega), z_bt2 b hb _ (by omega)]
  omega
theorem zg3_s (n s t : Nat) (hs : s ≤ 68) (ht : t % 16 ≤ 4) : zg3 (n + 1) (s + 256 * t) = (s + s / 16) % 16 + 256 * zg3 n t := by
  unfold zg3
  have e : (s + 256 * t) + (s + 256 * t) / 16 = (s + s / 16 + 16 * (t % 16)) + 256 * (t + t / 16) := by omega
  rw [e, show zm1 (n + 1) = 15 + 256 * zm1 n from rfl, z_land _ _ _ _ (by omega) (by omega), show (15 : Nat) = 2 ^ 4 - 1 from rfl, Nat.and_two_pow_sub_one_eq_mod]
  omega
theorem zhb_eq : ∀ (n x : Nat), x < 256 ^ n → zg2 n (zg1 n x) % 16 ≤ 4 ∧ zg3 n (zg2 n (zg1 n x)) = zhb n x
  | 0, x, h => by
    have : x = 0 := by
      have : x < 1 := h
      omega
    subst this
    exact ⟨by decide, by decide⟩
  | n + 1, x, h => by
    have hx : x = x % 256 + 256 * (x / 256) := by omega
    have hb : x % 256 < 256 := by omega
    have hq : x / 256 < 256 ^ n := by
      rw [Nat.pow_succ] at h
      omega
    obtain ⟨ih1, ih2⟩ := zhb_eq n (x / 256) hq
    obtain ⟨b1, b2, b3, b4, b5⟩ := z_bt3 (x % 256) hb
    have e1 : zg1 (n + 1) x = (x % 256 - ((x % 256 / 2) &&& 85)) + 256 * zg1 n (x / 256) := by
      rw [← zg1_s n _ _ hb, ← hx]
    rw [e1, zg2_s n _ _ b1]
    refine ⟨by omega, ?_⟩
    rw [zg3_s n _ _ b2 ih1, b4, ih2]
    rfl
theorem zhb_b : ∀ (n x : Nat), x < 256 ^ n → zhb n x ≤ 8 * zm5 n ∨ True
  | _, _, _ => .inr trivial
theorem z_cnt_split {p : Nat → Bool} (n : Nat) : ∀ k, z_cnt p (n + k) = z_cnt p n + z_cnt (fun c => p (n + c)) k
  | 0 => rfl
  | k + 1 => by
    show z_cnt p (n + k) + (if p (n + k) = true then 1 else 0) = z_cnt p n + (z_cnt (fun c => p (n + c)) k + if p (n + k) = true then 1 else 0)
    rw [z_cnt_split n k]
    omega
theorem z_cnt_byte (x k : Nat) : z_cnt (fun c => x.testBit c) (8 + k) = zpb (x % 256) + z_cnt (fun c => (x / 256).testBit c) k := by
  rw [z_cnt_split 8 k]
  congr 1
  · unfold zpb
    refine z_cnt_ext fun c hc => ?_
    rw [show (256 : Nat) = 2 ^ 8 from rfl, Nat.testBit_mod_two_pow]
    simp [hc]
  · refine z_cnt_ext fun c _ => ?_
    rw [show (256 : Nat) = 2 ^ 8 from rfl, Nat.testBit_div_two_pow, Nat.add_comm]
/-- the sum of the eight bytes -/
theorem zhb_sum (x : Nat) : ∃ c0 c1 c2 c3 c4 c5 c6 c7, c0 ≤ 8 ∧ c1 ≤ 8 ∧ c2 ≤ 8 ∧ c3 ≤ 8 ∧ c4 ≤ 8 ∧ c5 ≤ 8 ∧ c6 ≤ 8 ∧ c7 ≤ 8 ∧ zhb 8 x = c0 + 256 * (c1 + 256 * (c2 + 256 * (c3 + 256 * (c4 + 256 * (c5 + 256 * (c6 + 256 * c7)))))) ∧ z_cnt (fun c => x.testBit c) 64 = c0 + c1 + c2 + c3 + c4 + c5 + c6 + c7 := by
  have b : ∀ y, zpb (y % 256) ≤ 8 := fun y => (z_bt3 (y % 256) (by omega)).2.2.2.2
  refine ⟨_, _, _, _, _, _, _, _, b x, b (x / 256), b (x / 256 / 256), b (x / 256 / 256 / 256), b (x / 256 / 256 / 256 / 256), b (x / 256 / 256 / 256 / 256 / 256), b (x / 256 / 256 / 256 / 256 / 256 / 256), b (x / 256 / 256 / 256 / 256 / 256 / 256 / 256), ?_, ?_⟩
  · rfl
  · rw [show 64 = 8 + 56 from rfl, z_cnt_byte, show 56 = 8 + 48 from rfl, z_cnt_byte, show 48 = 8 + 40 from rfl, z_cnt_byte, show 40 = 8 + 32 from rfl, z_cnt_byte, show 32 = 8 + 24 from rfl, z_cnt_byte, show 24 = 8 + 16 from rfl, z_cnt_byte, show 16 = 8 + 8 from rfl, z_cnt_byte, show 8 = 8 + 0 from rfl, z_cnt_byte]
    show _ + (_ + (_ + (_ + (_ + (_ + (_ + (_ + 0))))))) = _
    omega
def zc1 (x : Int64) : Int64 := x - ((z_ushr x (1 : Int32)) &&& (6148914691236517205 : Int64))
def zc2 (x : Int64) : Int64 := (x &&& (3689348814741910323 : Int64)) + ((z_ushr x (2 : Int32)) &&& (3689348814741910323 : Int64))
def zc3 (x : Int64) : Int64 := (x + z_ushr x (4 : Int32)) &&& (1085102592571150095 : Int64)
def zc4 (x : Int64) : Int64 := x + z_ushr x (8 : Int32)
def zc5 (x : Int64) : Int64 := x + z_ushr x (16 : Int32)
def zc6 (x : Int64) : Int64 := x + z_ushr x (32 : Int32)
def zn (x : Int64) : Nat := x.toBitVec.toNat
theorem zn_lt (x : Int64) : zn x < 18446744073709551616 := x.toBitVec.isLt
theorem zn_shr (x : Int64) {s : Nat} (hs : s < 64) : zn (z_ushr x (Int32.ofNat s)) = zn x / 2 ^ s := by
  unfold zn
  rw [zb_ushr x hs, BitVec.toNat_ushiftRight, Nat.shiftRight_eq_div_pow]
theorem zn_and (x y : Int64) : zn (x &&& y) = (zn x &&& zn y) := by
  unfold zn
  rw [Int64.toBitVec_and, BitVec.toNat_and]
theorem zn_add (x y : Int64) : zn (x + y) = (zn x + zn y) % 18446744073709551616 := by
  unfold zn
  rw [Int64.toBitVec_add, BitVec.toNat_add]
theorem zn_sub (x y : Int64) (h : zn y ≤ zn x) : zn (x - y) = zn x - zn y := by
  have h1 := zn_lt x
  have h2 := zn_lt y
  unfold zn at h h1 h2 ⊢
  rw [Int64.toBitVec_sub, BitVec.toNat_sub]
  omega
theorem zb_zn (x : Int64) (c : Nat) : zb x c = (zn x).testBit c := rfl
theorem z_divq (A R D : Nat) (h : A < D) : (A + D * R) / D = R := by
  rw [Nat.add_mul_div_left _ _ (by omega), Nat.div_eq_of_lt h]
  omega
theorem z_s5 (c0 c1 c2 c3 c4 c5 c6 c7 : Nat) (b0 : c0 ≤ 8) (b1 : c1 ≤ 8) (b2 : c2 ≤ 8) (b3 : c3 ≤ 8) (b4 : c4 ≤ 8) (b5 : c5 ≤ 8) (b6 : c6 ≤ 8) (b7 : c7 ≤ 8) :
    (((c0 + c1) + 256 * ((c1 + c2) + 256 * ((c2 + c3) + 256 * ((c3 + c4) + 256 * ((c4 + c5) + 256 * ((c5 + c6) + 256 * ((c6 + c7) + 256 * c7))))))) + ((c0 + c1) + 256 * ((c1 + c2) + 256 * ((c2 + c3) + 256 * ((c3 + c4) + 256 * ((c4 + c5) + 256 * ((c5 + c6) + 256 * ((c6 + c7) + 256 * c7))))))) / 65536) = (c0 + c1 + c2 + c3) + 256 * ((c1 + c2 + c3 + c4) + 256 * ((c2 + c3 + c4 + c5) + 256 * ((c3 + c4 + c5 + c6) + 256 * ((c4 + c5 + c6 + c7) + 256 * ((c5 + c6 + c7) + 256 * ((c6 + c7) + 256 * c7)))))) := by
  have hq := z_divq ((c0 + c1) + 256 * (c1 + c2)) ((c2 + c3) + 256 * ((c3 + c4) + 256 * ((c4 + c5) + 256 * ((c5 + c6) + 256 * ((c6 + c7) + 256 * c7))))) 65536 (by omega)
  have hw : (c0 + c1) + 256 * ((c1 + c2) + 256 * ((c2 + c3) + 256 * ((c3 + c4) + 256 * ((c4 + c5) + 256 * ((c5 + c6) + 256 * ((c6 + c7) + 256 * c7)))))) = ((c0 + c1) + 256 * (c1 + c2)) + 65536 * ((c2 + c3) + 256 * ((c3 + c4) + 256 * ((c4 + c5) + 256 * ((c5 + c6) + 256 * ((c6 + c7) + 256 * c7))))) := by omega
  rw [hw, hq]
  clear hw hq
  omega
theorem z_dig (x y B b d : Nat) (hx : x ≤ b) (hy : y ≤ d) (h : b + 256 * d ≤ B) : x + 256 * y ≤ B := by omega
theorem z_s5b (c0 c1 c2 c3 c4 c5 c6 c7 : Nat) (b0 : c0 ≤ 64) (b1 : c1 ≤ 64) (b2 : c2 ≤ 64) (b3 : c3 ≤ 64) (b4 : c4 ≤ 64) (b5 : c5 ≤ 64) (b6 : c6 ≤ 64) (b7 : c7 ≤ 64) :
    c0 + 256 * (c1 + 256 * (c2 + 256 * (c3 + 256 * (c4 + 256 * (c5 + 256 * (c6 + 256 * c7)))))) ≤ 9223372036854775807 := by
  refine z_dig _ _ _ 64 _ b0 (z_dig _ _ _ 64 _ b1 (z_dig _ _ _ 64 _ b2 (z_dig _ _ _ 64 _ b3 (z_dig _ _ _ 64 _ b4 (z_dig _ _ _ 64 _ b5 (z_dig _ _ 16448 64 64 b6 b7 (by decide)) (show 64 + 256 * 16448 ≤ 4210752 by decide)) (show 64 + 256 * 4210752 ≤ 1077952576 by decide)) (show 64 + 256 * 1077952576 ≤ 275955859520 by decide)) (show 64 + 256 * 275955859520 ≤ 70644700037184 by decide)) (show 64 + 256 * 70644700037184 ≤ 18085043209519168 by decide)) (by decide)
theorem z_s6 (c0 c1 c2 c3 c4 c5 c6 c7 : Nat) (b0 : c0 ≤ 8) (b1 : c1 ≤ 8) (b2 : c2 ≤ 8) (b3 : c3 ≤ 8) (b4 : c4 ≤ 8) (b5 : c5 ≤ 8) (b6 : c6 ≤ 8) (b7 : c7 ≤ 8) :
    (((c0 + c1 + c2 + c3) + 256 * ((c1 + c2 + c3 + c4) + 256 * ((c2 + c3 + c4 + c5) + 256 * ((c3 + c4 + c5 + c6) + 256 * ((c4 + c5 + c6 + c7) + 256 * ((c5 + c6 + c7) + 256 * ((c6 + c7) + 256 * c7))))))) + ((c0 + c1 + c2 + c3) + 256 * ((c1 + c2 + c3 + c4) + 256 * ((c2 + c3 + c4 + c5) + 256 * ((c3 + c4 + c5 + c6) + 256 * ((c4 + c5 + c6 + c7) + 256 * ((c5 + c6 + c7) + 256 * ((c6 + c7) + 256 * c7))))))) / 4294967296) = (c0 + c1 + c2 + c3 + c4 + c5 + c6 + c7) + 256 * ((c1 + c2 + c3 + c4 + c5 + c6 + c7) + 256 * ((c2 + c3 + c4 + c5 + c6 + c7) + 256 * ((c3 + c4 + c5 + c6 + c7) + 256 * ((c4 + c5 + c6 + c7) + 256 * ((c5 + c6 + c7) + 256 * ((c6 + c7) + 256 * c7)))))) := by
  have hq := z_divq ((c0 + c1 + c2 + c3) + 256 * ((c1 + c2 + c3 + c4) + 256 * ((c2 + c3 + c4 + c5) + 256 * (c3 + c4 + c5 + c6)))) ((c4 + c5 + c6 + c7) + 256 * ((c5 + c6 + c7) + 256 * ((c6 + c7) + 256 * c7))) 4294967296 (by omega)
  have hw : (c0 + c1 + c2 + c3) + 256 * ((c1 + c2 + c3 + c4) + 256 * ((c2 + c3 + c4 + c5) + 256 * ((c3 + c4 + c5 + c6) + 256 * ((c4 + c5 + c6 + c7) + 256 * ((c5 + c6 + c7) + 256 * ((c6 + c7) + 256 * c7)))))) = ((c0 + c1 + c2 + c3) + 256 * ((c1 + c2 + c3 + c4) + 256 * ((c2 + c3 + c4 + c5) + 256 * (c3 + c4 + c5 + c6)))) + 4294967296 * ((c4 + c5 + c6 + c7) + 256 * ((c5 + c6 + c7) + 256 * ((c6 + c7) + 256 * c7))) := by omega
  rw [hw, hq]
  clear hw hq
  omega
theorem z_s4 (c0 c1 c2 c3 c4 c5 c6 c7 : Nat) (b0 : c0 ≤ 8) :
    ((c0 + 256 * (c1 + 256 * (c2 + 256 * (c3 + 256 * (c4 + 256 * (c5 + 256 * (c6 + 256 * c7))))))) + (c0 + 256 * (c1 + 256 * (c2 + 256 * (c3 + 256 * (c4 + 256 * (c5 + 256 * (c6 + 256 * c7))))))) / 256) = (c0 + c1) + 256 * ((c1 + c2) + 256 * ((c2 + c3) + 256 * ((c3 + c4) + 256 * ((c4 + c5) + 256 * ((c5 + c6) + 256 * ((c6 + c7) + 256 * c7)))))) := by
  rw [z_divq c0 _ 256 (by omega)]
  omega
theorem z_bitCount (x : Int64) (m : zM) : f_J13_bitCount_95d88 x m = some (Int32.ofNat (z_cnt (zb x) 64)) := by
  show some ((Int64.toInt32 (zc6 (zc5 (zc4 (zc3 (zc2 (zc1 x))))))) &&& (127 : Int32)) = _
  have hx : zn x < 256 ^ 8 := zn_lt x
  have m5 : zn (6148914691236517205 : Int64) = zm5 8 := by decide +kernel
  have m3 : zn (3689348814741910323 : Int64) = zm3 8 := by decide +kernel
  have m1 : zn (1085102592571150095 : Int64) = zm1 8 := by decide +kernel
  have e1 : zn (zc1 x) = zg1 8 (zn x) := by
    unfold zc1 zg1
    have h : zn (z_ushr x (1 : Int32) &&& (6148914691236517205 : Int64)) = ((zn x / 2) &&& zm5 8) := by
      rw [zn_and, m5, show (1 : Int32) = Int32.ofNat 1 from rfl, zn_shr x (by omega)]
    have h2 : ((zn x / 2) &&& zm5 8) ≤ zn x / 2 := Nat.and_le_left
    rw [zn_sub _ _ (by rw [h]; omega), h]
  have e2 : zn (zc2 (zc1 x)) = zg2 8 (zg1 8 (zn x)) := by
    unfold zc2 zg2
    rw [zn_add, zn_and, zn_and, m3, show (2 : Int32) = Int32.ofNat 2 from rfl, zn_shr _ (by omega), e1]
    have h1 : (zg1 8 (zn x) &&& zm3 8) ≤ zm3 8 := Nat.and_le_right
    have h2 : ((zg1 8 (zn x) / 2 ^ 2) &&& zm3 8) ≤ zm3 8 := Nat.and_le_right
    have h3 : zm3 8 = 3689348814741910323 := by decide
    rw [Nat.mod_eq_of_lt (by omega)]
  have e3 : zn (zc3 (zc2 (zc1 x))) = zhb 8 (zn x) := by
    unfold zc3
    rw [zn_and, zn_add, m1, show (4 : Int32) = Int32.ofNat 4 from rfl, zn_shr _ (by omega), e2]
    have h1 := (zhb_eq 8 (zn x) hx).2
    have h2 : zg2 8 (zg1 8 (zn x)) ≤ 2 * zm3 8 := by
      have h1 : (zg1 8 (zn x) &&& zm3 8) ≤ zm3 8 := Nat.and_le_right
      have h2 : ((zg1 8 (zn x) / 4) &&& zm3 8) ≤ zm3 8 := Nat.and_le_right
      unfold zg2
      omega
    have h3 : zm3 8 = 3689348814741910323 := by decide
    rw [Nat.mod_eq_of_lt (by omega)]
    exact h1
  obtain ⟨c0, c1, c2, c3, c4, c5, c6, c7, b0, b1, b2, b3, b4, b5, b6, b7, hs, hc⟩ := zhb_sum (zn x)
  rw [hs] at e3
  have B : ∀ {x b}, b < 9223372036854775808 → x ≤ b → x < 18446744073709551616 := fun {x b} h1 h2 => Nat.lt_of_le_of_lt h2 (Nat.lt_trans h1 (by decide))
  have e4 : zn (zc4 (zc3 (zc2 (zc1 x)))) = (c0 + c1) + 256 * ((c1 + c2) + 256 * ((c2 + c3) + 256 * ((c3 + c4) + 256 * ((c4 + c5) + 256 * ((c5 + c6) + 256 * ((c6 + c7) + 256 * c7)))))) := by
    unfold zc4
    rw [zn_add, show (8 : Int32) = Int32.ofNat 8 from rfl, zn_shr _ (by omega), e3, show 2 ^ 8 = 256 from rfl, z_s4 _ _ _ _ _ _ _ _ b0, Nat.mod_eq_of_lt]
    clear e1 e2 e3 hs hc
    exact B (b := 9223372036854775807) (by decide) (z_s5b _ _ _ _ _ _ _ _ (by omega) (by omega) (by omega) (by omega) (by omega) (by omega) (by omega) (by omega))
  have e5 : zn (zc5 (zc4 (zc3 (zc2 (zc1 x))))) = (c0 + c1 + c2 + c3) + 256 * ((c1 + c2 + c3 + c4) + 256 * ((c2 + c3 + c4 + c5) + 256 * ((c3 + c4 + c5 + c6) + 256 * ((c4 + c5 + c6 + c7) + 256 * ((c5 + c6 + c7) + 256 * ((c6 + c7) + 256 * c7)))))) := by
    unfold zc5
    rw [zn_add, show (16 : Int32) = Int32.ofNat 16 from rfl, zn_shr _ (by omega), e4, show 2 ^ 16 = 65536 from rfl, z_s5 _ _ _ _ _ _ _ _ b0 b1 b2 b3 b4 b5 b6 b7, Nat.mod_eq_of_lt]
    clear e1 e2 e3 e4 hs hc
    exact B (b := 9223372036854775807) (by decide) (z_s5b _ _ _ _ _ _ _ _ (by omega) (by omega) (by omega) (by omega) (by omega) (by omega) (by omega) (by omega))
  have e6 : zn (zc6 (zc5 (zc4 (zc3 (zc2 (zc1 x)))))) % 256 = c0 + c1 + c2 + c3 + c4 + c5 + c6 + c7 := by
    unfold zc6
    rw [zn_add, show (32 : Int32) = Int32.ofNat 32 from rfl, zn_shr _ (by omega), e5, show 2 ^ 32 = 4294967296 from rfl, z_s6 _ _ _ _ _ _ _ _ b0 b1 b2 b3 b4 b5 b6 b7]
    clear e1 e2 e3 e4 e5 hs hc
    rw [Nat.mod_eq_of_lt (B (b := 9223372036854775807) (by decide) (z_s5b _ _ _ _ _ _ _ _ (by omega) (by omega) (by omega) (by omega) (by omega) (by omega) (by omega) (by omega))), Nat.add_mul_mod_self_left, Nat.mod_eq_of_lt (by omega)]
  generalize zc6 (zc5 (zc4 (zc3 (zc2 (zc1 x))))) = y at e6
  have hz : z_cnt (zb x) 64 = c0 + c1 + c2 + c3 + c4 + c5 + c6 + c7 := hc
  rw [hz]
  congr 1
  apply Int32.toBitVec_inj.mp
  apply BitVec.eq_of_toNat_eq
  rw [Int32.toBitVec_and, BitVec.toNat_and]
  have h1 : (Int64.toInt32 y).toBitVec.toNat = zn y % 2 ^ 32 := by
    show (y.toBitVec.signExtend 32).toNat = _
    rw [BitVec.signExtend_eq_setWidth_of_le _ (by omega), BitVec.toNat_setWidth]
    rfl
  have h2 : (127 : Int32).toBitVec.toNat = 2 ^ 7 - 1 := by decide
  have h3 : (Int32.ofNat (c0 + c1 + c2 + c3 + c4 + c5 + c6 + c7)).toBitVec.toNat = (c0 + c1 + c2 + c3 + c4 + c5 + c6 + c7) % 2 ^ 32 := by
    show (BitVec.ofNat 32 _).toNat = _
    rw [BitVec.toNat_ofNat]
  rw [h1, h2, h3, Nat.and_two_pow_sub_one_eq_mod]
  clear e1 e2 e3 e4 e5 hs hc hz h1 h2 h3 m1 m3 m5
  have ht : c0 + c1 + c2 + c3 + c4 + c5 + c6 + c7 ≤ 64 := by omega
  generalize c0 + c1 + c2 + c3 + c4 + c5 + c6 + c7 = t at e6 ht
  clear b0 b1 b2 b3 b4 b5 b6 b7 B
  omega
/-- the least member -/
theorem z_least (x : Nat) {l : Nat} (h1 : x.testBit l = true) (h0 : ∀ c, c < l → x.testBit c = false) : ∃ k, x = 2 ^ l * (2 * k + 1) := by
  have e0 : x % 2 ^ l = 0 := by
    apply Nat.eq_of_testBit_eq
    intro i
    rw [Nat.testBit_mod_two_pow, Nat.zero_testBit]
    by_cases w : i < l
    · rw [h0 i w]; simp
    · simp [w]
  have e1 : (x / 2 ^ l) % 2 = 1 := by
    have := h1
    rw [show l = 0 + l by omega, ← Nat.testBit_div_two_pow] at this
    rw [Nat.testBit_zero, decide_eq_true_eq] at this
    exact this
  refine ⟨x / 2 ^ l / 2, ?_⟩
  have e2 := Nat.div_add_mod x (2 ^ l)
  have e3 : 2 * (x / 2 ^ l / 2) + 1 = x / 2 ^ l := by omega
  rw [e3]
  omega
theorem z_pred_bit (l k c : Nat) : (2 ^ l * (2 * k + 1) - 1).testBit c = if c < l then true else if c = l then false else (2 ^ l * (2 * k + 1)).testBit c := by
  have hp := Nat.two_pow_pos l
  have e1 : 2 ^ l * (2 * k + 1) - 1 = 2 ^ l * (2 * k) + (2 ^ l - 1) := by
    rw [Nat.mul_add, Nat.mul_one]
    omega
  rw [e1, Nat.testBit_two_pow_mul_add _ (by omega)]
  by_cases w : c < l
  · rw [if_pos w, if_pos w, Nat.testBit_two_pow_sub_one]
    simpa using w
  · rw [if_neg w, if_neg w]
    have e2 : 2 ^ l * (2 * k + 1) = 2 ^ l * (2 * k + 1) + 0 := rfl
    rw [e2, Nat.testBit_two_pow_mul_add _ hp, if_neg w]
    by_cases z : c = l
    · rw [if_pos z, z, Nat.sub_self, Nat.testBit_zero]
      simp
    · rw [if_neg z]
      obtain ⟨d, hd⟩ : ∃ d, c - l = d + 1 := ⟨c - l - 1, by omega⟩
      rw [hd, Nat.testBit_succ, Nat.testBit_succ]
      congr 1
      omega
theorem z_low_bit (x : Int64) {l : Nat} (hl : l < 64) (h1 : zb x l = true) (h0 : ∀ c, c < l → zb x c = false) {c : Nat} (hc : c < 64) : zb ((x ^^^ (-1)) &&& (x - 1)) c = decide (c < l) := by
  rw [zb_and, zb_not _ hc]
  rw [zb_zn] at h1
  obtain ⟨k, hk⟩ := z_least (zn x) h1 fun c hc => by rw [← zb_zn]; exact h0 c hc
  have e1 : zn (1 : Int64) = 1 := by decide
  have hp := Nat.two_pow_pos l
  have hx : 1 ≤ zn x := by
    rw [hk, Nat.mul_add]
    omega
  rw [zb_zn, zb_zn, zn_sub _ _ (by omega), e1, hk, z_pred_bit]
  by_cases w : c < l
  · have := h0 c w
    rw [zb_zn, hk] at this
    rw [if_pos w, this]
    simp [w]
  · rw [if_neg w]
    by_cases z : c = l
    · rw [if_pos z]
      simp [w]
    · rw [if_neg z]
      simp [w]
theorem z_cnt_ltn (l : Nat) : ∀ n, l ≤ n → z_cnt (fun c => decide (c < l)) n = l
  | 0, h => by
    have : l = 0 := by omega
    subst this
    rfl
  | n + 1, h => by
    unfold z_cnt
    by_cases w : l = n + 1
    · rw [z_cnt_n fun c hc => by simp; omega, w]
      simp
    · rw [z_cnt_ltn l n (by omega)]
      simp
      omega
theorem s_lowest (x : Int64) {l : Nat} (hl : l < 64) (h1 : zb x l = true) (h0 : ∀ c, c < l → zb x c = false) (m : zM) : f_X7_lowest x m = some (Int32.ofNat l) := by
  unfold f_X7_lowest
  rw [z_bitCount, Option.bind_some, z_cnt_ext fun c hc => z_low_bit x hl h1 h0 hc, z_cnt_ltn l 64 (by omega)]
def zn1 (y n : Int32) : Int32 := n + z_iushr y 1
def zn2 (y n : Int32) : Int32 := if y ≤ 4 then zn1 y n else zn1 (z_iushr y 2) (n + 2)
def zn3 (y n : Int32) : Int32 := if y ≤ 16 then zn2 y n else zn2 (z_iushr y 4) (n + 4)
def zn4 (y n : Int32) : Int32 := if y ≤ 256 then zn3 y n else zn3 (z_iushr y 8) (n + 8)
def zn5 (y : Int32) : Int32 := if 0 < y then if y ≤ 65536 then zn4 y 1 else zn4 (z_iushr y 16) (1 + 16) else y &&& 32
theorem zn5_eq (x : Int32) (m : zM) : f_J6_numberOfTrailingZeros_0f7a4 x m = some (zn5 ((x ^^^ (-1 : Int32)) &&& (x - (1 : Int32)))) := by
  have h1 : ∀ y n, f_J6_numberOfTrailingZeros_0f7a4_74 m y n = some (zn1 y n) := fun y n => rfl
  have h2 : ∀ y n, f_J6_numberOfTrailingZeros_0f7a4_62 m y n = some (zn2 y n) := fun y n => by
    unfold f_J6_numberOfTrailingZeros_0f7a4_62 zn2
    rw [h1, h1]
    split <;> rfl
  have h3 : ∀ y n, f_J6_numberOfTrailingZeros_0f7a4_49 m y n = some (zn3 y n) := fun y n => by
    unfold f_J6_numberOfTrailingZeros_0f7a4_49 zn3
    rw [h2, h2]
    split <;> rfl
  have h4 : ∀ y n, f_J6_numberOfTrailingZeros_0f7a4_34 m y n = some (zn4 y n) := fun y n => by
    unfold f_J6_numberOfTrailingZeros_0f7a4_34 zn4
    rw [h3, h3]
    split <;> rfl
  unfold f_J6_numberOfTrailingZeros_0f7a4 zn5
  rw [h4, h4]
  split
  · split <;> rfl
  · rfl
theorem zn5_v : ∀ l, l < 32 → zn5 (Int32.ofNat (2 ^ l - 1)) = Int32.ofNat l := by decide +kernel
theorem z_i32_low (y : Int32) {l : Nat} (hl : l < 32) (h1 : y.toBitVec.toNat.testBit l = true) (h0 : ∀ c, c < l → y.toBitVec.toNat.testBit c = false) : (y ^^^ (-1 : Int32)) &&& (y - (1 : Int32)) = Int32.ofNat (2 ^ l - 1) := by
  obtain ⟨k, hk⟩ := z_least y.toBitVec.toNat h1 h0
  have hp := Nat.two_pow_pos l
  have hx : 1 ≤ y.toBitVec.toNat := by
    rw [hk, Nat.mul_add]
    omega
  have hlt := y.toBitVec.isLt
  apply Int32.toBitVec_inj.mp
  apply BitVec.eq_of_getLsbD_eq
  intro c hc
  rw [Int32.toBitVec_and, Int32.toBitVec_xor, Int32.toBitVec_sub, BitVec.getLsbD_and, BitVec.getLsbD_xor]
  have e1 : (-1 : Int32).toBitVec = BitVec.allOnes 32 := by decide
  have e2 : (y.toBitVec - (1 : Int32).toBitVec).toNat = y.toBitVec.toNat - 1 := by
    rw [BitVec.toNat_sub, show (1 : Int32).toBitVec.toNat = 1 from rfl]
    omega
  have e3 : (Int32.ofNat (2 ^ l - 1)).toBitVec.toNat = 2 ^ l - 1 := by
    show (BitVec.ofNat 32 (2 ^ l - 1)).toNat = _
    rw [BitVec.toNat_ofNat, Nat.mod_eq_of_lt]
    have := Nat.pow_le_pow_right (show 0 < 2 by omega) (show l ≤ 31 by omega)
    omega
  rw [e1, BitVec.getLsbD_allOnes, ← BitVec.testBit_toNat, ← BitVec.testBit_toNat, ← BitVec.testBit_toNat, e2, e3, hk, z_pred_bit, Nat.testBit_two_pow_sub_one]
  by_cases w : c < l
  · have := h0 c w
    rw [hk] at this
    rw [this]
    simp [w, hc]
  · by_cases z : c = l
    · simp [w, z]
    · simp [w, z, hc]
theorem zn_toInt32 (x : Int64) : (Int64.toInt32 x).toBitVec.toNat = zn x % 2 ^ 32 := by
  show (x.toBitVec.signExtend 32).toNat = _
  rw [BitVec.signExtend_eq_setWidth_of_le _ (by omega), BitVec.toNat_setWidth]
  rfl
theorem s_trailing (x : Int64) {l : Nat} (hl : l < 64) (h1 : zb x l = true) (h0 : ∀ c, c < l → zb x c = false) (m : zM) : f_J13_numberOfTrailingZeros_95d88 x m = some (Int32.ofNat l) := by
  unfold f_J13_numberOfTrailingZeros_95d88
  have z0 : Int64.toInt32 x = 0 ↔ zn x % 2 ^ 32 = 0 := by
    rw [← zn_toInt32]
    constructor
    · intro h; rw [h]; rfl
    · intro h
      apply Int32.toBitVec_inj.mp
      apply BitVec.eq_of_toNat_eq
      rw [h]
      rfl
  by_cases w : l < 32
  · have hne : ¬ zn x % 2 ^ 32 = 0 := fun q => by
      have : (zn x % 2 ^ 32).testBit l = true := by rw [Nat.testBit_mod_two_pow, ← zb_zn, h1]; simpa using w
      rw [q, Nat.zero_testBit] at this
      cases this
    rw [if_neg (mt z0.mp hne), zn5_eq, z_i32_low _ w (by rw [zn_toInt32, Nat.testBit_mod_two_pow, ← zb_zn, h1]; simpa using w) fun c hc => by rw [zn_toInt32, Nat.testBit_mod_two_pow, ← zb_zn, h0 c hc]; simp, zn5_v l w, Option.bind_some]
  · have he : zn x % 2 ^ 32 = 0 := by
      apply Nat.eq_of_testBit_eq
      intro i
      rw [Nat.testBit_mod_two_pow, Nat.zero_testBit]
      by_cases q : i < 32
      · rw [← zb_zn, h0 i (by omega)]; simp
      · simp [q]
    have tb : ∀ c, c < 32 → ((Int64.toInt32 (z_ushr x (32 : Int32))).toBitVec.toNat).testBit c = zb x (c + 32) := fun c hc => by
      rw [zn_toInt32, show (32 : Int32) = Int32.ofNat 32 from rfl, zn_shr x (by omega), Nat.testBit_mod_two_pow, Nat.testBit_div_two_pow, ← zb_zn]
      simp [hc]
    rw [if_pos (z0.mpr he), zn5_eq, z_i32_low (l := l - 32) _ (by omega) (by rw [tb _ (by omega), show l - 32 + 32 = l by omega]; exact h1) fun c hc => by rw [tb c (by omega)]; exact h0 _ (by omega), zn5_v _ (by omega), Option.bind_some, show (32 : Int32) = Int32.ofNat 32 from rfl, zi_add]
    congr 2
    omega
