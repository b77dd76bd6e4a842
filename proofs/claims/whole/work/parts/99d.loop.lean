/-! The law's loop. -/
theorem z_and63 (x : Int32) : ∃ n, n < 64 ∧ x &&& 63 = Int32.ofNat n := by
  refine ⟨(x.toBitVec &&& 63#32).toNat, ?_, ?_⟩
  · rw [BitVec.toNat_and]
    exact Nat.lt_of_le_of_lt Nat.and_le_right (by decide)
  · rw [← Int32.toBitVec_inj]
    show x.toBitVec &&& 63#32 = BitVec.ofNat 32 (x.toBitVec &&& 63#32).toNat
    rw [BitVec.ofNat_toNat, BitVec.setWidth_eq]
def zSwO : Array Int := #[208, 276, 344, 412, 492, 560, 628, 719, 775, 843, 899, 955, 1011, 1079, 1135, 1191, 1247, 1303, 1371, 1436, 1492, 1560, 1628, 1683, 1751, 1807, 1863, 1931, 1987, 2055, 2068, 2136, 2204, 2259, 2327, 2407, 2487, 2574, 2641, 2709, 2777, 2845, 2903, 2947, 2991, 3047, 3091, 3104]
def zSwT : List Nat := [252, 320, 388, 456, 536, 604, 672, 763, 819, 887, 943, 999, 1055, 1123, 1179, 1235, 1291, 1347, 1415, 1480, 1536, 1604, 1672, 1727, 1795, 1851, 1907, 1975, 2031, 2099, 2112, 2180, 2248, 2303, 2371, 2451, 2531, 2618, 2685, 2753, 2821, 2889, 2947, 2991, 3035, 3091, 3135, 3148]
theorem z_swn : ∀ n, n < 64 → z_swT 44 3148 0 47 zSwO (Int32.ofNat n) = zSwT.getD n 3192 := by decide +kernel
theorem z_sw48 : ∀ n, n < 64 → 48 ≤ n → zSwT.getD n 3192 = 3192 := by decide +kernel
section
variable {xs : Nat → Int32} {L b : Nat} {G : Nat → Nat → zL → List zA → zM → Prop}
theorem lw_round (R : zLw xs L b G) (mono : ∀ k pc ls st m, G k pc ls st m → G (3 + k) pc ls st m) {x5 : Int32} (hin0 : vp_in x5 L) (hin : ∀ K : Int32, (K = 1 ∨ K = 2 ∨ K = 3) → vp_in (x5 + K) L) {k : Nat} {m : zM} (I : zInv m) (kk : ∀ m', zInv m' → G k 3192 (lwL b x5) [] m') : G (3 + k) 37 (lwL b x5) [] m := by
  have hct : z_okT 0 code tWh = true := oTh
  refine R.2.2.2.2.2.1 _ _ _ _ _ (zl_ald hct rfl) rfl ?_
  refine zl_st R hct 1 40 (lwL b x5) [.inl (.int x5), .inl (.ref b)] m rfl ⟨trivial, trivial⟩ ?_
  refine R.2.2.2.2.2.2.1 _ _ _ _ _ _ (zl_inl hct rfl) hin0 ?_
  refine zl_st R hct 2 44 (lwL b x5) [.inl (.int (xs x5.toNatClampNeg &&& 63))] m rfl ⟨trivial, trivial, trivial⟩ ?_
  obtain ⟨n, hn, e⟩ := z_and63 (xs x5.toNatClampNeg)
  rw [e]
  refine R.2.2.1 tWh hct _ _ _ _ _ (z_swT 44 3148 0 47 zSwO (Int32.ofNat n)) [] rfl ?_
  rw [z_swn n hn]
  rcases (show n = 0 ∨ n = 1 ∨ n = 2 ∨ n = 3 ∨ n = 4 ∨ n = 5 ∨ n = 6 ∨ n = 7 ∨ n = 8 ∨ n = 9 ∨ n = 10 ∨ n = 11 ∨ n = 12 ∨ n = 13 ∨ n = 14 ∨ n = 15 ∨ n = 16 ∨ n = 17 ∨ n = 18 ∨ n = 19 ∨ n = 20 ∨ n = 21 ∨ n = 22 ∨ n = 23 ∨ n = 24 ∨ n = 25 ∨ n = 26 ∨ n = 27 ∨ n = 28 ∨ n = 29 ∨ n = 30 ∨ n = 31 ∨ n = 32 ∨ n = 33 ∨ n = 34 ∨ n = 35 ∨ n = 36 ∨ n = 37 ∨ n = 38 ∨ n = 39 ∨ n = 40 ∨ n = 41 ∨ n = 42 ∨ n = 43 ∨ n = 44 ∨ n = 45 ∨ n = 46 ∨ n = 47 ∨ 48 ≤ n by omega) with rfl | rfl | rfl | rfl | rfl | rfl | rfl | rfl | rfl | rfl | rfl | rfl | rfl | rfl | rfl | rfl | rfl | rfl | rfl | rfl | rfl | rfl | rfl | rfl | rfl | rfl | rfl | rfl | rfl | rfl | rfl | rfl | rfl | rfl | rfl | rfl | rfl | rfl | rfl | rfl | rfl | rfl | rfl | rfl | rfl | rfl | rfl | rfl | h48
  · exact lw_c0 R hin I kk
  · exact lw_c1 R hin I kk
  · exact lw_c2 R hin I kk
  · exact lw_c3 R hin I kk
  · exact lw_c4 R hin I kk
  · exact lw_c5 R hin I kk
  · exact lw_c6 R hin I kk
  · exact lw_c7 R hin I kk
  · exact lw_c8 R hin I kk
  · exact lw_c9 R hin I kk
  · exact lw_c10 R hin I kk
  · exact lw_c11 R hin I kk
  · exact lw_c12 R hin I kk
  · exact lw_c13 R hin I kk
  · exact lw_c14 R hin I kk
  · exact lw_c15 R hin I kk
  · exact lw_c16 R hin I kk
  · exact lw_c17 R hin I kk
  · exact lw_c18 R hin I kk
  · exact lw_c19 R hin I kk
  · exact lw_c20 R hin I kk
  · exact lw_c21 R hin I kk
  · exact lw_c22 R hin I kk
  · exact lw_c23 R hin I kk
  · exact lw_c24 R hin I kk
  · exact lw_c25 R hin I kk
  · exact lw_c26 R hin I kk
  · exact lw_c27 R hin I kk
  · exact lw_c28 R hin I kk
  · exact lw_c29 R hin I kk
  · exact lw_c30 R hin I kk
  · exact lw_c31 R hin I kk
  · exact lw_c32 R hin I kk
  · exact lw_c33 R hin I kk
  · exact lw_c34 R hin I kk
  · exact lw_c35 R hin I kk
  · exact lw_c36 R hin I kk
  · exact lw_c37 R hin I kk
  · exact lw_c38 R hin I kk
  · exact lw_c39 R hin I kk
  · exact lw_c40 R hin I kk
  · exact lw_c41 R hin I kk
  · exact lw_c42 R hin I kk
  · exact lw_c43 R hin I kk
  · exact lw_c44 R hin I kk
  · exact lw_c45 R hin I kk
  · exact lw_c46 R hin I kk
  · exact lw_c47 R hin I kk
  · rw [z_sw48 n hn h48]
    exact mono _ _ _ _ _ (kk m I)
theorem z_lt4 {j : Nat} (hL : L ≤ 2048) (hj : 4 * j ≤ 2052) : (Int32.ofNat L - 4 < Int32.ofNat (4 * j)) ↔ L < 4 * j + 4 := by
  by_cases w : 4 ≤ L
  · rw [show (4 : Int32) = Int32.ofNat 4 from rfl, zi_sub w, zi_lt (by omega) (by omega)]
    omega
  · have h : (Int32.ofNat L - 4).toInt = (L : Int) - 4 := by
      rcases (show L = 0 ∨ L = 1 ∨ L = 2 ∨ L = 3 by omega) with rfl | rfl | rfl | rfl <;> decide
    rw [Int32.lt_iff_toInt_lt, h, zi_toInt (by omega)]
    omega
theorem lw_loop (R : zLw xs L b G) (mono : ∀ k pc ls st m, G k pc ls st m → G (3 + k) pc ls st m) (hend : ∀ k ls m, G k 3198 ls [] m) (hL : L ≤ 2048) : ∀ (n j : Nat), 4 * j ≤ 2052 → L < 4 * (j + n) + 4 → ∀ (k : Nat) (m : zM), zInv m → G (3 * n + k) 28 (lwL b (Int32.ofNat (4 * j))) [] m := by
  intro n
  induction n with
  | zero =>
    intro j hj h k m I
    have hct : z_okT 0 code tWh = true := oTh
    refine zl_st R hct 1 30 (lwL b (Int32.ofNat (4 * j))) [.inl (.int (Int32.ofNat (4 * j)))] m rfl ⟨trivial, trivial⟩ ?_
    refine R.2.2.2.2.2.1 _ _ _ _ _ (zl_ald hct rfl) rfl ?_
    refine R.2.2.2.2.2.2.2 _ _ _ _ _ (zl_len hct rfl) ?_
    refine zl_st R hct 2 34 (lwL b (Int32.ofNat (4 * j))) [.inl (.int (Int32.ofNat L - 4)), .inl (.int (Int32.ofNat (4 * j)))] m rfl ⟨trivial, trivial, trivial⟩ ?_
    refine zl_br R hct rfl (fun _ => hend _ _ _) (fun cq => absurd ((z_lt4 hL hj).mpr (by omega)) cq)
  | succ n ih =>
    intro j hj h k m I
    have hct : z_okT 0 code tWh = true := oTh
    refine zl_st R hct 1 30 (lwL b (Int32.ofNat (4 * j))) [.inl (.int (Int32.ofNat (4 * j)))] m rfl ⟨trivial, trivial⟩ ?_
    refine R.2.2.2.2.2.1 _ _ _ _ _ (zl_ald hct rfl) rfl ?_
    refine R.2.2.2.2.2.2.2 _ _ _ _ _ (zl_len hct rfl) ?_
    refine zl_st R hct 2 34 (lwL b (Int32.ofNat (4 * j))) [.inl (.int (Int32.ofNat L - 4)), .inl (.int (Int32.ofNat (4 * j)))] m rfl ⟨trivial, trivial, trivial⟩ ?_
    refine zl_br R hct rfl (fun _ => hend _ _ _) (fun cq => ?_)
    have hlt : 4 * j + 4 ≤ L := by
      have := mt (z_lt4 hL hj).mpr cq
      omega
    have inr : ∀ K : Nat, K < 4 → vp_in (Int32.ofNat (4 * j + K)) L := fun K hK => by
      unfold vp_in
      rw [zi_nat (by omega)]
      rintro (h9 | h9)
      · exact zi_nn (by omega) h9
      · omega
    rw [show 3 * (n + 1) + k = 3 + (3 * n + k) by omega]
    refine lw_round R mono (inr 0 (by decide)) (fun K hK => ?_) I (fun m' I' => ?_)
    · rcases hK with rfl | rfl | rfl
      · rw [show (1 : Int32) = Int32.ofNat 1 from rfl, zi_add]
        exact inr 1 (by decide)
      · rw [show (2 : Int32) = Int32.ofNat 2 from rfl, zi_add]
        exact inr 2 (by decide)
      · rw [show (3 : Int32) = Int32.ofNat 3 from rfl, zi_add]
        exact inr 3 (by decide)
    · refine zl_st R oTe 2 28 (lwL b (Int32.ofNat (4 * j) + 4)) [] m' rfl ⟨trivial, trivial, trivial⟩ ?_
      rw [show (4 : Int32) = Int32.ofNat 4 from rfl, zi_add, show 4 * j + 4 = 4 * (j + 1) by omega]
      exact ih (j + 1) (by omega) (by omega) k m' I'
end
