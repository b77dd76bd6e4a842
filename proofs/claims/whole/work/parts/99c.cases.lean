/-! The law's cases. -/
theorem z_ord {x : FP.Core.Datum} (h : x ≠ .nan) : FP.Core.order x x = some .eq := by
  have c : ∀ a : Int, compare a a = .eq := fun a => by simp [compare, compareOfLessAndEq]
  cases x with
  | nan => exact absurd rfl h
  | inf s => exact congrArg some (c _)
  | fin s q r => exact congrArg some (c _)
theorem z_dc {b : UInt64} (h : z_nan b = true) : FP.dcmp b b = some .eq := by
  refine z_ord ?_
  unfold z_nan at h
  have h := UInt64.le_iff_toNat_le.mp (of_decide_eq_true h)
  rw [UInt64.toNat_and, show (0x7fffffffffffffff : UInt64).toNat = 2 ^ 63 - 1 from rfl, Nat.and_two_pow_sub_one_eq_mod] at h
  have h : b.toNat % 9223372036854775808 ≤ 9218868437227405312 := h
  show FP.Core.decode FP.Core.b64 b.toNat ≠ .nan
  unfold FP.Core.decode
  have e1 : FP.Core.fieldE FP.Core.b64 b.toNat = b.toNat / 4503599627370496 % 2048 := rfl
  have e2 : FP.Core.fieldT FP.Core.b64 b.toNat = b.toNat % 4503599627370496 := rfl
  have e3 : FP.Core.b64.exps - 1 = 2047 := rfl
  rw [e1, e2, e3]
  by_cases w1 : b.toNat / 4503599627370496 % 2048 = 2047
  · rw [if_pos w1, if_pos (by omega)]
    intro w
    cases w
  · rw [if_neg w1]
    by_cases w2 : b.toNat / 4503599627370496 % 2048 = 0
    · rw [if_pos w2]
      intro w
      cases w
    · rw [if_neg w2]
      intro w
      cases w
theorem lw_c0 {xs : Nat → Int32} {L b : Nat} {G : Nat → Nat → zL → List zA → zM → Prop} (R : zLw xs L b G) {x5 : Int32} (hin : ∀ K : Int32, (K = 1 ∨ K = 2 ∨ K = 3) → vp_in (x5 + K) L) {k : Nat} {m : zM} (I : zInv m) (kk : ∀ m', zInv m' → G k 3192 (lwL b x5) [] m') : G (3 + k) 252 (lwL b x5) [] m := by
  have hct : z_okT 0 code tW0 = true := oT0
  have hcc : z_okC 0 code z_MT tW0 = true := oC0
  obtain ⟨k0, m1, b0, m2, hX, hY, hk, hb, I2⟩ := t_resize I (xs (x5 + 1).toNatClampNeg) (xs (x5 + 2).toNatClampNeg)
  refine zl_st R hct 1 253 [some (.inl (.ref b)), some (.inr (12, 0)), some (.inr (13, 0)), some (.inr (32, 0)), some (.inr (33, 0)), some (.inl (.int x5)), none, none, none] [.inr (12, 0)] m rfl ⟨trivial, trivial⟩ ?_
  refine zl_arg R hct 1 rfl rfl rfl ⟨trivial, trivial, trivial, trivial⟩ rfl (hin 1 (by decide)) ?_
  refine zl_arg R hct 2 rfl rfl rfl ⟨trivial, trivial, trivial, trivial⟩ rfl (hin 2 (by decide)) ?_
  refine zl_st R hct 1 266 [some (.inl (.ref b)), some (.inr (12, 0)), some (.inr (13, 0)), some (.inr (32, 0)), some (.inr (33, 0)), some (.inl (.int x5)), none, none, none] [.inr (32, 0), .inl (.int (xs (x5 + 2).toNatClampNeg)), .inl (.int (xs (x5 + 1).toNatClampNeg)), .inr (12, 0)] m rfl ⟨trivial, trivial⟩ ?_
  refine zl_call R hcc (d := 5) (k1 := 3) (k2 := k) (by decide) rfl r_L_resize (w_L_resize 0 1 (xs (x5 + 1).toNatClampNeg) (xs (x5 + 2).toNatClampNeg) m (k0, m1) hX) ?_
  refine zl_st R hct 2 272 [some (.inl (.ref b)), some (.inr (12, 0)), some (.inr (13, 0)), some (.inr (32, 0)), some (.inr (33, 0)), some (.inl (.int x5)), some (.inl (.int k0)), none, none] [.inr (13, 0)] m1 rfl ⟨trivial, trivial, trivial⟩ ?_
  refine zl_arg R hct 1 rfl rfl rfl ⟨trivial, trivial, trivial, trivial⟩ rfl (hin 1 (by decide)) ?_
  refine zl_arg R hct 2 rfl rfl rfl ⟨trivial, trivial, trivial, trivial⟩ rfl (hin 2 (by decide)) ?_
  refine zl_call0 R hcc (d := 2) (by decide) rfl (r_X12_resize (Nat.le_of_ble_eq_true rfl)) (w_X12_resize 0 0 (xs (x5 + 1).toNatClampNeg) (xs (x5 + 2).toNatClampNeg) m1 (b0, m2) hY) ?_
  refine zl_st R hct 2 290 [some (.inl (.ref b)), some (.inr (12, 0)), some (.inr (13, 0)), some (.inr (32, 0)), some (.inr (33, 0)), some (.inl (.int x5)), some (.inl (.int k0)), some (.inl (.int b0)), none] [.inr (13, 0)] m2 rfl ⟨trivial, trivial, trivial⟩ ?_
  refine zl_call0 R hcc (d := 1) (by decide) rfl (r_X12_thrown (Nat.le_of_ble_eq_true rfl)) (w_X12_thrown 0 0 m2 (m2.1 13 0 0) rfl) ?_
  refine zl_st R hct 1 295 [some (.inl (.ref b)), some (.inr (12, 0)), some (.inr (13, 0)), some (.inr (32, 0)), some (.inr (33, 0)), some (.inl (.int x5)), some (.inl (.int k0)), some (.inl (.int b0)), none] [.inl (.int k0), .inl (.int (m2.1 13 0 0))] m2 rfl ⟨trivial, trivial⟩ ?_
  refine zl_br R hct rfl (fun _ => ?_) (fun cq => absurd hk cq)
  refine zl_st R hct 1 302 [some (.inl (.ref b)), some (.inr (12, 0)), some (.inr (13, 0)), some (.inr (32, 0)), some (.inr (33, 0)), some (.inl (.int x5)), some (.inl (.int k0)), some (.inl (.int b0)), none] [.inl (.int k0)] m2 rfl ⟨trivial, trivial⟩ ?_
  refine zl_br R hct rfl (fun c0 => ?_) (fun _ => ?_)
  · refine zl_st R hct 6 312 [some (.inl (.ref b)), some (.inr (12, 0)), some (.inr (13, 0)), some (.inr (32, 0)), some (.inr (33, 0)), some (.inl (.int x5)), some (.inl (.int k0)), some (.inl (.int b0)), none] [.inl (.int (lg_cmp (m2.2.1 32 0 0) (Int32.toInt64 b0)))] m2 rfl ⟨trivial, trivial, ⟨(Nat.le_of_ble_eq_true rfl), by unfold vp_in; decide⟩, trivial, trivial, trivial, trivial⟩ ?_
    refine zl_br R hct rfl (fun _ => ?_) (fun cq => absurd (by rw [hb c0]; exact z_cmp_self _) cq)
    refine zl_st R hct 1 3192 [some (.inl (.ref b)), some (.inr (12, 0)), some (.inr (13, 0)), some (.inr (32, 0)), some (.inr (33, 0)), some (.inl (.int x5)), some (.inl (.int k0)), some (.inl (.int b0)), none] [] m2 rfl ⟨trivial, trivial⟩ ?_
    exact zl_mask R [true, true, true, true, true, true, false, false, false] rfl (kk _ I2)
  · refine zl_st R hct 1 3192 [some (.inl (.ref b)), some (.inr (12, 0)), some (.inr (13, 0)), some (.inr (32, 0)), some (.inr (33, 0)), some (.inl (.int x5)), some (.inl (.int k0)), some (.inl (.int b0)), none] [] m2 rfl ⟨trivial, trivial⟩ ?_
    exact zl_mask R [true, true, true, true, true, true, false, false, false] rfl (kk _ I2)
theorem lw_c1 {xs : Nat → Int32} {L b : Nat} {G : Nat → Nat → zL → List zA → zM → Prop} (R : zLw xs L b G) {x5 : Int32} (hin : ∀ K : Int32, (K = 1 ∨ K = 2 ∨ K = 3) → vp_in (x5 + K) L) {k : Nat} {m : zM} (I : zInv m) (kk : ∀ m', zInv m' → G k 3192 (lwL b x5) [] m') : G (3 + k) 320 (lwL b x5) [] m := by
  have hct : z_okT 0 code tW1 = true := oT1
  have hcc : z_okC 0 code z_MT tW1 = true := oC1
  obtain ⟨k0, m1, b0, m2, hX, hY, hk, hb, I2⟩ := t_scatter I (xs (x5 + 1).toNatClampNeg) (xs (x5 + 2).toNatClampNeg)
  refine zl_st R hct 1 321 [some (.inl (.ref b)), some (.inr (12, 0)), some (.inr (13, 0)), some (.inr (32, 0)), some (.inr (33, 0)), some (.inl (.int x5)), none, none, none] [.inr (12, 0)] m rfl ⟨trivial, trivial⟩ ?_
  refine zl_arg R hct 1 rfl rfl rfl ⟨trivial, trivial, trivial, trivial⟩ rfl (hin 1 (by decide)) ?_
  refine zl_arg R hct 2 rfl rfl rfl ⟨trivial, trivial, trivial, trivial⟩ rfl (hin 2 (by decide)) ?_
  refine zl_st R hct 1 334 [some (.inl (.ref b)), some (.inr (12, 0)), some (.inr (13, 0)), some (.inr (32, 0)), some (.inr (33, 0)), some (.inl (.int x5)), none, none, none] [.inr (32, 0), .inl (.int (xs (x5 + 2).toNatClampNeg)), .inl (.int (xs (x5 + 1).toNatClampNeg)), .inr (12, 0)] m rfl ⟨trivial, trivial⟩ ?_
  refine zl_call R hcc (d := 5) (k1 := 3) (k2 := k) (by decide) rfl r_L_scatter (w_L_scatter 0 2 (xs (x5 + 1).toNatClampNeg) (xs (x5 + 2).toNatClampNeg) m (k0, m1) hX) ?_
  refine zl_st R hct 2 340 [some (.inl (.ref b)), some (.inr (12, 0)), some (.inr (13, 0)), some (.inr (32, 0)), some (.inr (33, 0)), some (.inl (.int x5)), some (.inl (.int k0)), none, none] [.inr (13, 0)] m1 rfl ⟨trivial, trivial, trivial⟩ ?_
  refine zl_arg R hct 1 rfl rfl rfl ⟨trivial, trivial, trivial, trivial⟩ rfl (hin 1 (by decide)) ?_
  refine zl_arg R hct 2 rfl rfl rfl ⟨trivial, trivial, trivial, trivial⟩ rfl (hin 2 (by decide)) ?_
  refine zl_call0 R hcc (d := 2) (by decide) rfl (r_X12_scatter (Nat.le_of_ble_eq_true rfl)) (w_X12_scatter 0 0 (xs (x5 + 1).toNatClampNeg) (xs (x5 + 2).toNatClampNeg) m1 (b0, m2) hY) ?_
  refine zl_st R hct 2 358 [some (.inl (.ref b)), some (.inr (12, 0)), some (.inr (13, 0)), some (.inr (32, 0)), some (.inr (33, 0)), some (.inl (.int x5)), some (.inl (.int k0)), some (.inl (.int b0)), none] [.inr (13, 0)] m2 rfl ⟨trivial, trivial, trivial⟩ ?_
  refine zl_call0 R hcc (d := 1) (by decide) rfl (r_X12_thrown (Nat.le_of_ble_eq_true rfl)) (w_X12_thrown 0 0 m2 (m2.1 13 0 0) rfl) ?_
  refine zl_st R hct 1 363 [some (.inl (.ref b)), some (.inr (12, 0)), some (.inr (13, 0)), some (.inr (32, 0)), some (.inr (33, 0)), some (.inl (.int x5)), some (.inl (.int k0)), some (.inl (.int b0)), none] [.inl (.int k0), .inl (.int (m2.1 13 0 0))] m2 rfl ⟨trivial, trivial⟩ ?_
  refine zl_br R hct rfl (fun _ => ?_) (fun cq => absurd hk cq)
  refine zl_st R hct 1 370 [some (.inl (.ref b)), some (.inr (12, 0)), some (.inr (13, 0)), some (.inr (32, 0)), some (.inr (33, 0)), some (.inl (.int x5)), some (.inl (.int k0)), some (.inl (.int b0)), none] [.inl (.int k0)] m2 rfl ⟨trivial, trivial⟩ ?_
  refine zl_br R hct rfl (fun c0 => ?_) (fun _ => ?_)
  · refine zl_st R hct 6 380 [some (.inl (.ref b)), some (.inr (12, 0)), some (.inr (13, 0)), some (.inr (32, 0)), some (.inr (33, 0)), some (.inl (.int x5)), some (.inl (.int k0)), some (.inl (.int b0)), none] [.inl (.int (lg_cmp (m2.2.1 32 0 0) (Int32.toInt64 b0)))] m2 rfl ⟨trivial, trivial, ⟨(Nat.le_of_ble_eq_true rfl), by unfold vp_in; decide⟩, trivial, trivial, trivial, trivial⟩ ?_
    refine zl_br R hct rfl (fun _ => ?_) (fun cq => absurd (by rw [hb c0]; exact z_cmp_self _) cq)
    refine zl_st R hct 1 3192 [some (.inl (.ref b)), some (.inr (12, 0)), some (.inr (13, 0)), some (.inr (32, 0)), some (.inr (33, 0)), some (.inl (.int x5)), some (.inl (.int k0)), some (.inl (.int b0)), none] [] m2 rfl ⟨trivial, trivial⟩ ?_
    exact zl_mask R [true, true, true, true, true, true, false, false, false] rfl (kk _ I2)
  · refine zl_st R hct 1 3192 [some (.inl (.ref b)), some (.inr (12, 0)), some (.inr (13, 0)), some (.inr (32, 0)), some (.inr (33, 0)), some (.inl (.int x5)), some (.inl (.int k0)), some (.inl (.int b0)), none] [] m2 rfl ⟨trivial, trivial⟩ ?_
    exact zl_mask R [true, true, true, true, true, true, false, false, false] rfl (kk _ I2)
theorem lw_c2 {xs : Nat → Int32} {L b : Nat} {G : Nat → Nat → zL → List zA → zM → Prop} (R : zLw xs L b G) {x5 : Int32} (hin : ∀ K : Int32, (K = 1 ∨ K = 2 ∨ K = 3) → vp_in (x5 + K) L) {k : Nat} {m : zM} (I : zInv m) (kk : ∀ m', zInv m' → G k 3192 (lwL b x5) [] m') : G (3 + k) 388 (lwL b x5) [] m := by
  have hct : z_okT 0 code tW2 = true := oT2
  have hcc : z_okC 0 code z_MT tW2 = true := oC2
  obtain ⟨k0, m1, b0, m2, hX, hY, hk, hb, I2⟩ := t_setHeight I (xs (x5 + 1).toNatClampNeg) (xs (x5 + 2).toNatClampNeg)
  refine zl_st R hct 1 389 [some (.inl (.ref b)), some (.inr (12, 0)), some (.inr (13, 0)), some (.inr (32, 0)), some (.inr (33, 0)), some (.inl (.int x5)), none, none, none] [.inr (12, 0)] m rfl ⟨trivial, trivial⟩ ?_
  refine zl_arg R hct 1 rfl rfl rfl ⟨trivial, trivial, trivial, trivial⟩ rfl (hin 1 (by decide)) ?_
  refine zl_arg R hct 2 rfl rfl rfl ⟨trivial, trivial, trivial, trivial⟩ rfl (hin 2 (by decide)) ?_
  refine zl_st R hct 1 402 [some (.inl (.ref b)), some (.inr (12, 0)), some (.inr (13, 0)), some (.inr (32, 0)), some (.inr (33, 0)), some (.inl (.int x5)), none, none, none] [.inr (32, 0), .inl (.int (xs (x5 + 2).toNatClampNeg)), .inl (.int (xs (x5 + 1).toNatClampNeg)), .inr (12, 0)] m rfl ⟨trivial, trivial⟩ ?_
  refine zl_call R hcc (d := 5) (k1 := 3) (k2 := k) (by decide) rfl r_L_setHeight (w_L_setHeight 0 1 (xs (x5 + 1).toNatClampNeg) (xs (x5 + 2).toNatClampNeg) m (k0, m1) hX) ?_
  refine zl_st R hct 2 408 [some (.inl (.ref b)), some (.inr (12, 0)), some (.inr (13, 0)), some (.inr (32, 0)), some (.inr (33, 0)), some (.inl (.int x5)), some (.inl (.int k0)), none, none] [.inr (13, 0)] m1 rfl ⟨trivial, trivial, trivial⟩ ?_
  refine zl_arg R hct 1 rfl rfl rfl ⟨trivial, trivial, trivial, trivial⟩ rfl (hin 1 (by decide)) ?_
  refine zl_arg R hct 2 rfl rfl rfl ⟨trivial, trivial, trivial, trivial⟩ rfl (hin 2 (by decide)) ?_
  refine zl_call0 R hcc (d := 4) (by decide) rfl (r_X12_setHeight (Nat.le_of_ble_eq_true rfl)) (w_X12_setHeight 0 0 (xs (x5 + 1).toNatClampNeg) (xs (x5 + 2).toNatClampNeg) m1 (b0, m2) hY) ?_
  refine zl_st R hct 2 426 [some (.inl (.ref b)), some (.inr (12, 0)), some (.inr (13, 0)), some (.inr (32, 0)), some (.inr (33, 0)), some (.inl (.int x5)), some (.inl (.int k0)), some (.inl (.int b0)), none] [.inr (13, 0)] m2 rfl ⟨trivial, trivial, trivial⟩ ?_
  refine zl_call0 R hcc (d := 1) (by decide) rfl (r_X12_thrown (Nat.le_of_ble_eq_true rfl)) (w_X12_thrown 0 0 m2 (m2.1 13 0 0) rfl) ?_
  refine zl_st R hct 1 431 [some (.inl (.ref b)), some (.inr (12, 0)), some (.inr (13, 0)), some (.inr (32, 0)), some (.inr (33, 0)), some (.inl (.int x5)), some (.inl (.int k0)), some (.inl (.int b0)), none] [.inl (.int k0), .inl (.int (m2.1 13 0 0))] m2 rfl ⟨trivial, trivial⟩ ?_
  refine zl_br R hct rfl (fun _ => ?_) (fun cq => absurd hk cq)
  refine zl_st R hct 1 438 [some (.inl (.ref b)), some (.inr (12, 0)), some (.inr (13, 0)), some (.inr (32, 0)), some (.inr (33, 0)), some (.inl (.int x5)), some (.inl (.int k0)), some (.inl (.int b0)), none] [.inl (.int k0)] m2 rfl ⟨trivial, trivial⟩ ?_
  refine zl_br R hct rfl (fun c0 => ?_) (fun _ => ?_)
  · refine zl_st R hct 6 448 [some (.inl (.ref b)), some (.inr (12, 0)), some (.inr (13, 0)), some (.inr (32, 0)), some (.inr (33, 0)), some (.inl (.int x5)), some (.inl (.int k0)), some (.inl (.int b0)), none] [.inl (.int (lg_cmp (m2.2.1 32 0 0) (Int32.toInt64 b0)))] m2 rfl ⟨trivial, trivial, ⟨(Nat.le_of_ble_eq_true rfl), by unfold vp_in; decide⟩, trivial, trivial, trivial, trivial⟩ ?_
    refine zl_br R hct rfl (fun _ => ?_) (fun cq => absurd (by rw [hb c0]; exact z_cmp_self _) cq)
    refine zl_st R hct 1 3192 [some (.inl (.ref b)), some (.inr (12, 0)), some (.inr (13, 0)), some (.inr (32, 0)), some (.inr (33, 0)), some (.inl (.int x5)), some (.inl (.int k0)), some (.inl (.int b0)), none] [] m2 rfl ⟨trivial, trivial⟩ ?_
    exact zl_mask R [true, true, true, true, true, true, false, false, false] rfl (kk _ I2)
  · refine zl_st R hct 1 3192 [some (.inl (.ref b)), some (.inr (12, 0)), some (.inr (13, 0)), some (.inr (32, 0)), some (.inr (33, 0)), some (.inl (.int x5)), some (.inl (.int k0)), some (.inl (.int b0)), none] [] m2 rfl ⟨trivial, trivial⟩ ?_
    exact zl_mask R [true, true, true, true, true, true, false, false, false] rfl (kk _ I2)
theorem lw_c3 {xs : Nat → Int32} {L b : Nat} {G : Nat → Nat → zL → List zA → zM → Prop} (R : zLw xs L b G) {x5 : Int32} (hin : ∀ K : Int32, (K = 1 ∨ K = 2 ∨ K = 3) → vp_in (x5 + K) L) {k : Nat} {m : zM} (I : zInv m) (kk : ∀ m', zInv m' → G k 3192 (lwL b x5) [] m') : G (3 + k) 456 (lwL b x5) [] m := by
  have hct : z_okT 0 code tW3 = true := oT3
  have hcc : z_okC 0 code z_MT tW3 = true := oC3
  obtain ⟨k0, m1, b0, m2, hX, hY, hk, hb, I2⟩ := t_raise I (xs (x5 + 1).toNatClampNeg) (xs (x5 + 2).toNatClampNeg) (xs (x5 + 3).toNatClampNeg)
  refine zl_st R hct 1 457 [some (.inl (.ref b)), some (.inr (12, 0)), some (.inr (13, 0)), some (.inr (32, 0)), some (.inr (33, 0)), some (.inl (.int x5)), none, none, none] [.inr (12, 0)] m rfl ⟨trivial, trivial⟩ ?_
  refine zl_arg R hct 1 rfl rfl rfl ⟨trivial, trivial, trivial, trivial⟩ rfl (hin 1 (by decide)) ?_
  refine zl_arg R hct 2 rfl rfl rfl ⟨trivial, trivial, trivial, trivial⟩ rfl (hin 2 (by decide)) ?_
  refine zl_arg R hct 3 rfl rfl rfl ⟨trivial, trivial, trivial, trivial⟩ rfl (hin 3 (by decide)) ?_
  refine zl_st R hct 1 476 [some (.inl (.ref b)), some (.inr (12, 0)), some (.inr (13, 0)), some (.inr (32, 0)), some (.inr (33, 0)), some (.inl (.int x5)), none, none, none] [.inr (32, 0), .inl (.int (xs (x5 + 3).toNatClampNeg)), .inl (.int (xs (x5 + 2).toNatClampNeg)), .inl (.int (xs (x5 + 1).toNatClampNeg)), .inr (12, 0)] m rfl ⟨trivial, trivial⟩ ?_
  refine zl_call R hcc (d := 5) (k1 := 3) (k2 := k) (by decide) rfl r_L_raise (w_L_raise 0 0 (xs (x5 + 1).toNatClampNeg) (xs (x5 + 2).toNatClampNeg) (xs (x5 + 3).toNatClampNeg) m (k0, m1) hX) ?_
  refine zl_st R hct 2 482 [some (.inl (.ref b)), some (.inr (12, 0)), some (.inr (13, 0)), some (.inr (32, 0)), some (.inr (33, 0)), some (.inl (.int x5)), some (.inl (.int k0)), none, none] [.inr (13, 0)] m1 rfl ⟨trivial, trivial, trivial⟩ ?_
  refine zl_arg R hct 1 rfl rfl rfl ⟨trivial, trivial, trivial, trivial⟩ rfl (hin 1 (by decide)) ?_
  refine zl_arg R hct 2 rfl rfl rfl ⟨trivial, trivial, trivial, trivial⟩ rfl (hin 2 (by decide)) ?_
  refine zl_arg R hct 3 rfl rfl rfl ⟨trivial, trivial, trivial, trivial⟩ rfl (hin 3 (by decide)) ?_
  refine zl_call0 R hcc (d := 3) (by decide) rfl (r_X12_raise (Nat.le_of_ble_eq_true rfl)) (w_X12_raise 0 0 (xs (x5 + 1).toNatClampNeg) (xs (x5 + 2).toNatClampNeg) (xs (x5 + 3).toNatClampNeg) m1 (b0, m2) hY) ?_
  refine zl_st R hct 2 506 [some (.inl (.ref b)), some (.inr (12, 0)), some (.inr (13, 0)), some (.inr (32, 0)), some (.inr (33, 0)), some (.inl (.int x5)), some (.inl (.int k0)), some (.inl (.int b0)), none] [.inr (13, 0)] m2 rfl ⟨trivial, trivial, trivial⟩ ?_
  refine zl_call0 R hcc (d := 1) (by decide) rfl (r_X12_thrown (Nat.le_of_ble_eq_true rfl)) (w_X12_thrown 0 0 m2 (m2.1 13 0 0) rfl) ?_
  refine zl_st R hct 1 511 [some (.inl (.ref b)), some (.inr (12, 0)), some (.inr (13, 0)), some (.inr (32, 0)), some (.inr (33, 0)), some (.inl (.int x5)), some (.inl (.int k0)), some (.inl (.int b0)), none] [.inl (.int k0), .inl (.int (m2.1 13 0 0))] m2 rfl ⟨trivial, trivial⟩ ?_
  refine zl_br R hct rfl (fun _ => ?_) (fun cq => absurd hk cq)
  refine zl_st R hct 1 518 [some (.inl (.ref b)), some (.inr (12, 0)), some (.inr (13, 0)), some (.inr (32, 0)), some (.inr (33, 0)), some (.inl (.int x5)), some (.inl (.int k0)), some (.inl (.int b0)), none] [.inl (.int k0)] m2 rfl ⟨trivial, trivial⟩ ?_
  refine zl_br R hct rfl (fun c0 => ?_) (fun _ => ?_)
  · refine zl_st R hct 6 528 [some (.inl (.ref b)), some (.inr (12, 0)), some (.inr (13, 0)), some (.inr (32, 0)), some (.inr (33, 0)), some (.inl (.int x5)), some (.inl (.int k0)), some (.inl (.int b0)), none] [.inl (.int (lg_cmp (m2.2.1 32 0 0) (Int32.toInt64 b0)))] m2 rfl ⟨trivial, trivial, ⟨(Nat.le_of_ble_eq_true rfl), by unfold vp_in; decide⟩, trivial, trivial, trivial, trivial⟩ ?_
    refine zl_br R hct rfl (fun _ => ?_) (fun cq => absurd (by rw [hb c0]; exact z_cmp_self _) cq)
    refine zl_st R hct 1 3192 [some (.inl (.ref b)), some (.inr (12, 0)), some (.inr (13, 0)), some (.inr (32, 0)), some (.inr (33, 0)), some (.inl (.int x5)), some (.inl (.int k0)), some (.inl (.int b0)), none] [] m2 rfl ⟨trivial, trivial⟩ ?_
    exact zl_mask R [true, true, true, true, true, true, false, false, false] rfl (kk _ I2)
  · refine zl_st R hct 1 3192 [some (.inl (.ref b)), some (.inr (12, 0)), some (.inr (13, 0)), some (.inr (32, 0)), some (.inr (33, 0)), some (.inl (.int x5)), some (.inl (.int k0)), some (.inl (.int b0)), none] [] m2 rfl ⟨trivial, trivial⟩ ?_
    exact zl_mask R [true, true, true, true, true, true, false, false, false] rfl (kk _ I2)
theorem lw_c4 {xs : Nat → Int32} {L b : Nat} {G : Nat → Nat → zL → List zA → zM → Prop} (R : zLw xs L b G) {x5 : Int32} (hin : ∀ K : Int32, (K = 1 ∨ K = 2 ∨ K = 3) → vp_in (x5 + K) L) {k : Nat} {m : zM} (I : zInv m) (kk : ∀ m', zInv m' → G k 3192 (lwL b x5) [] m') : G (3 + k) 536 (lwL b x5) [] m := by
  have hct : z_okT 0 code tW4 = true := oT4
  have hcc : z_okC 0 code z_MT tW4 = true := oC4
  obtain ⟨k0, m1, b0, m2, hX, hY, hk, hb, I2⟩ := t_setRain I (xs (x5 + 1).toNatClampNeg) (xs (x5 + 2).toNatClampNeg)
  refine zl_st R hct 1 537 [some (.inl (.ref b)), some (.inr (12, 0)), some (.inr (13, 0)), some (.inr (32, 0)), some (.inr (33, 0)), some (.inl (.int x5)), none, none, none] [.inr (12, 0)] m rfl ⟨trivial, trivial⟩ ?_
  refine zl_arg R hct 1 rfl rfl rfl ⟨trivial, trivial, trivial, trivial⟩ rfl (hin 1 (by decide)) ?_
  refine zl_arg R hct 2 rfl rfl rfl ⟨trivial, trivial, trivial, trivial⟩ rfl (hin 2 (by decide)) ?_
  refine zl_st R hct 1 550 [some (.inl (.ref b)), some (.inr (12, 0)), some (.inr (13, 0)), some (.inr (32, 0)), some (.inr (33, 0)), some (.inl (.int x5)), none, none, none] [.inr (32, 0), .inl (.int (xs (x5 + 2).toNatClampNeg)), .inl (.int (xs (x5 + 1).toNatClampNeg)), .inr (12, 0)] m rfl ⟨trivial, trivial⟩ ?_
  refine zl_call R hcc (d := 5) (k1 := 3) (k2 := k) (by decide) rfl r_L_setRain (w_L_setRain 0 1 (xs (x5 + 1).toNatClampNeg) (xs (x5 + 2).toNatClampNeg) m (k0, m1) hX) ?_
  refine zl_st R hct 2 556 [some (.inl (.ref b)), some (.inr (12, 0)), some (.inr (13, 0)), some (.inr (32, 0)), some (.inr (33, 0)), some (.inl (.int x5)), some (.inl (.int k0)), none, none] [.inr (13, 0)] m1 rfl ⟨trivial, trivial, trivial⟩ ?_
  refine zl_arg R hct 1 rfl rfl rfl ⟨trivial, trivial, trivial, trivial⟩ rfl (hin 1 (by decide)) ?_
  refine zl_arg R hct 2 rfl rfl rfl ⟨trivial, trivial, trivial, trivial⟩ rfl (hin 2 (by decide)) ?_
  refine zl_call0 R hcc (d := 4) (by decide) rfl (r_X12_setRain (Nat.le_of_ble_eq_true rfl)) (w_X12_setRain 0 0 (xs (x5 + 1).toNatClampNeg) (xs (x5 + 2).toNatClampNeg) m1 (b0, m2) hY) ?_
  refine zl_st R hct 2 574 [some (.inl (.ref b)), some (.inr (12, 0)), some (.inr (13, 0)), some (.inr (32, 0)), some (.inr (33, 0)), some (.inl (.int x5)), some (.inl (.int k0)), some (.inl (.int b0)), none] [.inr (13, 0)] m2 rfl ⟨trivial, trivial, trivial⟩ ?_
  refine zl_call0 R hcc (d := 1) (by decide) rfl (r_X12_thrown (Nat.le_of_ble_eq_true rfl)) (w_X12_thrown 0 0 m2 (m2.1 13 0 0) rfl) ?_
  refine zl_st R hct 1 579 [some (.inl (.ref b)), some (.inr (12, 0)), some (.inr (13, 0)), some (.inr (32, 0)), some (.inr (33, 0)), some (.inl (.int x5)), some (.inl (.int k0)), some (.inl (.int b0)), none] [.inl (.int k0), .inl (.int (m2.1 13 0 0))] m2 rfl ⟨trivial, trivial⟩ ?_
  refine zl_br R hct rfl (fun _ => ?_) (fun cq => absurd hk cq)
  refine zl_st R hct 1 586 [some (.inl (.ref b)), some (.inr (12, 0)), some (.inr (13, 0)), some (.inr (32, 0)), some (.inr (33, 0)), some (.inl (.int x5)), some (.inl (.int k0)), some (.inl (.int b0)), none] [.inl (.int k0)] m2 rfl ⟨trivial, trivial⟩ ?_
  refine zl_br R hct rfl (fun c0 => ?_) (fun _ => ?_)
  · refine zl_st R hct 6 596 [some (.inl (.ref b)), some (.inr (12, 0)), some (.inr (13, 0)), some (.inr (32, 0)), some (.inr (33, 0)), some (.inl (.int x5)), some (.inl (.int k0)), some (.inl (.int b0)), none] [.inl (.int (lg_cmp (m2.2.1 32 0 0) (Int32.toInt64 b0)))] m2 rfl ⟨trivial, trivial, ⟨(Nat.le_of_ble_eq_true rfl), by unfold vp_in; decide⟩, trivial, trivial, trivial, trivial⟩ ?_
    refine zl_br R hct rfl (fun _ => ?_) (fun cq => absurd (by rw [hb c0]; exact z_cmp_self _) cq)
    refine zl_st R hct 1 3192 [some (.inl (.ref b)), some (.inr (12, 0)), some (.inr (13, 0)), some (.inr (32, 0)), some (.inr (33, 0)), some (.inl (.int x5)), some (.inl (.int k0)), some (.inl (.int b0)), none] [] m2 rfl ⟨trivial, trivial⟩ ?_
    exact zl_mask R [true, true, true, true, true, true, false, false, false] rfl (kk _ I2)
  · refine zl_st R hct 1 3192 [some (.inl (.ref b)), some (.inr (12, 0)), some (.inr (13, 0)), some (.inr (32, 0)), some (.inr (33, 0)), some (.inl (.int x5)), some (.inl (.int k0)), some (.inl (.int b0)), none] [] m2 rfl ⟨trivial, trivial⟩ ?_
    exact zl_mask R [true, true, true, true, true, true, false, false, false] rfl (kk _ I2)
theorem lw_c5 {xs : Nat → Int32} {L b : Nat} {G : Nat → Nat → zL → List zA → zM → Prop} (R : zLw xs L b G) {x5 : Int32} (hin : ∀ K : Int32, (K = 1 ∨ K = 2 ∨ K = 3) → vp_in (x5 + K) L) {k : Nat} {m : zM} (I : zInv m) (kk : ∀ m', zInv m' → G k 3192 (lwL b x5) [] m') : G (3 + k) 604 (lwL b x5) [] m := by
  have hct : z_okT 0 code tW5 = true := oT5
  have hcc : z_okC 0 code z_MT tW5 = true := oC5
  obtain ⟨k0, m1, b0, m2, hX, hY, hk, hb, I2⟩ := t_setSoak I (xs (x5 + 1).toNatClampNeg) (xs (x5 + 2).toNatClampNeg)
  refine zl_st R hct 1 605 [some (.inl (.ref b)), some (.inr (12, 0)), some (.inr (13, 0)), some (.inr (32, 0)), some (.inr (33, 0)), some (.inl (.int x5)), none, none, none] [.inr (12, 0)] m rfl ⟨trivial, trivial⟩ ?_
  refine zl_arg R hct 1 rfl rfl rfl ⟨trivial, trivial, trivial, trivial⟩ rfl (hin 1 (by decide)) ?_
  refine zl_arg R hct 2 rfl rfl rfl ⟨trivial, trivial, trivial, trivial⟩ rfl (hin 2 (by decide)) ?_
  refine zl_st R hct 1 618 [some (.inl (.ref b)), some (.inr (12, 0)), some (.inr (13, 0)), some (.inr (32, 0)), some (.inr (33, 0)), some (.inl (.int x5)), none, none, none] [.inr (32, 0), .inl (.int (xs (x5 + 2).toNatClampNeg)), .inl (.int (xs (x5 + 1).toNatClampNeg)), .inr (12, 0)] m rfl ⟨trivial, trivial⟩ ?_
  refine zl_call R hcc (d := 5) (k1 := 3) (k2 := k) (by decide) rfl r_L_setSoak (w_L_setSoak 0 1 (xs (x5 + 1).toNatClampNeg) (xs (x5 + 2).toNatClampNeg) m (k0, m1) hX) ?_
  refine zl_st R hct 2 624 [some (.inl (.ref b)), some (.inr (12, 0)), some (.inr (13, 0)), some (.inr (32, 0)), some (.inr (33, 0)), some (.inl (.int x5)), some (.inl (.int k0)), none, none] [.inr (13, 0)] m1 rfl ⟨trivial, trivial, trivial⟩ ?_
  refine zl_arg R hct 1 rfl rfl rfl ⟨trivial, trivial, trivial, trivial⟩ rfl (hin 1 (by decide)) ?_
  refine zl_arg R hct 2 rfl rfl rfl ⟨trivial, trivial, trivial, trivial⟩ rfl (hin 2 (by decide)) ?_
  refine zl_call0 R hcc (d := 4) (by decide) rfl (r_X12_setSoak (Nat.le_of_ble_eq_true rfl)) (w_X12_setSoak 0 0 (xs (x5 + 1).toNatClampNeg) (xs (x5 + 2).toNatClampNeg) m1 (b0, m2) hY) ?_
  refine zl_st R hct 2 642 [some (.inl (.ref b)), some (.inr (12, 0)), some (.inr (13, 0)), some (.inr (32, 0)), some (.inr (33, 0)), some (.inl (.int x5)), some (.inl (.int k0)), some (.inl (.int b0)), none] [.inr (13, 0)] m2 rfl ⟨trivial, trivial, trivial⟩ ?_
  refine zl_call0 R hcc (d := 1) (by decide) rfl (r_X12_thrown (Nat.le_of_ble_eq_true rfl)) (w_X12_thrown 0 0 m2 (m2.1 13 0 0) rfl) ?_
  refine zl_st R hct 1 647 [some (.inl (.ref b)), some (.inr (12, 0)), some (.inr (13, 0)), some (.inr (32, 0)), some (.inr (33, 0)), some (.inl (.int x5)), some (.inl (.int k0)), some (.inl (.int b0)), none] [.inl (.int k0), .inl (.int (m2.1 13 0 0))] m2 rfl ⟨trivial, trivial⟩ ?_
  refine zl_br R hct rfl (fun _ => ?_) (fun cq => absurd hk cq)
  refine zl_st R hct 1 654 [some (.inl (.ref b)), some (.inr (12, 0)), some (.inr (13, 0)), some (.inr (32, 0)), some (.inr (33, 0)), some (.inl (.int x5)), some (.inl (.int k0)), some (.inl (.int b0)), none] [.inl (.int k0)] m2 rfl ⟨trivial, trivial⟩ ?_
  refine zl_br R hct rfl (fun c0 => ?_) (fun _ => ?_)
  · refine zl_st R hct 6 664 [some (.inl (.ref b)), some (.inr (12, 0)), some (.inr (13, 0)), some (.inr (32, 0)), some (.inr (33, 0)), some (.inl (.int x5)), some (.inl (.int k0)), some (.inl (.int b0)), none] [.inl (.int (lg_cmp (m2.2.1 32 0 0) (Int32.toInt64 b0)))] m2 rfl ⟨trivial, trivial, ⟨(Nat.le_of_ble_eq_true rfl), by unfold vp_in; decide⟩, trivial, trivial, trivial, trivial⟩ ?_
    refine zl_br R hct rfl (fun _ => ?_) (fun cq => absurd (by rw [hb c0]; exact z_cmp_self _) cq)
    refine zl_st R hct 1 3192 [some (.inl (.ref b)), some (.inr (12, 0)), some (.inr (13, 0)), some (.inr (32, 0)), some (.inr (33, 0)), some (.inl (.int x5)), some (.inl (.int k0)), some (.inl (.int b0)), none] [] m2 rfl ⟨trivial, trivial⟩ ?_
    exact zl_mask R [true, true, true, true, true, true, false, false, false] rfl (kk _ I2)
  · refine zl_st R hct 1 3192 [some (.inl (.ref b)), some (.inr (12, 0)), some (.inr (13, 0)), some (.inr (32, 0)), some (.inr (33, 0)), some (.inl (.int x5)), some (.inl (.int k0)), some (.inl (.int b0)), none] [] m2 rfl ⟨trivial, trivial⟩ ?_
    exact zl_mask R [true, true, true, true, true, true, false, false, false] rfl (kk _ I2)
theorem lw_c6 {xs : Nat → Int32} {L b : Nat} {G : Nat → Nat → zL → List zA → zM → Prop} (R : zLw xs L b G) {x5 : Int32} (hin : ∀ K : Int32, (K = 1 ∨ K = 2 ∨ K = 3) → vp_in (x5 + K) L) {k : Nat} {m : zM} (I : zInv m) (kk : ∀ m', zInv m' → G k 3192 (lwL b x5) [] m') : G (3 + k) 672 (lwL b x5) [] m := by
  have hct : z_okT 0 code tW6 = true := oT6
  have hcc : z_okC 0 code z_MT tW6 = true := oC6
  by_cases cu : (xs (x5 + 2).toNatClampNeg) = 0
  · obtain ⟨k0, m1, b0, m2, hX, hY, hk, hb, I2⟩ := t_setOutlet I (xs (x5 + 1).toNatClampNeg) false
    refine zl_st R hct 1 673 [some (.inl (.ref b)), some (.inr (12, 0)), some (.inr (13, 0)), some (.inr (32, 0)), some (.inr (33, 0)), some (.inl (.int x5)), none, none, none] [.inr (12, 0)] m rfl ⟨trivial, trivial⟩ ?_
    refine zl_arg R hct 1 rfl rfl rfl ⟨trivial, trivial, trivial, trivial⟩ rfl (hin 1 (by decide)) ?_
    refine zl_arg R hct 2 rfl rfl rfl ⟨trivial, trivial, trivial, trivial⟩ rfl (hin 2 (by decide)) ?_
    refine zl_br R hct rfl (fun _ => ?_) (fun cq => absurd cu cq)
    refine zl_st R hct 1 693 [some (.inl (.ref b)), some (.inr (12, 0)), some (.inr (13, 0)), some (.inr (32, 0)), some (.inr (33, 0)), some (.inl (.int x5)), none, none, none] [.inl (.int 0), .inl (.int (xs (x5 + 1).toNatClampNeg)), .inr (12, 0)] m rfl ⟨trivial, trivial⟩ ?_
    refine zl_st R hct 1 694 [some (.inl (.ref b)), some (.inr (12, 0)), some (.inr (13, 0)), some (.inr (32, 0)), some (.inr (33, 0)), some (.inl (.int x5)), none, none, none] [.inr (32, 0), .inl (.int 0), .inl (.int (xs (x5 + 1).toNatClampNeg)), .inr (12, 0)] m rfl ⟨trivial, trivial⟩ ?_
    refine zl_call R hcc (d := 5) (k1 := 3) (k2 := k) (by decide) rfl r_L_setOutlet (w_L_setOutlet 0 1 (xs (x5 + 1).toNatClampNeg) 0 m (k0, m1) hX) ?_
    refine zl_st R hct 2 700 [some (.inl (.ref b)), some (.inr (12, 0)), some (.inr (13, 0)), some (.inr (32, 0)), some (.inr (33, 0)), some (.inl (.int x5)), some (.inl (.int k0)), none, none] [.inr (13, 0)] m1 rfl ⟨trivial, trivial, trivial⟩ ?_
    refine zl_arg R hct 1 rfl rfl rfl ⟨trivial, trivial, trivial, trivial⟩ rfl (hin 1 (by decide)) ?_
    refine zl_arg R hct 2 rfl rfl rfl ⟨trivial, trivial, trivial, trivial⟩ rfl (hin 2 (by decide)) ?_
    refine zl_br R hct rfl (fun _ => ?_) (fun cq => absurd cu cq)
    refine zl_st R hct 1 720 [some (.inl (.ref b)), some (.inr (12, 0)), some (.inr (13, 0)), some (.inr (32, 0)), some (.inr (33, 0)), some (.inl (.int x5)), some (.inl (.int k0)), none, none] [.inl (.int 0), .inl (.int (xs (x5 + 1).toNatClampNeg)), .inr (13, 0)] m1 rfl ⟨trivial, trivial⟩ ?_
    refine zl_call0 R hcc (d := 3) (by decide) rfl (r_X12_setOutlet (Nat.le_of_ble_eq_true rfl)) (w_X12_setOutlet 0 0 (xs (x5 + 1).toNatClampNeg) 0 m1 (b0, m2) hY) ?_
    refine zl_st R hct 2 726 [some (.inl (.ref b)), some (.inr (12, 0)), some (.inr (13, 0)), some (.inr (32, 0)), some (.inr (33, 0)), some (.inl (.int x5)), some (.inl (.int k0)), some (.inl (.int (z_bi b0))), none] [.inr (13, 0)] m2 rfl ⟨trivial, trivial, trivial⟩ ?_
    refine zl_call0 R hcc (d := 1) (by decide) rfl (r_X12_thrown (Nat.le_of_ble_eq_true rfl)) (w_X12_thrown 0 0 m2 (m2.1 13 0 0) rfl) ?_
    refine zl_st R hct 1 731 [some (.inl (.ref b)), some (.inr (12, 0)), some (.inr (13, 0)), some (.inr (32, 0)), some (.inr (33, 0)), some (.inl (.int x5)), some (.inl (.int k0)), some (.inl (.int (z_bi b0))), none] [.inl (.int k0), .inl (.int (m2.1 13 0 0))] m2 rfl ⟨trivial, trivial⟩ ?_
    refine zl_br R hct rfl (fun _ => ?_) (fun cq => absurd hk cq)
    refine zl_st R hct 1 738 [some (.inl (.ref b)), some (.inr (12, 0)), some (.inr (13, 0)), some (.inr (32, 0)), some (.inr (33, 0)), some (.inl (.int x5)), some (.inl (.int k0)), some (.inl (.int (z_bi b0))), none] [.inl (.int k0)] m2 rfl ⟨trivial, trivial⟩ ?_
    refine zl_br R hct rfl (fun c0 => ?_) (fun _ => ?_)
    · refine zl_st R hct 4 746 [some (.inl (.ref b)), some (.inr (12, 0)), some (.inr (13, 0)), some (.inr (32, 0)), some (.inr (33, 0)), some (.inl (.int x5)), some (.inl (.int k0)), some (.inl (.int (z_bi b0))), none] [.inl (.int (z_bi b0)), .inl (.long (m2.2.1 32 0 0))] m2 rfl ⟨trivial, trivial, ⟨(Nat.le_of_ble_eq_true rfl), by unfold vp_in; decide⟩, trivial, trivial⟩ ?_
      cases b0 with
      | true =>
        refine zl_br R hct rfl (fun cq => absurd cq (show ¬ z_bi true = 0 by decide)) (fun _ => ?_)
        refine zl_st R hct 3 755 [some (.inl (.ref b)), some (.inr (12, 0)), some (.inr (13, 0)), some (.inr (32, 0)), some (.inr (33, 0)), some (.inl (.int x5)), some (.inl (.int k0)), some (.inl (.int (z_bi true))), none] [.inl (.int (lg_cmp (m2.2.1 32 0 0) 1))] m2 rfl ⟨trivial, trivial, trivial, trivial⟩ ?_
        refine zl_br R hct rfl (fun _ => ?_) (fun cq => absurd (by rw [hb c0]; exact z_cmp_self _) cq)
        refine zl_st R hct 1 3192 [some (.inl (.ref b)), some (.inr (12, 0)), some (.inr (13, 0)), some (.inr (32, 0)), some (.inr (33, 0)), some (.inl (.int x5)), some (.inl (.int k0)), some (.inl (.int (z_bi true))), none] [] m2 rfl ⟨trivial, trivial⟩ ?_
        exact zl_mask R [true, true, true, true, true, true, false, false, false] rfl (kk _ I2)
      | false =>
        refine zl_br R hct rfl (fun _ => ?_) (fun cq => absurd (show z_bi false = 0 from rfl) cq)
        refine zl_st R hct 2 755 [some (.inl (.ref b)), some (.inr (12, 0)), some (.inr (13, 0)), some (.inr (32, 0)), some (.inr (33, 0)), some (.inl (.int x5)), some (.inl (.int k0)), some (.inl (.int (z_bi false))), none] [.inl (.int (lg_cmp (m2.2.1 32 0 0) 0))] m2 rfl ⟨trivial, trivial, trivial⟩ ?_
        refine zl_br R hct rfl (fun _ => ?_) (fun cq => absurd (by rw [hb c0]; exact z_cmp_self _) cq)
        refine zl_st R hct 1 3192 [some (.inl (.ref b)), some (.inr (12, 0)), some (.inr (13, 0)), some (.inr (32, 0)), some (.inr (33, 0)), some (.inl (.int x5)), some (.inl (.int k0)), some (.inl (.int (z_bi false))), none] [] m2 rfl ⟨trivial, trivial⟩ ?_
        exact zl_mask R [true, true, true, true, true, true, false, false, false] rfl (kk _ I2)
    · refine zl_st R hct 1 3192 [some (.inl (.ref b)), some (.inr (12, 0)), some (.inr (13, 0)), some (.inr (32, 0)), some (.inr (33, 0)), some (.inl (.int x5)), some (.inl (.int k0)), some (.inl (.int (z_bi b0))), none] [] m2 rfl ⟨trivial, trivial⟩ ?_
      exact zl_mask R [true, true, true, true, true, true, false, false, false] rfl (kk _ I2)
  · obtain ⟨k0, m1, b0, m2, hX, hY, hk, hb, I2⟩ := t_setOutlet I (xs (x5 + 1).toNatClampNeg) true
    refine zl_st R hct 1 673 [some (.inl (.ref b)), some (.inr (12, 0)), some (.inr (13, 0)), some (.inr (32, 0)), some (.inr (33, 0)), some (.inl (.int x5)), none, none, none] [.inr (12, 0)] m rfl ⟨trivial, trivial⟩ ?_
    refine zl_arg R hct 1 rfl rfl rfl ⟨trivial, trivial, trivial, trivial⟩ rfl (hin 1 (by decide)) ?_
    refine zl_arg R hct 2 rfl rfl rfl ⟨trivial, trivial, trivial, trivial⟩ rfl (hin 2 (by decide)) ?_
    refine zl_br R hct rfl (fun cq => absurd cq cu) (fun _ => ?_)
    refine zl_st R hct 2 693 [some (.inl (.ref b)), some (.inr (12, 0)), some (.inr (13, 0)), some (.inr (32, 0)), some (.inr (33, 0)), some (.inl (.int x5)), none, none, none] [.inl (.int 1), .inl (.int (xs (x5 + 1).toNatClampNeg)), .inr (12, 0)] m rfl ⟨trivial, trivial, trivial⟩ ?_
    refine zl_st R hct 1 694 [some (.inl (.ref b)), some (.inr (12, 0)), some (.inr (13, 0)), some (.inr (32, 0)), some (.inr (33, 0)), some (.inl (.int x5)), none, none, none] [.inr (32, 0), .inl (.int 1), .inl (.int (xs (x5 + 1).toNatClampNeg)), .inr (12, 0)] m rfl ⟨trivial, trivial⟩ ?_
    refine zl_call R hcc (d := 5) (k1 := 3) (k2 := k) (by decide) rfl r_L_setOutlet (w_L_setOutlet 0 1 (xs (x5 + 1).toNatClampNeg) 1 m (k0, m1) hX) ?_
    refine zl_st R hct 2 700 [some (.inl (.ref b)), some (.inr (12, 0)), some (.inr (13, 0)), some (.inr (32, 0)), some (.inr (33, 0)), some (.inl (.int x5)), some (.inl (.int k0)), none, none] [.inr (13, 0)] m1 rfl ⟨trivial, trivial, trivial⟩ ?_
    refine zl_arg R hct 1 rfl rfl rfl ⟨trivial, trivial, trivial, trivial⟩ rfl (hin 1 (by decide)) ?_
    refine zl_arg R hct 2 rfl rfl rfl ⟨trivial, trivial, trivial, trivial⟩ rfl (hin 2 (by decide)) ?_
    refine zl_br R hct rfl (fun cq => absurd cq cu) (fun _ => ?_)
    refine zl_st R hct 2 720 [some (.inl (.ref b)), some (.inr (12, 0)), some (.inr (13, 0)), some (.inr (32, 0)), some (.inr (33, 0)), some (.inl (.int x5)), some (.inl (.int k0)), none, none] [.inl (.int 1), .inl (.int (xs (x5 + 1).toNatClampNeg)), .inr (13, 0)] m1 rfl ⟨trivial, trivial, trivial⟩ ?_
    refine zl_call0 R hcc (d := 3) (by decide) rfl (r_X12_setOutlet (Nat.le_of_ble_eq_true rfl)) (w_X12_setOutlet 0 0 (xs (x5 + 1).toNatClampNeg) 1 m1 (b0, m2) hY) ?_
    refine zl_st R hct 2 726 [some (.inl (.ref b)), some (.inr (12, 0)), some (.inr (13, 0)), some (.inr (32, 0)), some (.inr (33, 0)), some (.inl (.int x5)), some (.inl (.int k0)), some (.inl (.int (z_bi b0))), none] [.inr (13, 0)] m2 rfl ⟨trivial, trivial, trivial⟩ ?_
    refine zl_call0 R hcc (d := 1) (by decide) rfl (r_X12_thrown (Nat.le_of_ble_eq_true rfl)) (w_X12_thrown 0 0 m2 (m2.1 13 0 0) rfl) ?_
    refine zl_st R hct 1 731 [some (.inl (.ref b)), some (.inr (12, 0)), some (.inr (13, 0)), some (.inr (32, 0)), some (.inr (33, 0)), some (.inl (.int x5)), some (.inl (.int k0)), some (.inl (.int (z_bi b0))), none] [.inl (.int k0), .inl (.int (m2.1 13 0 0))] m2 rfl ⟨trivial, trivial⟩ ?_
    refine zl_br R hct rfl (fun _ => ?_) (fun cq => absurd hk cq)
    refine zl_st R hct 1 738 [some (.inl (.ref b)), some (.inr (12, 0)), some (.inr (13, 0)), some (.inr (32, 0)), some (.inr (33, 0)), some (.inl (.int x5)), some (.inl (.int k0)), some (.inl (.int (z_bi b0))), none] [.inl (.int k0)] m2 rfl ⟨trivial, trivial⟩ ?_
    refine zl_br R hct rfl (fun c0 => ?_) (fun _ => ?_)
    · refine zl_st R hct 4 746 [some (.inl (.ref b)), some (.inr (12, 0)), some (.inr (13, 0)), some (.inr (32, 0)), some (.inr (33, 0)), some (.inl (.int x5)), some (.inl (.int k0)), some (.inl (.int (z_bi b0))), none] [.inl (.int (z_bi b0)), .inl (.long (m2.2.1 32 0 0))] m2 rfl ⟨trivial, trivial, ⟨(Nat.le_of_ble_eq_true rfl), by unfold vp_in; decide⟩, trivial, trivial⟩ ?_
      cases b0 with
      | true =>
        refine zl_br R hct rfl (fun cq => absurd cq (show ¬ z_bi true = 0 by decide)) (fun _ => ?_)
        refine zl_st R hct 3 755 [some (.inl (.ref b)), some (.inr (12, 0)), some (.inr (13, 0)), some (.inr (32, 0)), some (.inr (33, 0)), some (.inl (.int x5)), some (.inl (.int k0)), some (.inl (.int (z_bi true))), none] [.inl (.int (lg_cmp (m2.2.1 32 0 0) 1))] m2 rfl ⟨trivial, trivial, trivial, trivial⟩ ?_
        refine zl_br R hct rfl (fun _ => ?_) (fun cq => absurd (by rw [hb c0]; exact z_cmp_self _) cq)
        refine zl_st R hct 1 3192 [some (.inl (.ref b)), some (.inr (12, 0)), some (.inr (13, 0)), some (.inr (32, 0)), some (.inr (33, 0)), some (.inl (.int x5)), some (.inl (.int k0)), some (.inl (.int (z_bi true))), none] [] m2 rfl ⟨trivial, trivial⟩ ?_
        exact zl_mask R [true, true, true, true, true, true, false, false, false] rfl (kk _ I2)
      | false =>
        refine zl_br R hct rfl (fun _ => ?_) (fun cq => absurd (show z_bi false = 0 from rfl) cq)
        refine zl_st R hct 2 755 [some (.inl (.ref b)), some (.inr (12, 0)), some (.inr (13, 0)), some (.inr (32, 0)), some (.inr (33, 0)), some (.inl (.int x5)), some (.inl (.int k0)), some (.inl (.int (z_bi false))), none] [.inl (.int (lg_cmp (m2.2.1 32 0 0) 0))] m2 rfl ⟨trivial, trivial, trivial⟩ ?_
        refine zl_br R hct rfl (fun _ => ?_) (fun cq => absurd (by rw [hb c0]; exact z_cmp_self _) cq)
        refine zl_st R hct 1 3192 [some (.inl (.ref b)), some (.inr (12, 0)), some (.inr (13, 0)), some (.inr (32, 0)), some (.inr (33, 0)), some (.inl (.int x5)), some (.inl (.int k0)), some (.inl (.int (z_bi false))), none] [] m2 rfl ⟨trivial, trivial⟩ ?_
        exact zl_mask R [true, true, true, true, true, true, false, false, false] rfl (kk _ I2)
    · refine zl_st R hct 1 3192 [some (.inl (.ref b)), some (.inr (12, 0)), some (.inr (13, 0)), some (.inr (32, 0)), some (.inr (33, 0)), some (.inl (.int x5)), some (.inl (.int k0)), some (.inl (.int (z_bi b0))), none] [] m2 rfl ⟨trivial, trivial⟩ ?_
      exact zl_mask R [true, true, true, true, true, true, false, false, false] rfl (kk _ I2)
theorem lw_c7 {xs : Nat → Int32} {L b : Nat} {G : Nat → Nat → zL → List zA → zM → Prop} (R : zLw xs L b G) {x5 : Int32} (hin : ∀ K : Int32, (K = 1 ∨ K = 2 ∨ K = 3) → vp_in (x5 + K) L) {k : Nat} {m : zM} (I : zInv m) (kk : ∀ m', zInv m' → G k 3192 (lwL b x5) [] m') : G (3 + k) 763 (lwL b x5) [] m := by
  have hct : z_okT 0 code tW7 = true := oT7
  have hcc : z_okC 0 code z_MT tW7 = true := oC7
  obtain ⟨k0, m1, b0, m2, hX, hY, hk, hb, I2⟩ := t_setThreshold I (xs (x5 + 1).toNatClampNeg)
  refine zl_st R hct 1 764 [some (.inl (.ref b)), some (.inr (12, 0)), some (.inr (13, 0)), some (.inr (32, 0)), some (.inr (33, 0)), some (.inl (.int x5)), none, none, none] [.inr (12, 0)] m rfl ⟨trivial, trivial⟩ ?_
  refine zl_arg R hct 1 rfl rfl rfl ⟨trivial, trivial, trivial, trivial⟩ rfl (hin 1 (by decide)) ?_
  refine zl_st R hct 1 771 [some (.inl (.ref b)), some (.inr (12, 0)), some (.inr (13, 0)), some (.inr (32, 0)), some (.inr (33, 0)), some (.inl (.int x5)), none, none, none] [.inr (32, 0), .inl (.int (xs (x5 + 1).toNatClampNeg)), .inr (12, 0)] m rfl ⟨trivial, trivial⟩ ?_
  refine zl_call R hcc (d := 5) (k1 := 3) (k2 := k) (by decide) rfl r_L_setThreshold (w_L_setThreshold 0 2 (xs (x5 + 1).toNatClampNeg) m (k0, m1) hX) ?_
  refine zl_st R hct 2 777 [some (.inl (.ref b)), some (.inr (12, 0)), some (.inr (13, 0)), some (.inr (32, 0)), some (.inr (33, 0)), some (.inl (.int x5)), some (.inl (.int k0)), none, none] [.inr (13, 0)] m1 rfl ⟨trivial, trivial, trivial⟩ ?_
  refine zl_arg R hct 1 rfl rfl rfl ⟨trivial, trivial, trivial, trivial⟩ rfl (hin 1 (by decide)) ?_
  refine zl_call0 R hcc (d := 2) (by decide) rfl (r_X12_setThreshold (Nat.le_of_ble_eq_true rfl)) (w_X12_setThreshold 0 0 (xs (x5 + 1).toNatClampNeg) m1 (b0, m2) hY) ?_
  refine zl_st R hct 2 789 [some (.inl (.ref b)), some (.inr (12, 0)), some (.inr (13, 0)), some (.inr (32, 0)), some (.inr (33, 0)), some (.inl (.int x5)), some (.inl (.int k0)), some (.inl (.int b0)), none] [.inr (13, 0)] m2 rfl ⟨trivial, trivial, trivial⟩ ?_
  refine zl_call0 R hcc (d := 1) (by decide) rfl (r_X12_thrown (Nat.le_of_ble_eq_true rfl)) (w_X12_thrown 0 0 m2 (m2.1 13 0 0) rfl) ?_
  refine zl_st R hct 1 794 [some (.inl (.ref b)), some (.inr (12, 0)), some (.inr (13, 0)), some (.inr (32, 0)), some (.inr (33, 0)), some (.inl (.int x5)), some (.inl (.int k0)), some (.inl (.int b0)), none] [.inl (.int k0), .inl (.int (m2.1 13 0 0))] m2 rfl ⟨trivial, trivial⟩ ?_
  refine zl_br R hct rfl (fun _ => ?_) (fun cq => absurd hk cq)
  refine zl_st R hct 1 801 [some (.inl (.ref b)), some (.inr (12, 0)), some (.inr (13, 0)), some (.inr (32, 0)), some (.inr (33, 0)), some (.inl (.int x5)), some (.inl (.int k0)), some (.inl (.int b0)), none] [.inl (.int k0)] m2 rfl ⟨trivial, trivial⟩ ?_
  refine zl_br R hct rfl (fun c0 => ?_) (fun _ => ?_)
  · refine zl_st R hct 6 811 [some (.inl (.ref b)), some (.inr (12, 0)), some (.inr (13, 0)), some (.inr (32, 0)), some (.inr (33, 0)), some (.inl (.int x5)), some (.inl (.int k0)), some (.inl (.int b0)), none] [.inl (.int (lg_cmp (m2.2.1 32 0 0) (Int32.toInt64 b0)))] m2 rfl ⟨trivial, trivial, ⟨(Nat.le_of_ble_eq_true rfl), by unfold vp_in; decide⟩, trivial, trivial, trivial, trivial⟩ ?_
    refine zl_br R hct rfl (fun _ => ?_) (fun cq => absurd (by rw [hb c0]; exact z_cmp_self _) cq)
    refine zl_st R hct 1 3192 [some (.inl (.ref b)), some (.inr (12, 0)), some (.inr (13, 0)), some (.inr (32, 0)), some (.inr (33, 0)), some (.inl (.int x5)), some (.inl (.int k0)), some (.inl (.int b0)), none] [] m2 rfl ⟨trivial, trivial⟩ ?_
    exact zl_mask R [true, true, true, true, true, true, false, false, false] rfl (kk _ I2)
  · refine zl_st R hct 1 3192 [some (.inl (.ref b)), some (.inr (12, 0)), some (.inr (13, 0)), some (.inr (32, 0)), some (.inr (33, 0)), some (.inl (.int x5)), some (.inl (.int k0)), some (.inl (.int b0)), none] [] m2 rfl ⟨trivial, trivial⟩ ?_
    exact zl_mask R [true, true, true, true, true, true, false, false, false] rfl (kk _ I2)
theorem lw_c8 {xs : Nat → Int32} {L b : Nat} {G : Nat → Nat → zL → List zA → zM → Prop} (R : zLw xs L b G) {x5 : Int32} (hin : ∀ K : Int32, (K = 1 ∨ K = 2 ∨ K = 3) → vp_in (x5 + K) L) {k : Nat} {m : zM} (I : zInv m) (kk : ∀ m', zInv m' → G k 3192 (lwL b x5) [] m') : G (3 + k) 819 (lwL b x5) [] m := by
  have hct : z_okT 0 code tW8 = true := oT8
  have hcc : z_okC 0 code z_MT tW8 = true := oC8
  obtain ⟨k0, m1, b0, m2, hX, hY, hk, hb, I2⟩ := t_cell I (xs (x5 + 1).toNatClampNeg) (xs (x5 + 2).toNatClampNeg)
  refine zl_st R hct 1 820 [some (.inl (.ref b)), some (.inr (12, 0)), some (.inr (13, 0)), some (.inr (32, 0)), some (.inr (33, 0)), some (.inl (.int x5)), none, none, none] [.inr (12, 0)] m rfl ⟨trivial, trivial⟩ ?_
  refine zl_arg R hct 1 rfl rfl rfl ⟨trivial, trivial, trivial, trivial⟩ rfl (hin 1 (by decide)) ?_
  refine zl_arg R hct 2 rfl rfl rfl ⟨trivial, trivial, trivial, trivial⟩ rfl (hin 2 (by decide)) ?_
  refine zl_st R hct 1 833 [some (.inl (.ref b)), some (.inr (12, 0)), some (.inr (13, 0)), some (.inr (32, 0)), some (.inr (33, 0)), some (.inl (.int x5)), none, none, none] [.inr (32, 0), .inl (.int (xs (x5 + 2).toNatClampNeg)), .inl (.int (xs (x5 + 1).toNatClampNeg)), .inr (12, 0)] m rfl ⟨trivial, trivial⟩ ?_
  refine zl_call R hcc (d := 4) (k1 := 3) (k2 := k) (by decide) rfl r_L_cell (w_L_cell 0 1 (xs (x5 + 1).toNatClampNeg) (xs (x5 + 2).toNatClampNeg) m (k0, m1) hX) ?_
  refine zl_st R hct 2 839 [some (.inl (.ref b)), some (.inr (12, 0)), some (.inr (13, 0)), some (.inr (32, 0)), some (.inr (33, 0)), some (.inl (.int x5)), some (.inl (.int k0)), none, none] [.inr (13, 0)] m1 rfl ⟨trivial, trivial, trivial⟩ ?_
  refine zl_arg R hct 1 rfl rfl rfl ⟨trivial, trivial, trivial, trivial⟩ rfl (hin 1 (by decide)) ?_
  refine zl_arg R hct 2 rfl rfl rfl ⟨trivial, trivial, trivial, trivial⟩ rfl (hin 2 (by decide)) ?_
  refine zl_call0 R hcc (d := 3) (by decide) rfl (r_X12_cell (Nat.le_of_ble_eq_true rfl)) (w_X12_cell 0 0 (xs (x5 + 1).toNatClampNeg) (xs (x5 + 2).toNatClampNeg) m1 (b0, m2) hY) ?_
  refine zl_st R hct 2 857 [some (.inl (.ref b)), some (.inr (12, 0)), some (.inr (13, 0)), some (.inr (32, 0)), some (.inr (33, 0)), some (.inl (.int x5)), some (.inl (.int k0)), some (.inl (.int b0)), none] [.inr (13, 0)] m2 rfl ⟨trivial, trivial, trivial⟩ ?_
  refine zl_call0 R hcc (d := 1) (by decide) rfl (r_X12_thrown (Nat.le_of_ble_eq_true rfl)) (w_X12_thrown 0 0 m2 (m2.1 13 0 0) rfl) ?_
  refine zl_st R hct 1 862 [some (.inl (.ref b)), some (.inr (12, 0)), some (.inr (13, 0)), some (.inr (32, 0)), some (.inr (33, 0)), some (.inl (.int x5)), some (.inl (.int k0)), some (.inl (.int b0)), none] [.inl (.int k0), .inl (.int (m2.1 13 0 0))] m2 rfl ⟨trivial, trivial⟩ ?_
  refine zl_br R hct rfl (fun _ => ?_) (fun cq => absurd hk cq)
  refine zl_st R hct 1 869 [some (.inl (.ref b)), some (.inr (12, 0)), some (.inr (13, 0)), some (.inr (32, 0)), some (.inr (33, 0)), some (.inl (.int x5)), some (.inl (.int k0)), some (.inl (.int b0)), none] [.inl (.int k0)] m2 rfl ⟨trivial, trivial⟩ ?_
  refine zl_br R hct rfl (fun c0 => ?_) (fun _ => ?_)
  · refine zl_st R hct 6 879 [some (.inl (.ref b)), some (.inr (12, 0)), some (.inr (13, 0)), some (.inr (32, 0)), some (.inr (33, 0)), some (.inl (.int x5)), some (.inl (.int k0)), some (.inl (.int b0)), none] [.inl (.int (lg_cmp (m2.2.1 32 0 0) (Int32.toInt64 b0)))] m2 rfl ⟨trivial, trivial, ⟨(Nat.le_of_ble_eq_true rfl), by unfold vp_in; decide⟩, trivial, trivial, trivial, trivial⟩ ?_
    refine zl_br R hct rfl (fun _ => ?_) (fun cq => absurd (by rw [hb c0]; exact z_cmp_self _) cq)
    refine zl_st R hct 1 3192 [some (.inl (.ref b)), some (.inr (12, 0)), some (.inr (13, 0)), some (.inr (32, 0)), some (.inr (33, 0)), some (.inl (.int x5)), some (.inl (.int k0)), some (.inl (.int b0)), none] [] m2 rfl ⟨trivial, trivial⟩ ?_
    exact zl_mask R [true, true, true, true, true, true, false, false, false] rfl (kk _ I2)
  · refine zl_st R hct 1 3192 [some (.inl (.ref b)), some (.inr (12, 0)), some (.inr (13, 0)), some (.inr (32, 0)), some (.inr (33, 0)), some (.inl (.int x5)), some (.inl (.int k0)), some (.inl (.int b0)), none] [] m2 rfl ⟨trivial, trivial⟩ ?_
    exact zl_mask R [true, true, true, true, true, true, false, false, false] rfl (kk _ I2)
theorem lw_c9 {xs : Nat → Int32} {L b : Nat} {G : Nat → Nat → zL → List zA → zM → Prop} (R : zLw xs L b G) {x5 : Int32} (hin : ∀ K : Int32, (K = 1 ∨ K = 2 ∨ K = 3) → vp_in (x5 + K) L) {k : Nat} {m : zM} (I : zInv m) (kk : ∀ m', zInv m' → G k 3192 (lwL b x5) [] m') : G (3 + k) 887 (lwL b x5) [] m := by
  have hct : z_okT 0 code tW9 = true := oT9
  have hcc : z_okC 0 code z_MT tW9 = true := oC9
  obtain ⟨k0, m1, b0, m2, hX, hY, hk, hb, I2⟩ := t_count I (xs (x5 + 1).toNatClampNeg)
  refine zl_st R hct 1 888 [some (.inl (.ref b)), some (.inr (12, 0)), some (.inr (13, 0)), some (.inr (32, 0)), some (.inr (33, 0)), some (.inl (.int x5)), none, none, none] [.inr (12, 0)] m rfl ⟨trivial, trivial⟩ ?_
  refine zl_arg R hct 1 rfl rfl rfl ⟨trivial, trivial, trivial, trivial⟩ rfl (hin 1 (by decide)) ?_
  refine zl_st R hct 1 895 [some (.inl (.ref b)), some (.inr (12, 0)), some (.inr (13, 0)), some (.inr (32, 0)), some (.inr (33, 0)), some (.inl (.int x5)), none, none, none] [.inr (32, 0), .inl (.int (xs (x5 + 1).toNatClampNeg)), .inr (12, 0)] m rfl ⟨trivial, trivial⟩ ?_
  refine zl_call R hcc (d := 8) (k1 := 3) (k2 := k) (by decide) rfl r_L_count (w_L_count 0 2 (xs (x5 + 1).toNatClampNeg) m (k0, m1) hX) ?_
  refine zl_st R hct 2 901 [some (.inl (.ref b)), some (.inr (12, 0)), some (.inr (13, 0)), some (.inr (32, 0)), some (.inr (33, 0)), some (.inl (.int x5)), some (.inl (.int k0)), none, none] [.inr (13, 0)] m1 rfl ⟨trivial, trivial, trivial⟩ ?_
  refine zl_arg R hct 1 rfl rfl rfl ⟨trivial, trivial, trivial, trivial⟩ rfl (hin 1 (by decide)) ?_
  refine zl_call0 R hcc (d := 6) (by decide) rfl (r_X12_count (Nat.le_of_ble_eq_true rfl)) (w_X12_count 0 0 (xs (x5 + 1).toNatClampNeg) m1 (b0, m2) hY) ?_
  refine zl_st R hct 2 913 [some (.inl (.ref b)), some (.inr (12, 0)), some (.inr (13, 0)), some (.inr (32, 0)), some (.inr (33, 0)), some (.inl (.int x5)), some (.inl (.int k0)), some (.inl (.int b0)), none] [.inr (13, 0)] m2 rfl ⟨trivial, trivial, trivial⟩ ?_
  refine zl_call0 R hcc (d := 1) (by decide) rfl (r_X12_thrown (Nat.le_of_ble_eq_true rfl)) (w_X12_thrown 0 0 m2 (m2.1 13 0 0) rfl) ?_
  refine zl_st R hct 1 918 [some (.inl (.ref b)), some (.inr (12, 0)), some (.inr (13, 0)), some (.inr (32, 0)), some (.inr (33, 0)), some (.inl (.int x5)), some (.inl (.int k0)), some (.inl (.int b0)), none] [.inl (.int k0), .inl (.int (m2.1 13 0 0))] m2 rfl ⟨trivial, trivial⟩ ?_
  refine zl_br R hct rfl (fun _ => ?_) (fun cq => absurd hk cq)
  refine zl_st R hct 1 925 [some (.inl (.ref b)), some (.inr (12, 0)), some (.inr (13, 0)), some (.inr (32, 0)), some (.inr (33, 0)), some (.inl (.int x5)), some (.inl (.int k0)), some (.inl (.int b0)), none] [.inl (.int k0)] m2 rfl ⟨trivial, trivial⟩ ?_
  refine zl_br R hct rfl (fun c0 => ?_) (fun _ => ?_)
  · refine zl_st R hct 6 935 [some (.inl (.ref b)), some (.inr (12, 0)), some (.inr (13, 0)), some (.inr (32, 0)), some (.inr (33, 0)), some (.inl (.int x5)), some (.inl (.int k0)), some (.inl (.int b0)), none] [.inl (.int (lg_cmp (m2.2.1 32 0 0) (Int32.toInt64 b0)))] m2 rfl ⟨trivial, trivial, ⟨(Nat.le_of_ble_eq_true rfl), by unfold vp_in; decide⟩, trivial, trivial, trivial, trivial⟩ ?_
    refine zl_br R hct rfl (fun _ => ?_) (fun cq => absurd (by rw [hb c0]; exact z_cmp_self _) cq)
    refine zl_st R hct 1 3192 [some (.inl (.ref b)), some (.inr (12, 0)), some (.inr (13, 0)), some (.inr (32, 0)), some (.inr (33, 0)), some (.inl (.int x5)), some (.inl (.int k0)), some (.inl (.int b0)), none] [] m2 rfl ⟨trivial, trivial⟩ ?_
    exact zl_mask R [true, true, true, true, true, true, false, false, false] rfl (kk _ I2)
  · refine zl_st R hct 1 3192 [some (.inl (.ref b)), some (.inr (12, 0)), some (.inr (13, 0)), some (.inr (32, 0)), some (.inr (33, 0)), some (.inl (.int x5)), some (.inl (.int k0)), some (.inl (.int b0)), none] [] m2 rfl ⟨trivial, trivial⟩ ?_
    exact zl_mask R [true, true, true, true, true, true, false, false, false] rfl (kk _ I2)
theorem lw_c10 {xs : Nat → Int32} {L b : Nat} {G : Nat → Nat → zL → List zA → zM → Prop} (R : zLw xs L b G) {x5 : Int32} (hin : ∀ K : Int32, (K = 1 ∨ K = 2 ∨ K = 3) → vp_in (x5 + K) L) {k : Nat} {m : zM} (I : zInv m) (kk : ∀ m', zInv m' → G k 3192 (lwL b x5) [] m') : G (3 + k) 943 (lwL b x5) [] m := by
  have hct : z_okT 0 code tW10 = true := oT10
  have hcc : z_okC 0 code z_MT tW10 = true := oC10
  obtain ⟨k0, m1, b0, m2, hX, hY, hk, hb, I2⟩ := t_level I (xs (x5 + 1).toNatClampNeg)
  refine zl_st R hct 1 944 [some (.inl (.ref b)), some (.inr (12, 0)), some (.inr (13, 0)), some (.inr (32, 0)), some (.inr (33, 0)), some (.inl (.int x5)), none, none, none] [.inr (12, 0)] m rfl ⟨trivial, trivial⟩ ?_
  refine zl_arg R hct 1 rfl rfl rfl ⟨trivial, trivial, trivial, trivial⟩ rfl (hin 1 (by decide)) ?_
  refine zl_st R hct 1 951 [some (.inl (.ref b)), some (.inr (12, 0)), some (.inr (13, 0)), some (.inr (32, 0)), some (.inr (33, 0)), some (.inl (.int x5)), none, none, none] [.inr (32, 0), .inl (.int (xs (x5 + 1).toNatClampNeg)), .inr (12, 0)] m rfl ⟨trivial, trivial⟩ ?_
  refine zl_call R hcc (d := 6) (k1 := 3) (k2 := k) (by decide) rfl r_L_level (w_L_level 0 2 (xs (x5 + 1).toNatClampNeg) m (k0, m1) hX) ?_
  refine zl_st R hct 2 957 [some (.inl (.ref b)), some (.inr (12, 0)), some (.inr (13, 0)), some (.inr (32, 0)), some (.inr (33, 0)), some (.inl (.int x5)), some (.inl (.int k0)), none, none] [.inr (13, 0)] m1 rfl ⟨trivial, trivial, trivial⟩ ?_
  refine zl_arg R hct 1 rfl rfl rfl ⟨trivial, trivial, trivial, trivial⟩ rfl (hin 1 (by decide)) ?_
  refine zl_call0 R hcc (d := 3) (by decide) rfl (r_X12_level (Nat.le_of_ble_eq_true rfl)) (w_X12_level 0 0 (xs (x5 + 1).toNatClampNeg) m1 (b0, m2) hY) ?_
  refine zl_st R hct 2 969 [some (.inl (.ref b)), some (.inr (12, 0)), some (.inr (13, 0)), some (.inr (32, 0)), some (.inr (33, 0)), some (.inl (.int x5)), some (.inl (.int k0)), some (.inl (.int b0)), none] [.inr (13, 0)] m2 rfl ⟨trivial, trivial, trivial⟩ ?_
  refine zl_call0 R hcc (d := 1) (by decide) rfl (r_X12_thrown (Nat.le_of_ble_eq_true rfl)) (w_X12_thrown 0 0 m2 (m2.1 13 0 0) rfl) ?_
  refine zl_st R hct 1 974 [some (.inl (.ref b)), some (.inr (12, 0)), some (.inr (13, 0)), some (.inr (32, 0)), some (.inr (33, 0)), some (.inl (.int x5)), some (.inl (.int k0)), some (.inl (.int b0)), none] [.inl (.int k0), .inl (.int (m2.1 13 0 0))] m2 rfl ⟨trivial, trivial⟩ ?_
  refine zl_br R hct rfl (fun _ => ?_) (fun cq => absurd hk cq)
  refine zl_st R hct 1 981 [some (.inl (.ref b)), some (.inr (12, 0)), some (.inr (13, 0)), some (.inr (32, 0)), some (.inr (33, 0)), some (.inl (.int x5)), some (.inl (.int k0)), some (.inl (.int b0)), none] [.inl (.int k0)] m2 rfl ⟨trivial, trivial⟩ ?_
  refine zl_br R hct rfl (fun c0 => ?_) (fun _ => ?_)
  · refine zl_st R hct 6 991 [some (.inl (.ref b)), some (.inr (12, 0)), some (.inr (13, 0)), some (.inr (32, 0)), some (.inr (33, 0)), some (.inl (.int x5)), some (.inl (.int k0)), some (.inl (.int b0)), none] [.inl (.int (lg_cmp (m2.2.1 32 0 0) (Int32.toInt64 b0)))] m2 rfl ⟨trivial, trivial, ⟨(Nat.le_of_ble_eq_true rfl), by unfold vp_in; decide⟩, trivial, trivial, trivial, trivial⟩ ?_
    refine zl_br R hct rfl (fun _ => ?_) (fun cq => absurd (by rw [hb c0]; exact z_cmp_self _) cq)
    refine zl_st R hct 1 3192 [some (.inl (.ref b)), some (.inr (12, 0)), some (.inr (13, 0)), some (.inr (32, 0)), some (.inr (33, 0)), some (.inl (.int x5)), some (.inl (.int k0)), some (.inl (.int b0)), none] [] m2 rfl ⟨trivial, trivial⟩ ?_
    exact zl_mask R [true, true, true, true, true, true, false, false, false] rfl (kk _ I2)
  · refine zl_st R hct 1 3192 [some (.inl (.ref b)), some (.inr (12, 0)), some (.inr (13, 0)), some (.inr (32, 0)), some (.inr (33, 0)), some (.inl (.int x5)), some (.inl (.int k0)), some (.inl (.int b0)), none] [] m2 rfl ⟨trivial, trivial⟩ ?_
    exact zl_mask R [true, true, true, true, true, true, false, false, false] rfl (kk _ I2)
theorem lw_c11 {xs : Nat → Int32} {L b : Nat} {G : Nat → Nat → zL → List zA → zM → Prop} (R : zLw xs L b G) {x5 : Int32} (hin : ∀ K : Int32, (K = 1 ∨ K = 2 ∨ K = 3) → vp_in (x5 + K) L) {k : Nat} {m : zM} (I : zInv m) (kk : ∀ m', zInv m' → G k 3192 (lwL b x5) [] m') : G (3 + k) 999 (lwL b x5) [] m := by
  have hct : z_okT 0 code tW11 = true := oT11
  have hcc : z_okC 0 code z_MT tW11 = true := oC11
  obtain ⟨k0, m1, b0, m2, hX, hY, hk, hb, I2⟩ := t_levelByPools I (xs (x5 + 1).toNatClampNeg)
  refine zl_st R hct 1 1000 [some (.inl (.ref b)), some (.inr (12, 0)), some (.inr (13, 0)), some (.inr (32, 0)), some (.inr (33, 0)), some (.inl (.int x5)), none, none, none] [.inr (12, 0)] m rfl ⟨trivial, trivial⟩ ?_
  refine zl_arg R hct 1 rfl rfl rfl ⟨trivial, trivial, trivial, trivial⟩ rfl (hin 1 (by decide)) ?_
  refine zl_st R hct 1 1007 [some (.inl (.ref b)), some (.inr (12, 0)), some (.inr (13, 0)), some (.inr (32, 0)), some (.inr (33, 0)), some (.inl (.int x5)), none, none, none] [.inr (32, 0), .inl (.int (xs (x5 + 1).toNatClampNeg)), .inr (12, 0)] m rfl ⟨trivial, trivial⟩ ?_
  refine zl_call R hcc (d := 6) (k1 := 3) (k2 := k) (by decide) rfl r_L_levelByPools (w_L_levelByPools 0 2 (xs (x5 + 1).toNatClampNeg) m (k0, m1) hX) ?_
  refine zl_st R hct 2 1013 [some (.inl (.ref b)), some (.inr (12, 0)), some (.inr (13, 0)), some (.inr (32, 0)), some (.inr (33, 0)), some (.inl (.int x5)), some (.inl (.int k0)), none, none] [.inr (13, 0)] m1 rfl ⟨trivial, trivial, trivial⟩ ?_
  refine zl_arg R hct 1 rfl rfl rfl ⟨trivial, trivial, trivial, trivial⟩ rfl (hin 1 (by decide)) ?_
  refine zl_call0 R hcc (d := 4) (by decide) rfl (r_X12_levelByPools (Nat.le_of_ble_eq_true rfl)) (w_X12_levelByPools 0 0 (xs (x5 + 1).toNatClampNeg) m1 (b0, m2) hY) ?_
  refine zl_st R hct 2 1025 [some (.inl (.ref b)), some (.inr (12, 0)), some (.inr (13, 0)), some (.inr (32, 0)), some (.inr (33, 0)), some (.inl (.int x5)), some (.inl (.int k0)), some (.inl (.int b0)), none] [.inr (13, 0)] m2 rfl ⟨trivial, trivial, trivial⟩ ?_
  refine zl_call0 R hcc (d := 1) (by decide) rfl (r_X12_thrown (Nat.le_of_ble_eq_true rfl)) (w_X12_thrown 0 0 m2 (m2.1 13 0 0) rfl) ?_
  refine zl_st R hct 1 1030 [some (.inl (.ref b)), some (.inr (12, 0)), some (.inr (13, 0)), some (.inr (32, 0)), some (.inr (33, 0)), some (.inl (.int x5)), some (.inl (.int k0)), some (.inl (.int b0)), none] [.inl (.int k0), .inl (.int (m2.1 13 0 0))] m2 rfl ⟨trivial, trivial⟩ ?_
  refine zl_br R hct rfl (fun _ => ?_) (fun cq => absurd hk cq)
  refine zl_st R hct 1 1037 [some (.inl (.ref b)), some (.inr (12, 0)), some (.inr (13, 0)), some (.inr (32, 0)), some (.inr (33, 0)), some (.inl (.int x5)), some (.inl (.int k0)), some (.inl (.int b0)), none] [.inl (.int k0)] m2 rfl ⟨trivial, trivial⟩ ?_
  refine zl_br R hct rfl (fun c0 => ?_) (fun _ => ?_)
  · refine zl_st R hct 6 1047 [some (.inl (.ref b)), some (.inr (12, 0)), some (.inr (13, 0)), some (.inr (32, 0)), some (.inr (33, 0)), some (.inl (.int x5)), some (.inl (.int k0)), some (.inl (.int b0)), none] [.inl (.int (lg_cmp (m2.2.1 32 0 0) (Int32.toInt64 b0)))] m2 rfl ⟨trivial, trivial, ⟨(Nat.le_of_ble_eq_true rfl), by unfold vp_in; decide⟩, trivial, trivial, trivial, trivial⟩ ?_
    refine zl_br R hct rfl (fun _ => ?_) (fun cq => absurd (by rw [hb c0]; exact z_cmp_self _) cq)
    refine zl_st R hct 1 3192 [some (.inl (.ref b)), some (.inr (12, 0)), some (.inr (13, 0)), some (.inr (32, 0)), some (.inr (33, 0)), some (.inl (.int x5)), some (.inl (.int k0)), some (.inl (.int b0)), none] [] m2 rfl ⟨trivial, trivial⟩ ?_
    exact zl_mask R [true, true, true, true, true, true, false, false, false] rfl (kk _ I2)
  · refine zl_st R hct 1 3192 [some (.inl (.ref b)), some (.inr (12, 0)), some (.inr (13, 0)), some (.inr (32, 0)), some (.inr (33, 0)), some (.inl (.int x5)), some (.inl (.int k0)), some (.inl (.int b0)), none] [] m2 rfl ⟨trivial, trivial⟩ ?_
    exact zl_mask R [true, true, true, true, true, true, false, false, false] rfl (kk _ I2)
theorem lw_c12 {xs : Nat → Int32} {L b : Nat} {G : Nat → Nat → zL → List zA → zM → Prop} (R : zLw xs L b G) {x5 : Int32} (hin : ∀ K : Int32, (K = 1 ∨ K = 2 ∨ K = 3) → vp_in (x5 + K) L) {k : Nat} {m : zM} (I : zInv m) (kk : ∀ m', zInv m' → G k 3192 (lwL b x5) [] m') : G (3 + k) 1055 (lwL b x5) [] m := by
  have hct : z_okT 0 code tW12 = true := oT12
  have hcc : z_okC 0 code z_MT tW12 = true := oC12
  obtain ⟨k0, m1, b0, m2, hX, hY, hk, hb, I2⟩ := t_lake I (xs (x5 + 1).toNatClampNeg) (xs (x5 + 2).toNatClampNeg)
  refine zl_st R hct 1 1056 [some (.inl (.ref b)), some (.inr (12, 0)), some (.inr (13, 0)), some (.inr (32, 0)), some (.inr (33, 0)), some (.inl (.int x5)), none, none, none] [.inr (12, 0)] m rfl ⟨trivial, trivial⟩ ?_
  refine zl_arg R hct 1 rfl rfl rfl ⟨trivial, trivial, trivial, trivial⟩ rfl (hin 1 (by decide)) ?_
  refine zl_arg R hct 2 rfl rfl rfl ⟨trivial, trivial, trivial, trivial⟩ rfl (hin 2 (by decide)) ?_
  refine zl_st R hct 1 1069 [some (.inl (.ref b)), some (.inr (12, 0)), some (.inr (13, 0)), some (.inr (32, 0)), some (.inr (33, 0)), some (.inl (.int x5)), none, none, none] [.inr (32, 0), .inl (.int (xs (x5 + 2).toNatClampNeg)), .inl (.int (xs (x5 + 1).toNatClampNeg)), .inr (12, 0)] m rfl ⟨trivial, trivial⟩ ?_
  refine zl_call R hcc (d := 7) (k1 := 3) (k2 := k) (by decide) rfl r_L_lake (w_L_lake 0 1 (xs (x5 + 1).toNatClampNeg) (xs (x5 + 2).toNatClampNeg) m (k0, m1) hX) ?_
  refine zl_st R hct 2 1075 [some (.inl (.ref b)), some (.inr (12, 0)), some (.inr (13, 0)), some (.inr (32, 0)), some (.inr (33, 0)), some (.inl (.int x5)), some (.inl (.int k0)), none, none] [.inr (13, 0)] m1 rfl ⟨trivial, trivial, trivial⟩ ?_
  refine zl_arg R hct 1 rfl rfl rfl ⟨trivial, trivial, trivial, trivial⟩ rfl (hin 1 (by decide)) ?_
  refine zl_arg R hct 2 rfl rfl rfl ⟨trivial, trivial, trivial, trivial⟩ rfl (hin 2 (by decide)) ?_
  refine zl_call0 R hcc (d := 6) (by decide) rfl (r_X12_lake (Nat.le_of_ble_eq_true rfl)) (w_X12_lake 0 0 (xs (x5 + 1).toNatClampNeg) (xs (x5 + 2).toNatClampNeg) m1 (b0, m2) hY) ?_
  refine zl_st R hct 2 1093 [some (.inl (.ref b)), some (.inr (12, 0)), some (.inr (13, 0)), some (.inr (32, 0)), some (.inr (33, 0)), some (.inl (.int x5)), some (.inl (.int k0)), some (.inl (.int b0)), none] [.inr (13, 0)] m2 rfl ⟨trivial, trivial, trivial⟩ ?_
  refine zl_call0 R hcc (d := 1) (by decide) rfl (r_X12_thrown (Nat.le_of_ble_eq_true rfl)) (w_X12_thrown 0 0 m2 (m2.1 13 0 0) rfl) ?_
  refine zl_st R hct 1 1098 [some (.inl (.ref b)), some (.inr (12, 0)), some (.inr (13, 0)), some (.inr (32, 0)), some (.inr (33, 0)), some (.inl (.int x5)), some (.inl (.int k0)), some (.inl (.int b0)), none] [.inl (.int k0), .inl (.int (m2.1 13 0 0))] m2 rfl ⟨trivial, trivial⟩ ?_
  refine zl_br R hct rfl (fun _ => ?_) (fun cq => absurd hk cq)
  refine zl_st R hct 1 1105 [some (.inl (.ref b)), some (.inr (12, 0)), some (.inr (13, 0)), some (.inr (32, 0)), some (.inr (33, 0)), some (.inl (.int x5)), some (.inl (.int k0)), some (.inl (.int b0)), none] [.inl (.int k0)] m2 rfl ⟨trivial, trivial⟩ ?_
  refine zl_br R hct rfl (fun c0 => ?_) (fun _ => ?_)
  · refine zl_st R hct 6 1115 [some (.inl (.ref b)), some (.inr (12, 0)), some (.inr (13, 0)), some (.inr (32, 0)), some (.inr (33, 0)), some (.inl (.int x5)), some (.inl (.int k0)), some (.inl (.int b0)), none] [.inl (.int (lg_cmp (m2.2.1 32 0 0) (Int32.toInt64 b0)))] m2 rfl ⟨trivial, trivial, ⟨(Nat.le_of_ble_eq_true rfl), by unfold vp_in; decide⟩, trivial, trivial, trivial, trivial⟩ ?_
    refine zl_br R hct rfl (fun _ => ?_) (fun cq => absurd (by rw [hb c0]; exact z_cmp_self _) cq)
    refine zl_st R hct 1 3192 [some (.inl (.ref b)), some (.inr (12, 0)), some (.inr (13, 0)), some (.inr (32, 0)), some (.inr (33, 0)), some (.inl (.int x5)), some (.inl (.int k0)), some (.inl (.int b0)), none] [] m2 rfl ⟨trivial, trivial⟩ ?_
    exact zl_mask R [true, true, true, true, true, true, false, false, false] rfl (kk _ I2)
  · refine zl_st R hct 1 3192 [some (.inl (.ref b)), some (.inr (12, 0)), some (.inr (13, 0)), some (.inr (32, 0)), some (.inr (33, 0)), some (.inl (.int x5)), some (.inl (.int k0)), some (.inl (.int b0)), none] [] m2 rfl ⟨trivial, trivial⟩ ?_
    exact zl_mask R [true, true, true, true, true, true, false, false, false] rfl (kk _ I2)
theorem lw_c13 {xs : Nat → Int32} {L b : Nat} {G : Nat → Nat → zL → List zA → zM → Prop} (R : zLw xs L b G) {x5 : Int32} (hin : ∀ K : Int32, (K = 1 ∨ K = 2 ∨ K = 3) → vp_in (x5 + K) L) {k : Nat} {m : zM} (I : zInv m) (kk : ∀ m', zInv m' → G k 3192 (lwL b x5) [] m') : G (3 + k) 1123 (lwL b x5) [] m := by
  have hct : z_okT 0 code tW13 = true := oT13
  have hcc : z_okC 0 code z_MT tW13 = true := oC13
  obtain ⟨k0, m1, b0, m2, hX, hY, hk, hb, I2⟩ := t_lakeOf I (xs (x5 + 1).toNatClampNeg)
  refine zl_st R hct 1 1124 [some (.inl (.ref b)), some (.inr (12, 0)), some (.inr (13, 0)), some (.inr (32, 0)), some (.inr (33, 0)), some (.inl (.int x5)), none, none, none] [.inr (12, 0)] m rfl ⟨trivial, trivial⟩ ?_
  refine zl_arg R hct 1 rfl rfl rfl ⟨trivial, trivial, trivial, trivial⟩ rfl (hin 1 (by decide)) ?_
  refine zl_st R hct 1 1131 [some (.inl (.ref b)), some (.inr (12, 0)), some (.inr (13, 0)), some (.inr (32, 0)), some (.inr (33, 0)), some (.inl (.int x5)), none, none, none] [.inr (32, 0), .inl (.int (xs (x5 + 1).toNatClampNeg)), .inr (12, 0)] m rfl ⟨trivial, trivial⟩ ?_
  refine zl_call R hcc (d := 6) (k1 := 3) (k2 := k) (by decide) rfl r_L_lakeOf (w_L_lakeOf 0 1 (xs (x5 + 1).toNatClampNeg) m (k0, m1) hX) ?_
  refine zl_st R hct 2 1137 [some (.inl (.ref b)), some (.inr (12, 0)), some (.inr (13, 0)), some (.inr (32, 0)), some (.inr (33, 0)), some (.inl (.int x5)), some (.inl (.int k0)), none, none] [.inr (13, 0)] m1 rfl ⟨trivial, trivial, trivial⟩ ?_
  refine zl_arg R hct 1 rfl rfl rfl ⟨trivial, trivial, trivial, trivial⟩ rfl (hin 1 (by decide)) ?_
  refine zl_call0 R hcc (d := 5) (by decide) rfl (r_X12_lakeOf (Nat.le_of_ble_eq_true rfl)) (w_X12_lakeOf 0 0 (xs (x5 + 1).toNatClampNeg) m1 (b0, m2) hY) ?_
  refine zl_st R hct 2 1149 [some (.inl (.ref b)), some (.inr (12, 0)), some (.inr (13, 0)), some (.inr (32, 0)), some (.inr (33, 0)), some (.inl (.int x5)), some (.inl (.int k0)), some (.inl (.int b0)), none] [.inr (13, 0)] m2 rfl ⟨trivial, trivial, trivial⟩ ?_
  refine zl_call0 R hcc (d := 1) (by decide) rfl (r_X12_thrown (Nat.le_of_ble_eq_true rfl)) (w_X12_thrown 0 0 m2 (m2.1 13 0 0) rfl) ?_
  refine zl_st R hct 1 1154 [some (.inl (.ref b)), some (.inr (12, 0)), some (.inr (13, 0)), some (.inr (32, 0)), some (.inr (33, 0)), some (.inl (.int x5)), some (.inl (.int k0)), some (.inl (.int b0)), none] [.inl (.int k0), .inl (.int (m2.1 13 0 0))] m2 rfl ⟨trivial, trivial⟩ ?_
  refine zl_br R hct rfl (fun _ => ?_) (fun cq => absurd hk cq)
  refine zl_st R hct 1 1161 [some (.inl (.ref b)), some (.inr (12, 0)), some (.inr (13, 0)), some (.inr (32, 0)), some (.inr (33, 0)), some (.inl (.int x5)), some (.inl (.int k0)), some (.inl (.int b0)), none] [.inl (.int k0)] m2 rfl ⟨trivial, trivial⟩ ?_
  refine zl_br R hct rfl (fun c0 => ?_) (fun _ => ?_)
  · refine zl_st R hct 6 1171 [some (.inl (.ref b)), some (.inr (12, 0)), some (.inr (13, 0)), some (.inr (32, 0)), some (.inr (33, 0)), some (.inl (.int x5)), some (.inl (.int k0)), some (.inl (.int b0)), none] [.inl (.int (lg_cmp (m2.2.1 32 0 0) (Int32.toInt64 b0)))] m2 rfl ⟨trivial, trivial, ⟨(Nat.le_of_ble_eq_true rfl), by unfold vp_in; decide⟩, trivial, trivial, trivial, trivial⟩ ?_
    refine zl_br R hct rfl (fun _ => ?_) (fun cq => absurd (by rw [hb c0]; exact z_cmp_self _) cq)
    refine zl_st R hct 1 3192 [some (.inl (.ref b)), some (.inr (12, 0)), some (.inr (13, 0)), some (.inr (32, 0)), some (.inr (33, 0)), some (.inl (.int x5)), some (.inl (.int k0)), some (.inl (.int b0)), none] [] m2 rfl ⟨trivial, trivial⟩ ?_
    exact zl_mask R [true, true, true, true, true, true, false, false, false] rfl (kk _ I2)
  · refine zl_st R hct 1 3192 [some (.inl (.ref b)), some (.inr (12, 0)), some (.inr (13, 0)), some (.inr (32, 0)), some (.inr (33, 0)), some (.inl (.int x5)), some (.inl (.int k0)), some (.inl (.int b0)), none] [] m2 rfl ⟨trivial, trivial⟩ ?_
    exact zl_mask R [true, true, true, true, true, true, false, false, false] rfl (kk _ I2)
theorem lw_c14 {xs : Nat → Int32} {L b : Nat} {G : Nat → Nat → zL → List zA → zM → Prop} (R : zLw xs L b G) {x5 : Int32} (hin : ∀ K : Int32, (K = 1 ∨ K = 2 ∨ K = 3) → vp_in (x5 + K) L) {k : Nat} {m : zM} (I : zInv m) (kk : ∀ m', zInv m' → G k 3192 (lwL b x5) [] m') : G (3 + k) 1179 (lwL b x5) [] m := by
  have hct : z_okT 0 code tW14 = true := oT14
  have hcc : z_okC 0 code z_MT tW14 = true := oC14
  obtain ⟨k0, m1, b0, m2, hX, hY, hk, hb, I2⟩ := t_remedy I (xs (x5 + 1).toNatClampNeg)
  refine zl_st R hct 1 1180 [some (.inl (.ref b)), some (.inr (12, 0)), some (.inr (13, 0)), some (.inr (32, 0)), some (.inr (33, 0)), some (.inl (.int x5)), none, none, none] [.inr (12, 0)] m rfl ⟨trivial, trivial⟩ ?_
  refine zl_arg R hct 1 rfl rfl rfl ⟨trivial, trivial, trivial, trivial⟩ rfl (hin 1 (by decide)) ?_
  refine zl_st R hct 1 1187 [some (.inl (.ref b)), some (.inr (12, 0)), some (.inr (13, 0)), some (.inr (32, 0)), some (.inr (33, 0)), some (.inl (.int x5)), none, none, none] [.inr (32, 0), .inl (.int (xs (x5 + 1).toNatClampNeg)), .inr (12, 0)] m rfl ⟨trivial, trivial⟩ ?_
  refine zl_call R hcc (d := 7) (k1 := 3) (k2 := k) (by decide) rfl r_L_remedy (w_L_remedy 0 2 (xs (x5 + 1).toNatClampNeg) m (k0, m1) hX) ?_
  refine zl_st R hct 2 1193 [some (.inl (.ref b)), some (.inr (12, 0)), some (.inr (13, 0)), some (.inr (32, 0)), some (.inr (33, 0)), some (.inl (.int x5)), some (.inl (.int k0)), none, none] [.inr (13, 0)] m1 rfl ⟨trivial, trivial, trivial⟩ ?_
  refine zl_arg R hct 1 rfl rfl rfl ⟨trivial, trivial, trivial, trivial⟩ rfl (hin 1 (by decide)) ?_
  refine zl_call0 R hcc (d := 6) (by decide) rfl (r_X12_remedy (Nat.le_of_ble_eq_true rfl)) (w_X12_remedy 0 0 (xs (x5 + 1).toNatClampNeg) m1 (b0, m2) hY) ?_
  refine zl_st R hct 2 1205 [some (.inl (.ref b)), some (.inr (12, 0)), some (.inr (13, 0)), some (.inr (32, 0)), some (.inr (33, 0)), some (.inl (.int x5)), some (.inl (.int k0)), some (.inl (.int b0)), none] [.inr (13, 0)] m2 rfl ⟨trivial, trivial, trivial⟩ ?_
  refine zl_call0 R hcc (d := 1) (by decide) rfl (r_X12_thrown (Nat.le_of_ble_eq_true rfl)) (w_X12_thrown 0 0 m2 (m2.1 13 0 0) rfl) ?_
  refine zl_st R hct 1 1210 [some (.inl (.ref b)), some (.inr (12, 0)), some (.inr (13, 0)), some (.inr (32, 0)), some (.inr (33, 0)), some (.inl (.int x5)), some (.inl (.int k0)), some (.inl (.int b0)), none] [.inl (.int k0), .inl (.int (m2.1 13 0 0))] m2 rfl ⟨trivial, trivial⟩ ?_
  refine zl_br R hct rfl (fun _ => ?_) (fun cq => absurd hk cq)
  refine zl_st R hct 1 1217 [some (.inl (.ref b)), some (.inr (12, 0)), some (.inr (13, 0)), some (.inr (32, 0)), some (.inr (33, 0)), some (.inl (.int x5)), some (.inl (.int k0)), some (.inl (.int b0)), none] [.inl (.int k0)] m2 rfl ⟨trivial, trivial⟩ ?_
  refine zl_br R hct rfl (fun c0 => ?_) (fun _ => ?_)
  · refine zl_st R hct 6 1227 [some (.inl (.ref b)), some (.inr (12, 0)), some (.inr (13, 0)), some (.inr (32, 0)), some (.inr (33, 0)), some (.inl (.int x5)), some (.inl (.int k0)), some (.inl (.int b0)), none] [.inl (.int (lg_cmp (m2.2.1 32 0 0) (Int32.toInt64 b0)))] m2 rfl ⟨trivial, trivial, ⟨(Nat.le_of_ble_eq_true rfl), by unfold vp_in; decide⟩, trivial, trivial, trivial, trivial⟩ ?_
    refine zl_br R hct rfl (fun _ => ?_) (fun cq => absurd (by rw [hb c0]; exact z_cmp_self _) cq)
    refine zl_st R hct 1 3192 [some (.inl (.ref b)), some (.inr (12, 0)), some (.inr (13, 0)), some (.inr (32, 0)), some (.inr (33, 0)), some (.inl (.int x5)), some (.inl (.int k0)), some (.inl (.int b0)), none] [] m2 rfl ⟨trivial, trivial⟩ ?_
    exact zl_mask R [true, true, true, true, true, true, false, false, false] rfl (kk _ I2)
  · refine zl_st R hct 1 3192 [some (.inl (.ref b)), some (.inr (12, 0)), some (.inr (13, 0)), some (.inr (32, 0)), some (.inr (33, 0)), some (.inl (.int x5)), some (.inl (.int k0)), some (.inl (.int b0)), none] [] m2 rfl ⟨trivial, trivial⟩ ?_
    exact zl_mask R [true, true, true, true, true, true, false, false, false] rfl (kk _ I2)
theorem lw_c15 {xs : Nat → Int32} {L b : Nat} {G : Nat → Nat → zL → List zA → zM → Prop} (R : zLw xs L b G) {x5 : Int32} (hin : ∀ K : Int32, (K = 1 ∨ K = 2 ∨ K = 3) → vp_in (x5 + K) L) {k : Nat} {m : zM} (I : zInv m) (kk : ∀ m', zInv m' → G k 3192 (lwL b x5) [] m') : G (3 + k) 1235 (lwL b x5) [] m := by
  have hct : z_okT 0 code tW15 = true := oT15
  have hcc : z_okC 0 code z_MT tW15 = true := oC15
  obtain ⟨k0, m1, b0, m2, hX, hY, hk, hb, I2⟩ := t_fillLake I (xs (x5 + 1).toNatClampNeg)
  refine zl_st R hct 1 1236 [some (.inl (.ref b)), some (.inr (12, 0)), some (.inr (13, 0)), some (.inr (32, 0)), some (.inr (33, 0)), some (.inl (.int x5)), none, none, none] [.inr (12, 0)] m rfl ⟨trivial, trivial⟩ ?_
  refine zl_arg R hct 1 rfl rfl rfl ⟨trivial, trivial, trivial, trivial⟩ rfl (hin 1 (by decide)) ?_
  refine zl_st R hct 1 1243 [some (.inl (.ref b)), some (.inr (12, 0)), some (.inr (13, 0)), some (.inr (32, 0)), some (.inr (33, 0)), some (.inl (.int x5)), none, none, none] [.inr (32, 0), .inl (.int (xs (x5 + 1).toNatClampNeg)), .inr (12, 0)] m rfl ⟨trivial, trivial⟩ ?_
  refine zl_call R hcc (d := 7) (k1 := 3) (k2 := k) (by decide) rfl r_L_fillLake (w_L_fillLake 0 2 (xs (x5 + 1).toNatClampNeg) m (k0, m1) hX) ?_
  refine zl_st R hct 2 1249 [some (.inl (.ref b)), some (.inr (12, 0)), some (.inr (13, 0)), some (.inr (32, 0)), some (.inr (33, 0)), some (.inl (.int x5)), some (.inl (.int k0)), none, none] [.inr (13, 0)] m1 rfl ⟨trivial, trivial, trivial⟩ ?_
  refine zl_arg R hct 1 rfl rfl rfl ⟨trivial, trivial, trivial, trivial⟩ rfl (hin 1 (by decide)) ?_
  refine zl_call0 R hcc (d := 6) (by decide) rfl (r_X12_fillLake (Nat.le_of_ble_eq_true rfl)) (w_X12_fillLake 0 0 (xs (x5 + 1).toNatClampNeg) m1 (b0, m2) hY) ?_
  refine zl_st R hct 2 1261 [some (.inl (.ref b)), some (.inr (12, 0)), some (.inr (13, 0)), some (.inr (32, 0)), some (.inr (33, 0)), some (.inl (.int x5)), some (.inl (.int k0)), some (.inl (.int b0)), none] [.inr (13, 0)] m2 rfl ⟨trivial, trivial, trivial⟩ ?_
  refine zl_call0 R hcc (d := 1) (by decide) rfl (r_X12_thrown (Nat.le_of_ble_eq_true rfl)) (w_X12_thrown 0 0 m2 (m2.1 13 0 0) rfl) ?_
  refine zl_st R hct 1 1266 [some (.inl (.ref b)), some (.inr (12, 0)), some (.inr (13, 0)), some (.inr (32, 0)), some (.inr (33, 0)), some (.inl (.int x5)), some (.inl (.int k0)), some (.inl (.int b0)), none] [.inl (.int k0), .inl (.int (m2.1 13 0 0))] m2 rfl ⟨trivial, trivial⟩ ?_
  refine zl_br R hct rfl (fun _ => ?_) (fun cq => absurd hk cq)
  refine zl_st R hct 1 1273 [some (.inl (.ref b)), some (.inr (12, 0)), some (.inr (13, 0)), some (.inr (32, 0)), some (.inr (33, 0)), some (.inl (.int x5)), some (.inl (.int k0)), some (.inl (.int b0)), none] [.inl (.int k0)] m2 rfl ⟨trivial, trivial⟩ ?_
  refine zl_br R hct rfl (fun c0 => ?_) (fun _ => ?_)
  · refine zl_st R hct 6 1283 [some (.inl (.ref b)), some (.inr (12, 0)), some (.inr (13, 0)), some (.inr (32, 0)), some (.inr (33, 0)), some (.inl (.int x5)), some (.inl (.int k0)), some (.inl (.int b0)), none] [.inl (.int (lg_cmp (m2.2.1 32 0 0) (Int32.toInt64 b0)))] m2 rfl ⟨trivial, trivial, ⟨(Nat.le_of_ble_eq_true rfl), by unfold vp_in; decide⟩, trivial, trivial, trivial, trivial⟩ ?_
    refine zl_br R hct rfl (fun _ => ?_) (fun cq => absurd (by rw [hb c0]; exact z_cmp_self _) cq)
    refine zl_st R hct 1 3192 [some (.inl (.ref b)), some (.inr (12, 0)), some (.inr (13, 0)), some (.inr (32, 0)), some (.inr (33, 0)), some (.inl (.int x5)), some (.inl (.int k0)), some (.inl (.int b0)), none] [] m2 rfl ⟨trivial, trivial⟩ ?_
    exact zl_mask R [true, true, true, true, true, true, false, false, false] rfl (kk _ I2)
  · refine zl_st R hct 1 3192 [some (.inl (.ref b)), some (.inr (12, 0)), some (.inr (13, 0)), some (.inr (32, 0)), some (.inr (33, 0)), some (.inl (.int x5)), some (.inl (.int k0)), some (.inl (.int b0)), none] [] m2 rfl ⟨trivial, trivial⟩ ?_
    exact zl_mask R [true, true, true, true, true, true, false, false, false] rfl (kk _ I2)
theorem lw_c16 {xs : Nat → Int32} {L b : Nat} {G : Nat → Nat → zL → List zA → zM → Prop} (R : zLw xs L b G) {x5 : Int32} (hin : ∀ K : Int32, (K = 1 ∨ K = 2 ∨ K = 3) → vp_in (x5 + K) L) {k : Nat} {m : zM} (I : zInv m) (kk : ∀ m', zInv m' → G k 3192 (lwL b x5) [] m') : G (3 + k) 1291 (lwL b x5) [] m := by
  have hct : z_okT 0 code tW16 = true := oT16
  have hcc : z_okC 0 code z_MT tW16 = true := oC16
  obtain ⟨k0, m1, b0, m2, hX, hY, hk, hb, I2⟩ := t_carveLake I (xs (x5 + 1).toNatClampNeg)
  refine zl_st R hct 1 1292 [some (.inl (.ref b)), some (.inr (12, 0)), some (.inr (13, 0)), some (.inr (32, 0)), some (.inr (33, 0)), some (.inl (.int x5)), none, none, none] [.inr (12, 0)] m rfl ⟨trivial, trivial⟩ ?_
  refine zl_arg R hct 1 rfl rfl rfl ⟨trivial, trivial, trivial, trivial⟩ rfl (hin 1 (by decide)) ?_
  refine zl_st R hct 1 1299 [some (.inl (.ref b)), some (.inr (12, 0)), some (.inr (13, 0)), some (.inr (32, 0)), some (.inr (33, 0)), some (.inl (.int x5)), none, none, none] [.inr (32, 0), .inl (.int (xs (x5 + 1).toNatClampNeg)), .inr (12, 0)] m rfl ⟨trivial, trivial⟩ ?_
  refine zl_call R hcc (d := 7) (k1 := 3) (k2 := k) (by decide) rfl r_L_carveLake (w_L_carveLake 0 2 (xs (x5 + 1).toNatClampNeg) m (k0, m1) hX) ?_
  refine zl_st R hct 2 1305 [some (.inl (.ref b)), some (.inr (12, 0)), some (.inr (13, 0)), some (.inr (32, 0)), some (.inr (33, 0)), some (.inl (.int x5)), some (.inl (.int k0)), none, none] [.inr (13, 0)] m1 rfl ⟨trivial, trivial, trivial⟩ ?_
  refine zl_arg R hct 1 rfl rfl rfl ⟨trivial, trivial, trivial, trivial⟩ rfl (hin 1 (by decide)) ?_
  refine zl_call0 R hcc (d := 6) (by decide) rfl (r_X12_carveLake (Nat.le_of_ble_eq_true rfl)) (w_X12_carveLake 0 0 (xs (x5 + 1).toNatClampNeg) m1 (b0, m2) hY) ?_
  refine zl_st R hct 2 1317 [some (.inl (.ref b)), some (.inr (12, 0)), some (.inr (13, 0)), some (.inr (32, 0)), some (.inr (33, 0)), some (.inl (.int x5)), some (.inl (.int k0)), some (.inl (.int b0)), none] [.inr (13, 0)] m2 rfl ⟨trivial, trivial, trivial⟩ ?_
  refine zl_call0 R hcc (d := 1) (by decide) rfl (r_X12_thrown (Nat.le_of_ble_eq_true rfl)) (w_X12_thrown 0 0 m2 (m2.1 13 0 0) rfl) ?_
  refine zl_st R hct 1 1322 [some (.inl (.ref b)), some (.inr (12, 0)), some (.inr (13, 0)), some (.inr (32, 0)), some (.inr (33, 0)), some (.inl (.int x5)), some (.inl (.int k0)), some (.inl (.int b0)), none] [.inl (.int k0), .inl (.int (m2.1 13 0 0))] m2 rfl ⟨trivial, trivial⟩ ?_
  refine zl_br R hct rfl (fun _ => ?_) (fun cq => absurd hk cq)
  refine zl_st R hct 1 1329 [some (.inl (.ref b)), some (.inr (12, 0)), some (.inr (13, 0)), some (.inr (32, 0)), some (.inr (33, 0)), some (.inl (.int x5)), some (.inl (.int k0)), some (.inl (.int b0)), none] [.inl (.int k0)] m2 rfl ⟨trivial, trivial⟩ ?_
  refine zl_br R hct rfl (fun c0 => ?_) (fun _ => ?_)
  · refine zl_st R hct 6 1339 [some (.inl (.ref b)), some (.inr (12, 0)), some (.inr (13, 0)), some (.inr (32, 0)), some (.inr (33, 0)), some (.inl (.int x5)), some (.inl (.int k0)), some (.inl (.int b0)), none] [.inl (.int (lg_cmp (m2.2.1 32 0 0) (Int32.toInt64 b0)))] m2 rfl ⟨trivial, trivial, ⟨(Nat.le_of_ble_eq_true rfl), by unfold vp_in; decide⟩, trivial, trivial, trivial, trivial⟩ ?_
    refine zl_br R hct rfl (fun _ => ?_) (fun cq => absurd (by rw [hb c0]; exact z_cmp_self _) cq)
    refine zl_st R hct 1 3192 [some (.inl (.ref b)), some (.inr (12, 0)), some (.inr (13, 0)), some (.inr (32, 0)), some (.inr (33, 0)), some (.inl (.int x5)), some (.inl (.int k0)), some (.inl (.int b0)), none] [] m2 rfl ⟨trivial, trivial⟩ ?_
    exact zl_mask R [true, true, true, true, true, true, false, false, false] rfl (kk _ I2)
  · refine zl_st R hct 1 3192 [some (.inl (.ref b)), some (.inr (12, 0)), some (.inr (13, 0)), some (.inr (32, 0)), some (.inr (33, 0)), some (.inl (.int x5)), some (.inl (.int k0)), some (.inl (.int b0)), none] [] m2 rfl ⟨trivial, trivial⟩ ?_
    exact zl_mask R [true, true, true, true, true, true, false, false, false] rfl (kk _ I2)
theorem lw_c17 {xs : Nat → Int32} {L b : Nat} {G : Nat → Nat → zL → List zA → zM → Prop} (R : zLw xs L b G) {x5 : Int32} (hin : ∀ K : Int32, (K = 1 ∨ K = 2 ∨ K = 3) → vp_in (x5 + K) L) {k : Nat} {m : zM} (I : zInv m) (kk : ∀ m', zInv m' → G k 3192 (lwL b x5) [] m') : G (3 + k) 1347 (lwL b x5) [] m := by
  have hct : z_okT 0 code tW17 = true := oT17
  have hcc : z_okC 0 code z_MT tW17 = true := oC17
  obtain ⟨k0, m1, b0, m2, hX, hY, hk, hb, I2⟩ := t_carveWay I (xs (x5 + 1).toNatClampNeg) (xs (x5 + 2).toNatClampNeg)
  refine zl_st R hct 1 1348 [some (.inl (.ref b)), some (.inr (12, 0)), some (.inr (13, 0)), some (.inr (32, 0)), some (.inr (33, 0)), some (.inl (.int x5)), none, none, none] [.inr (12, 0)] m rfl ⟨trivial, trivial⟩ ?_
  refine zl_arg R hct 1 rfl rfl rfl ⟨trivial, trivial, trivial, trivial⟩ rfl (hin 1 (by decide)) ?_
  refine zl_arg R hct 2 rfl rfl rfl ⟨trivial, trivial, trivial, trivial⟩ rfl (hin 2 (by decide)) ?_
  refine zl_st R hct 1 1361 [some (.inl (.ref b)), some (.inr (12, 0)), some (.inr (13, 0)), some (.inr (32, 0)), some (.inr (33, 0)), some (.inl (.int x5)), none, none, none] [.inr (32, 0), .inl (.int (xs (x5 + 2).toNatClampNeg)), .inl (.int (xs (x5 + 1).toNatClampNeg)), .inr (12, 0)] m rfl ⟨trivial, trivial⟩ ?_
  refine zl_call R hcc (d := 7) (k1 := 3) (k2 := k) (by decide) rfl r_L_carveWay (w_L_carveWay 0 1 (xs (x5 + 1).toNatClampNeg) (xs (x5 + 2).toNatClampNeg) m (k0, m1) hX) ?_
  refine zl_st R hct 2 1367 [some (.inl (.ref b)), some (.inr (12, 0)), some (.inr (13, 0)), some (.inr (32, 0)), some (.inr (33, 0)), some (.inl (.int x5)), some (.inl (.int k0)), none, none] [.inr (13, 0)] m1 rfl ⟨trivial, trivial, trivial⟩ ?_
  refine zl_arg R hct 1 rfl rfl rfl ⟨trivial, trivial, trivial, trivial⟩ rfl (hin 1 (by decide)) ?_
  refine zl_arg R hct 2 rfl rfl rfl ⟨trivial, trivial, trivial, trivial⟩ rfl (hin 2 (by decide)) ?_
  refine zl_call0 R hcc (d := 5) (by decide) rfl (r_X12_carveWay (Nat.le_of_ble_eq_true rfl)) (w_X12_carveWay 0 0 (xs (x5 + 1).toNatClampNeg) (xs (x5 + 2).toNatClampNeg) m1 (b0, m2) hY) ?_
  refine zl_st R hct 2 1385 [some (.inl (.ref b)), some (.inr (12, 0)), some (.inr (13, 0)), some (.inr (32, 0)), some (.inr (33, 0)), some (.inl (.int x5)), some (.inl (.int k0)), some (.inl (.int b0)), none] [.inr (13, 0)] m2 rfl ⟨trivial, trivial, trivial⟩ ?_
  refine zl_call0 R hcc (d := 1) (by decide) rfl (r_X12_thrown (Nat.le_of_ble_eq_true rfl)) (w_X12_thrown 0 0 m2 (m2.1 13 0 0) rfl) ?_
  refine zl_st R hct 1 1390 [some (.inl (.ref b)), some (.inr (12, 0)), some (.inr (13, 0)), some (.inr (32, 0)), some (.inr (33, 0)), some (.inl (.int x5)), some (.inl (.int k0)), some (.inl (.int b0)), none] [.inl (.int k0), .inl (.int (m2.1 13 0 0))] m2 rfl ⟨trivial, trivial⟩ ?_
  refine zl_br R hct rfl (fun _ => ?_) (fun cq => absurd hk cq)
  refine zl_st R hct 1 1397 [some (.inl (.ref b)), some (.inr (12, 0)), some (.inr (13, 0)), some (.inr (32, 0)), some (.inr (33, 0)), some (.inl (.int x5)), some (.inl (.int k0)), some (.inl (.int b0)), none] [.inl (.int k0)] m2 rfl ⟨trivial, trivial⟩ ?_
  refine zl_br R hct rfl (fun c0 => ?_) (fun _ => ?_)
  · refine zl_st R hct 6 1407 [some (.inl (.ref b)), some (.inr (12, 0)), some (.inr (13, 0)), some (.inr (32, 0)), some (.inr (33, 0)), some (.inl (.int x5)), some (.inl (.int k0)), some (.inl (.int b0)), none] [.inl (.int (lg_cmp (m2.2.1 32 0 0) (Int32.toInt64 b0)))] m2 rfl ⟨trivial, trivial, ⟨(Nat.le_of_ble_eq_true rfl), by unfold vp_in; decide⟩, trivial, trivial, trivial, trivial⟩ ?_
    refine zl_br R hct rfl (fun _ => ?_) (fun cq => absurd (by rw [hb c0]; exact z_cmp_self _) cq)
    refine zl_st R hct 1 3192 [some (.inl (.ref b)), some (.inr (12, 0)), some (.inr (13, 0)), some (.inr (32, 0)), some (.inr (33, 0)), some (.inl (.int x5)), some (.inl (.int k0)), some (.inl (.int b0)), none] [] m2 rfl ⟨trivial, trivial⟩ ?_
    exact zl_mask R [true, true, true, true, true, true, false, false, false] rfl (kk _ I2)
  · refine zl_st R hct 1 3192 [some (.inl (.ref b)), some (.inr (12, 0)), some (.inr (13, 0)), some (.inr (32, 0)), some (.inr (33, 0)), some (.inl (.int x5)), some (.inl (.int k0)), some (.inl (.int b0)), none] [] m2 rfl ⟨trivial, trivial⟩ ?_
    exact zl_mask R [true, true, true, true, true, true, false, false, false] rfl (kk _ I2)
theorem lw_c18 {xs : Nat → Int32} {L b : Nat} {G : Nat → Nat → zL → List zA → zM → Prop} (R : zLw xs L b G) {x5 : Int32} (hin : ∀ K : Int32, (K = 1 ∨ K = 2 ∨ K = 3) → vp_in (x5 + K) L) {k : Nat} {m : zM} (I : zInv m) (kk : ∀ m', zInv m' → G k 3192 (lwL b x5) [] m') : G (3 + k) 1415 (lwL b x5) [] m := by
  have hct : z_okT 0 code tW18 = true := oT18
  have hcc : z_okC 0 code z_MT tW18 = true := oC18
  obtain ⟨k0, m1, b0, m2, hX, hY, hk, hb, I2⟩ := t_meanDepth I 
  refine zl_st R hct 1 1416 [some (.inl (.ref b)), some (.inr (12, 0)), some (.inr (13, 0)), some (.inr (32, 0)), some (.inr (33, 0)), some (.inl (.int x5)), none, none, none] [.inr (12, 0)] m rfl ⟨trivial, trivial⟩ ?_
  refine zl_st R hct 1 1418 [some (.inl (.ref b)), some (.inr (12, 0)), some (.inr (13, 0)), some (.inr (32, 0)), some (.inr (33, 0)), some (.inl (.int x5)), none, none, none] [.inr (33, 0), .inr (12, 0)] m rfl ⟨trivial, trivial⟩ ?_
  refine zl_call R hcc (d := 6) (k1 := 3) (k2 := k) (by decide) rfl r_L_meanDepth (w_L_meanDepth 0 2 m (k0, m1) hX) ?_
  refine zl_st R hct 2 1424 [some (.inl (.ref b)), some (.inr (12, 0)), some (.inr (13, 0)), some (.inr (32, 0)), some (.inr (33, 0)), some (.inl (.int x5)), some (.inl (.int k0)), none, none] [.inr (13, 0)] m1 rfl ⟨trivial, trivial, trivial⟩ ?_
  refine zl_call0 R hcc (d := 3) (by decide) rfl (r_X12_meanDepth (Nat.le_of_ble_eq_true rfl)) (w_X12_meanDepth 0 0 m1 (b0, m2) hY) ?_
  refine zl_st R hct 2 1430 [some (.inl (.ref b)), some (.inr (12, 0)), some (.inr (13, 0)), some (.inr (32, 0)), some (.inr (33, 0)), some (.inl (.int x5)), some (.inl (.int k0)), some (.inl (.double b0)), none] [.inr (13, 0)] m2 rfl ⟨trivial, trivial, trivial⟩ ?_
  refine zl_call0 R hcc (d := 1) (by decide) rfl (r_X12_thrown (Nat.le_of_ble_eq_true rfl)) (w_X12_thrown 0 0 m2 (m2.1 13 0 0) rfl) ?_
  refine zl_st R hct 1 1435 [some (.inl (.ref b)), some (.inr (12, 0)), some (.inr (13, 0)), some (.inr (32, 0)), some (.inr (33, 0)), some (.inl (.int x5)), some (.inl (.int k0)), some (.inl (.double b0)), none] [.inl (.int k0), .inl (.int (m2.1 13 0 0))] m2 rfl ⟨trivial, trivial⟩ ?_
  refine zl_br R hct rfl (fun _ => ?_) (fun cq => absurd hk cq)
  refine zl_st R hct 1 1442 [some (.inl (.ref b)), some (.inr (12, 0)), some (.inr (13, 0)), some (.inr (32, 0)), some (.inr (33, 0)), some (.inl (.int x5)), some (.inl (.int k0)), some (.inl (.double b0)), none] [.inl (.int k0)] m2 rfl ⟨trivial, trivial⟩ ?_
  refine zl_br R hct rfl (fun c0 => ?_) (fun _ => ?_)
  · refine zl_st R hct 5 1452 [some (.inl (.ref b)), some (.inr (12, 0)), some (.inr (13, 0)), some (.inr (32, 0)), some (.inr (33, 0)), some (.inl (.int x5)), some (.inl (.int k0)), some (.inl (.double b0)), none] [.inl (.int (Op.cmpValue (FP.dcmp (m2.2.2 33 0 0) b0) .l))] m2 rfl ⟨trivial, trivial, ⟨(Nat.le_of_ble_eq_true rfl), by unfold vp_in; decide⟩, trivial, trivial, trivial⟩ ?_
    refine zl_br R hct rfl (fun _ => ?_) (fun cq => absurd (by obtain ⟨h1, h2⟩ := hb c0; rw [h1, z_dc h2]; rfl) cq)
    refine zl_st R hct 1 3192 [some (.inl (.ref b)), some (.inr (12, 0)), some (.inr (13, 0)), some (.inr (32, 0)), some (.inr (33, 0)), some (.inl (.int x5)), some (.inl (.int k0)), some (.inl (.double b0)), none] [] m2 rfl ⟨trivial, trivial⟩ ?_
    exact zl_mask R [true, true, true, true, true, true, false, false, false] rfl (kk _ I2)
  · refine zl_st R hct 1 3192 [some (.inl (.ref b)), some (.inr (12, 0)), some (.inr (13, 0)), some (.inr (32, 0)), some (.inr (33, 0)), some (.inl (.int x5)), some (.inl (.int k0)), some (.inl (.double b0)), none] [] m2 rfl ⟨trivial, trivial⟩ ?_
    exact zl_mask R [true, true, true, true, true, true, false, false, false] rfl (kk _ I2)
theorem lw_c19 {xs : Nat → Int32} {L b : Nat} {G : Nat → Nat → zL → List zA → zM → Prop} (R : zLw xs L b G) {x5 : Int32} (hin : ∀ K : Int32, (K = 1 ∨ K = 2 ∨ K = 3) → vp_in (x5 + K) L) {k : Nat} {m : zM} (I : zInv m) (kk : ∀ m', zInv m' → G k 3192 (lwL b x5) [] m') : G (3 + k) 1480 (lwL b x5) [] m := by
  have hct : z_okT 0 code tW19 = true := oT19
  have hcc : z_okC 0 code z_MT tW19 = true := oC19
  obtain ⟨k0, m1, b0, m2, hX, hY, hk, hb, I2⟩ := t_flow I (xs (x5 + 1).toNatClampNeg)
  refine zl_st R hct 1 1481 [some (.inl (.ref b)), some (.inr (12, 0)), some (.inr (13, 0)), some (.inr (32, 0)), some (.inr (33, 0)), some (.inl (.int x5)), none, none, none] [.inr (12, 0)] m rfl ⟨trivial, trivial⟩ ?_
  refine zl_arg R hct 1 rfl rfl rfl ⟨trivial, trivial, trivial, trivial⟩ rfl (hin 1 (by decide)) ?_
  refine zl_st R hct 1 1488 [some (.inl (.ref b)), some (.inr (12, 0)), some (.inr (13, 0)), some (.inr (32, 0)), some (.inr (33, 0)), some (.inl (.int x5)), none, none, none] [.inr (32, 0), .inl (.int (xs (x5 + 1).toNatClampNeg)), .inr (12, 0)] m rfl ⟨trivial, trivial⟩ ?_
  refine zl_call R hcc (d := 8) (k1 := 3) (k2 := k) (by decide) rfl r_L_flow (w_L_flow 0 1 (xs (x5 + 1).toNatClampNeg) m (k0, m1) hX) ?_
  refine zl_st R hct 2 1494 [some (.inl (.ref b)), some (.inr (12, 0)), some (.inr (13, 0)), some (.inr (32, 0)), some (.inr (33, 0)), some (.inl (.int x5)), some (.inl (.int k0)), none, none] [.inr (13, 0)] m1 rfl ⟨trivial, trivial, trivial⟩ ?_
  refine zl_arg R hct 1 rfl rfl rfl ⟨trivial, trivial, trivial, trivial⟩ rfl (hin 1 (by decide)) ?_
  refine zl_call0 R hcc (d := 4) (by decide) rfl (r_X12_flow (Nat.le_of_ble_eq_true rfl)) (w_X12_flow 0 0 (xs (x5 + 1).toNatClampNeg) m1 (b0, m2) hY) ?_
  refine zl_st R hct 2 1506 [some (.inl (.ref b)), some (.inr (12, 0)), some (.inr (13, 0)), some (.inr (32, 0)), some (.inr (33, 0)), some (.inl (.int x5)), some (.inl (.int k0)), some (.inl (.int b0)), none] [.inr (13, 0)] m2 rfl ⟨trivial, trivial, trivial⟩ ?_
  refine zl_call0 R hcc (d := 1) (by decide) rfl (r_X12_thrown (Nat.le_of_ble_eq_true rfl)) (w_X12_thrown 0 0 m2 (m2.1 13 0 0) rfl) ?_
  refine zl_st R hct 1 1511 [some (.inl (.ref b)), some (.inr (12, 0)), some (.inr (13, 0)), some (.inr (32, 0)), some (.inr (33, 0)), some (.inl (.int x5)), some (.inl (.int k0)), some (.inl (.int b0)), none] [.inl (.int k0), .inl (.int (m2.1 13 0 0))] m2 rfl ⟨trivial, trivial⟩ ?_
  refine zl_br R hct rfl (fun _ => ?_) (fun cq => absurd hk cq)
  refine zl_st R hct 1 1518 [some (.inl (.ref b)), some (.inr (12, 0)), some (.inr (13, 0)), some (.inr (32, 0)), some (.inr (33, 0)), some (.inl (.int x5)), some (.inl (.int k0)), some (.inl (.int b0)), none] [.inl (.int k0)] m2 rfl ⟨trivial, trivial⟩ ?_
  refine zl_br R hct rfl (fun c0 => ?_) (fun _ => ?_)
  · refine zl_st R hct 6 1528 [some (.inl (.ref b)), some (.inr (12, 0)), some (.inr (13, 0)), some (.inr (32, 0)), some (.inr (33, 0)), some (.inl (.int x5)), some (.inl (.int k0)), some (.inl (.int b0)), none] [.inl (.int (lg_cmp (m2.2.1 32 0 0) (Int32.toInt64 b0)))] m2 rfl ⟨trivial, trivial, ⟨(Nat.le_of_ble_eq_true rfl), by unfold vp_in; decide⟩, trivial, trivial, trivial, trivial⟩ ?_
    refine zl_br R hct rfl (fun _ => ?_) (fun cq => absurd (by rw [hb c0]; exact z_cmp_self _) cq)
    refine zl_st R hct 1 3192 [some (.inl (.ref b)), some (.inr (12, 0)), some (.inr (13, 0)), some (.inr (32, 0)), some (.inr (33, 0)), some (.inl (.int x5)), some (.inl (.int k0)), some (.inl (.int b0)), none] [] m2 rfl ⟨trivial, trivial⟩ ?_
    exact zl_mask R [true, true, true, true, true, true, false, false, false] rfl (kk _ I2)
  · refine zl_st R hct 1 3192 [some (.inl (.ref b)), some (.inr (12, 0)), some (.inr (13, 0)), some (.inr (32, 0)), some (.inr (33, 0)), some (.inl (.int x5)), some (.inl (.int k0)), some (.inl (.int b0)), none] [] m2 rfl ⟨trivial, trivial⟩ ?_
    exact zl_mask R [true, true, true, true, true, true, false, false, false] rfl (kk _ I2)
theorem lw_c20 {xs : Nat → Int32} {L b : Nat} {G : Nat → Nat → zL → List zA → zM → Prop} (R : zLw xs L b G) {x5 : Int32} (hin : ∀ K : Int32, (K = 1 ∨ K = 2 ∨ K = 3) → vp_in (x5 + K) L) {k : Nat} {m : zM} (I : zInv m) (kk : ∀ m', zInv m' → G k 3192 (lwL b x5) [] m') : G (3 + k) 1536 (lwL b x5) [] m := by
  have hct : z_okT 0 code tW20 = true := oT20
  have hcc : z_okC 0 code z_MT tW20 = true := oC20
  obtain ⟨k0, m1, b0, m2, hX, hY, hk, hb, I2⟩ := t_why I (xs (x5 + 1).toNatClampNeg) (xs (x5 + 2).toNatClampNeg)
  refine zl_st R hct 1 1537 [some (.inl (.ref b)), some (.inr (12, 0)), some (.inr (13, 0)), some (.inr (32, 0)), some (.inr (33, 0)), some (.inl (.int x5)), none, none, none] [.inr (12, 0)] m rfl ⟨trivial, trivial⟩ ?_
  refine zl_arg R hct 1 rfl rfl rfl ⟨trivial, trivial, trivial, trivial⟩ rfl (hin 1 (by decide)) ?_
  refine zl_arg R hct 2 rfl rfl rfl ⟨trivial, trivial, trivial, trivial⟩ rfl (hin 2 (by decide)) ?_
  refine zl_st R hct 1 1550 [some (.inl (.ref b)), some (.inr (12, 0)), some (.inr (13, 0)), some (.inr (32, 0)), some (.inr (33, 0)), some (.inl (.int x5)), none, none, none] [.inr (32, 0), .inl (.int (xs (x5 + 2).toNatClampNeg)), .inl (.int (xs (x5 + 1).toNatClampNeg)), .inr (12, 0)] m rfl ⟨trivial, trivial⟩ ?_
  refine zl_call R hcc (d := 8) (k1 := 3) (k2 := k) (by decide) rfl r_L_why (w_L_why 0 1 (xs (x5 + 1).toNatClampNeg) (xs (x5 + 2).toNatClampNeg) m (k0, m1) hX) ?_
  refine zl_st R hct 2 1556 [some (.inl (.ref b)), some (.inr (12, 0)), some (.inr (13, 0)), some (.inr (32, 0)), some (.inr (33, 0)), some (.inl (.int x5)), some (.inl (.int k0)), none, none] [.inr (13, 0)] m1 rfl ⟨trivial, trivial, trivial⟩ ?_
  refine zl_arg R hct 1 rfl rfl rfl ⟨trivial, trivial, trivial, trivial⟩ rfl (hin 1 (by decide)) ?_
  refine zl_arg R hct 2 rfl rfl rfl ⟨trivial, trivial, trivial, trivial⟩ rfl (hin 2 (by decide)) ?_
  refine zl_call0 R hcc (d := 4) (by decide) rfl (r_X12_why (Nat.le_of_ble_eq_true rfl)) (w_X12_why 0 0 (xs (x5 + 1).toNatClampNeg) (xs (x5 + 2).toNatClampNeg) m1 (b0, m2) hY) ?_
  refine zl_st R hct 2 1574 [some (.inl (.ref b)), some (.inr (12, 0)), some (.inr (13, 0)), some (.inr (32, 0)), some (.inr (33, 0)), some (.inl (.int x5)), some (.inl (.int k0)), some (.inl (.int b0)), none] [.inr (13, 0)] m2 rfl ⟨trivial, trivial, trivial⟩ ?_
  refine zl_call0 R hcc (d := 1) (by decide) rfl (r_X12_thrown (Nat.le_of_ble_eq_true rfl)) (w_X12_thrown 0 0 m2 (m2.1 13 0 0) rfl) ?_
  refine zl_st R hct 1 1579 [some (.inl (.ref b)), some (.inr (12, 0)), some (.inr (13, 0)), some (.inr (32, 0)), some (.inr (33, 0)), some (.inl (.int x5)), some (.inl (.int k0)), some (.inl (.int b0)), none] [.inl (.int k0), .inl (.int (m2.1 13 0 0))] m2 rfl ⟨trivial, trivial⟩ ?_
  refine zl_br R hct rfl (fun _ => ?_) (fun cq => absurd hk cq)
  refine zl_st R hct 1 1586 [some (.inl (.ref b)), some (.inr (12, 0)), some (.inr (13, 0)), some (.inr (32, 0)), some (.inr (33, 0)), some (.inl (.int x5)), some (.inl (.int k0)), some (.inl (.int b0)), none] [.inl (.int k0)] m2 rfl ⟨trivial, trivial⟩ ?_
  refine zl_br R hct rfl (fun c0 => ?_) (fun _ => ?_)
  · refine zl_st R hct 6 1596 [some (.inl (.ref b)), some (.inr (12, 0)), some (.inr (13, 0)), some (.inr (32, 0)), some (.inr (33, 0)), some (.inl (.int x5)), some (.inl (.int k0)), some (.inl (.int b0)), none] [.inl (.int (lg_cmp (m2.2.1 32 0 0) (Int32.toInt64 b0)))] m2 rfl ⟨trivial, trivial, ⟨(Nat.le_of_ble_eq_true rfl), by unfold vp_in; decide⟩, trivial, trivial, trivial, trivial⟩ ?_
    refine zl_br R hct rfl (fun _ => ?_) (fun cq => absurd (by rw [hb c0]; exact z_cmp_self _) cq)
    refine zl_st R hct 1 3192 [some (.inl (.ref b)), some (.inr (12, 0)), some (.inr (13, 0)), some (.inr (32, 0)), some (.inr (33, 0)), some (.inl (.int x5)), some (.inl (.int k0)), some (.inl (.int b0)), none] [] m2 rfl ⟨trivial, trivial⟩ ?_
    exact zl_mask R [true, true, true, true, true, true, false, false, false] rfl (kk _ I2)
  · refine zl_st R hct 1 3192 [some (.inl (.ref b)), some (.inr (12, 0)), some (.inr (13, 0)), some (.inr (32, 0)), some (.inr (33, 0)), some (.inl (.int x5)), some (.inl (.int k0)), some (.inl (.int b0)), none] [] m2 rfl ⟨trivial, trivial⟩ ?_
    exact zl_mask R [true, true, true, true, true, true, false, false, false] rfl (kk _ I2)
theorem lw_c21 {xs : Nat → Int32} {L b : Nat} {G : Nat → Nat → zL → List zA → zM → Prop} (R : zLw xs L b G) {x5 : Int32} (hin : ∀ K : Int32, (K = 1 ∨ K = 2 ∨ K = 3) → vp_in (x5 + K) L) {k : Nat} {m : zM} (I : zInv m) (kk : ∀ m', zInv m' → G k 3192 (lwL b x5) [] m') : G (3 + k) 1604 (lwL b x5) [] m := by
  have hct : z_okT 0 code tW21 = true := oT21
  have hcc : z_okC 0 code z_MT tW21 = true := oC21
  obtain ⟨k0, m1, b0, m2, hX, hY, hk, hb, I2⟩ := t_route I (xs (x5 + 1).toNatClampNeg) (xs (x5 + 2).toNatClampNeg)
  refine zl_st R hct 1 1605 [some (.inl (.ref b)), some (.inr (12, 0)), some (.inr (13, 0)), some (.inr (32, 0)), some (.inr (33, 0)), some (.inl (.int x5)), none, none, none] [.inr (12, 0)] m rfl ⟨trivial, trivial⟩ ?_
  refine zl_arg R hct 1 rfl rfl rfl ⟨trivial, trivial, trivial, trivial⟩ rfl (hin 1 (by decide)) ?_
  refine zl_arg R hct 2 rfl rfl rfl ⟨trivial, trivial, trivial, trivial⟩ rfl (hin 2 (by decide)) ?_
  refine zl_st R hct 1 1618 [some (.inl (.ref b)), some (.inr (12, 0)), some (.inr (13, 0)), some (.inr (32, 0)), some (.inr (33, 0)), some (.inl (.int x5)), none, none, none] [.inr (32, 0), .inl (.int (xs (x5 + 2).toNatClampNeg)), .inl (.int (xs (x5 + 1).toNatClampNeg)), .inr (12, 0)] m rfl ⟨trivial, trivial⟩ ?_
  refine zl_call R hcc (d := 8) (k1 := 3) (k2 := k) (by decide) rfl r_L_route (w_L_route 0 1 (xs (x5 + 1).toNatClampNeg) (xs (x5 + 2).toNatClampNeg) m (k0, m1) hX) ?_
  refine zl_st R hct 2 1624 [some (.inl (.ref b)), some (.inr (12, 0)), some (.inr (13, 0)), some (.inr (32, 0)), some (.inr (33, 0)), some (.inl (.int x5)), some (.inl (.int k0)), none, none] [.inr (13, 0)] m1 rfl ⟨trivial, trivial, trivial⟩ ?_
  refine zl_arg R hct 1 rfl rfl rfl ⟨trivial, trivial, trivial, trivial⟩ rfl (hin 1 (by decide)) ?_
  refine zl_arg R hct 2 rfl rfl rfl ⟨trivial, trivial, trivial, trivial⟩ rfl (hin 2 (by decide)) ?_
  refine zl_call0 R hcc (d := 4) (by decide) rfl (r_X12_route (Nat.le_of_ble_eq_true rfl)) (w_X12_route 0 0 (xs (x5 + 1).toNatClampNeg) (xs (x5 + 2).toNatClampNeg) m1 (b0, m2) hY) ?_
  refine zl_st R hct 2 1642 [some (.inl (.ref b)), some (.inr (12, 0)), some (.inr (13, 0)), some (.inr (32, 0)), some (.inr (33, 0)), some (.inl (.int x5)), some (.inl (.int k0)), some (.inl (.int b0)), none] [.inr (13, 0)] m2 rfl ⟨trivial, trivial, trivial⟩ ?_
  refine zl_call0 R hcc (d := 1) (by decide) rfl (r_X12_thrown (Nat.le_of_ble_eq_true rfl)) (w_X12_thrown 0 0 m2 (m2.1 13 0 0) rfl) ?_
  refine zl_st R hct 1 1647 [some (.inl (.ref b)), some (.inr (12, 0)), some (.inr (13, 0)), some (.inr (32, 0)), some (.inr (33, 0)), some (.inl (.int x5)), some (.inl (.int k0)), some (.inl (.int b0)), none] [.inl (.int k0), .inl (.int (m2.1 13 0 0))] m2 rfl ⟨trivial, trivial⟩ ?_
  refine zl_br R hct rfl (fun _ => ?_) (fun cq => absurd hk cq)
  refine zl_st R hct 1 1654 [some (.inl (.ref b)), some (.inr (12, 0)), some (.inr (13, 0)), some (.inr (32, 0)), some (.inr (33, 0)), some (.inl (.int x5)), some (.inl (.int k0)), some (.inl (.int b0)), none] [.inl (.int k0)] m2 rfl ⟨trivial, trivial⟩ ?_
  refine zl_br R hct rfl (fun c0 => ?_) (fun _ => ?_)
  · refine zl_st R hct 6 1664 [some (.inl (.ref b)), some (.inr (12, 0)), some (.inr (13, 0)), some (.inr (32, 0)), some (.inr (33, 0)), some (.inl (.int x5)), some (.inl (.int k0)), some (.inl (.int b0)), none] [.inl (.int (lg_cmp (m2.2.1 32 0 0) (Int32.toInt64 b0)))] m2 rfl ⟨trivial, trivial, ⟨(Nat.le_of_ble_eq_true rfl), by unfold vp_in; decide⟩, trivial, trivial, trivial, trivial⟩ ?_
    refine zl_br R hct rfl (fun _ => ?_) (fun cq => absurd (by rw [hb c0]; exact z_cmp_self _) cq)
    refine zl_st R hct 1 3192 [some (.inl (.ref b)), some (.inr (12, 0)), some (.inr (13, 0)), some (.inr (32, 0)), some (.inr (33, 0)), some (.inl (.int x5)), some (.inl (.int k0)), some (.inl (.int b0)), none] [] m2 rfl ⟨trivial, trivial⟩ ?_
    exact zl_mask R [true, true, true, true, true, true, false, false, false] rfl (kk _ I2)
  · refine zl_st R hct 1 3192 [some (.inl (.ref b)), some (.inr (12, 0)), some (.inr (13, 0)), some (.inr (32, 0)), some (.inr (33, 0)), some (.inl (.int x5)), some (.inl (.int k0)), some (.inl (.int b0)), none] [] m2 rfl ⟨trivial, trivial⟩ ?_
    exact zl_mask R [true, true, true, true, true, true, false, false, false] rfl (kk _ I2)
theorem lw_c22 {xs : Nat → Int32} {L b : Nat} {G : Nat → Nat → zL → List zA → zM → Prop} (R : zLw xs L b G) {x5 : Int32} (hin : ∀ K : Int32, (K = 1 ∨ K = 2 ∨ K = 3) → vp_in (x5 + K) L) {k : Nat} {m : zM} (I : zInv m) (kk : ∀ m', zInv m' → G k 3192 (lwL b x5) [] m') : G (3 + k) 1672 (lwL b x5) [] m := by
  have hct : z_okT 0 code tW22 = true := oT22
  have hcc : z_okC 0 code z_MT tW22 = true := oC22
  obtain ⟨k0, m1, b0, m2, hX, hY, hk, hb, I2⟩ := t_upstream I (xs (x5 + 1).toNatClampNeg)
  refine zl_st R hct 1 1673 [some (.inl (.ref b)), some (.inr (12, 0)), some (.inr (13, 0)), some (.inr (32, 0)), some (.inr (33, 0)), some (.inl (.int x5)), none, none, none] [.inr (12, 0)] m rfl ⟨trivial, trivial⟩ ?_
  refine zl_arg R hct 1 rfl rfl rfl ⟨trivial, trivial, trivial, trivial⟩ rfl (hin 1 (by decide)) ?_
  refine zl_st R hct 1 1680 [some (.inl (.ref b)), some (.inr (12, 0)), some (.inr (13, 0)), some (.inr (32, 0)), some (.inr (33, 0)), some (.inl (.int x5)), none, none, none] [.inr (32, 0), .inl (.int (xs (x5 + 1).toNatClampNeg)), .inr (12, 0)] m rfl ⟨trivial, trivial⟩ ?_
  refine zl_call R hcc (d := 8) (k1 := 3) (k2 := k) (by decide) rfl r_L_upstream (w_L_upstream 0 2 (xs (x5 + 1).toNatClampNeg) m (k0, m1) hX) ?_
  refine zl_st R hct 2 1686 [some (.inl (.ref b)), some (.inr (12, 0)), some (.inr (13, 0)), some (.inr (32, 0)), some (.inr (33, 0)), some (.inl (.int x5)), some (.inl (.int k0)), none, none] [.inr (13, 0)] m1 rfl ⟨trivial, trivial, trivial⟩ ?_
  refine zl_arg R hct 1 rfl rfl rfl ⟨trivial, trivial, trivial, trivial⟩ rfl (hin 1 (by decide)) ?_
  refine zl_call0 R hcc (d := 4) (by decide) rfl (r_X12_upstream (Nat.le_of_ble_eq_true rfl)) (w_X12_upstream 0 0 (xs (x5 + 1).toNatClampNeg) m1 (b0, m2) hY) ?_
  refine zl_st R hct 2 1698 [some (.inl (.ref b)), some (.inr (12, 0)), some (.inr (13, 0)), some (.inr (32, 0)), some (.inr (33, 0)), some (.inl (.int x5)), some (.inl (.int k0)), some (.inl (.long b0)), none] [.inr (13, 0)] m2 rfl ⟨trivial, trivial, trivial⟩ ?_
  refine zl_call0 R hcc (d := 1) (by decide) rfl (r_X12_thrown (Nat.le_of_ble_eq_true rfl)) (w_X12_thrown 0 0 m2 (m2.1 13 0 0) rfl) ?_
  refine zl_st R hct 1 1703 [some (.inl (.ref b)), some (.inr (12, 0)), some (.inr (13, 0)), some (.inr (32, 0)), some (.inr (33, 0)), some (.inl (.int x5)), some (.inl (.int k0)), some (.inl (.long b0)), none] [.inl (.int k0), .inl (.int (m2.1 13 0 0))] m2 rfl ⟨trivial, trivial⟩ ?_
  refine zl_br R hct rfl (fun _ => ?_) (fun cq => absurd hk cq)
  refine zl_st R hct 1 1710 [some (.inl (.ref b)), some (.inr (12, 0)), some (.inr (13, 0)), some (.inr (32, 0)), some (.inr (33, 0)), some (.inl (.int x5)), some (.inl (.int k0)), some (.inl (.long b0)), none] [.inl (.int k0)] m2 rfl ⟨trivial, trivial⟩ ?_
  refine zl_br R hct rfl (fun c0 => ?_) (fun _ => ?_)
  · refine zl_st R hct 5 1719 [some (.inl (.ref b)), some (.inr (12, 0)), some (.inr (13, 0)), some (.inr (32, 0)), some (.inr (33, 0)), some (.inl (.int x5)), some (.inl (.int k0)), some (.inl (.long b0)), none] [.inl (.int (lg_cmp (m2.2.1 32 0 0) b0))] m2 rfl ⟨trivial, trivial, ⟨(Nat.le_of_ble_eq_true rfl), by unfold vp_in; decide⟩, trivial, trivial, trivial⟩ ?_
    refine zl_br R hct rfl (fun _ => ?_) (fun cq => absurd (by rw [hb c0]; exact z_cmp_self _) cq)
    refine zl_st R hct 1 3192 [some (.inl (.ref b)), some (.inr (12, 0)), some (.inr (13, 0)), some (.inr (32, 0)), some (.inr (33, 0)), some (.inl (.int x5)), some (.inl (.int k0)), some (.inl (.long b0)), none] [] m2 rfl ⟨trivial, trivial⟩ ?_
    exact zl_mask R [true, true, true, true, true, true, false, false, false] rfl (kk _ I2)
  · refine zl_st R hct 1 3192 [some (.inl (.ref b)), some (.inr (12, 0)), some (.inr (13, 0)), some (.inr (32, 0)), some (.inr (33, 0)), some (.inl (.int x5)), some (.inl (.int k0)), some (.inl (.long b0)), none] [] m2 rfl ⟨trivial, trivial⟩ ?_
    exact zl_mask R [true, true, true, true, true, true, false, false, false] rfl (kk _ I2)
theorem lw_c23 {xs : Nat → Int32} {L b : Nat} {G : Nat → Nat → zL → List zA → zM → Prop} (R : zLw xs L b G) {x5 : Int32} (hin : ∀ K : Int32, (K = 1 ∨ K = 2 ∨ K = 3) → vp_in (x5 + K) L) {k : Nat} {m : zM} (I : zInv m) (kk : ∀ m', zInv m' → G k 3192 (lwL b x5) [] m') : G (3 + k) 1727 (lwL b x5) [] m := by
  have hct : z_okT 0 code tW23 = true := oT23
  have hcc : z_okC 0 code z_MT tW23 = true := oC23
  obtain ⟨k0, m1, b0, m2, hX, hY, hk, hb, I2⟩ := t_water I (xs (x5 + 1).toNatClampNeg) (xs (x5 + 2).toNatClampNeg)
  refine zl_st R hct 1 1728 [some (.inl (.ref b)), some (.inr (12, 0)), some (.inr (13, 0)), some (.inr (32, 0)), some (.inr (33, 0)), some (.inl (.int x5)), none, none, none] [.inr (12, 0)] m rfl ⟨trivial, trivial⟩ ?_
  refine zl_arg R hct 1 rfl rfl rfl ⟨trivial, trivial, trivial, trivial⟩ rfl (hin 1 (by decide)) ?_
  refine zl_arg R hct 2 rfl rfl rfl ⟨trivial, trivial, trivial, trivial⟩ rfl (hin 2 (by decide)) ?_
  refine zl_st R hct 1 1741 [some (.inl (.ref b)), some (.inr (12, 0)), some (.inr (13, 0)), some (.inr (32, 0)), some (.inr (33, 0)), some (.inl (.int x5)), none, none, none] [.inr (32, 0), .inl (.int (xs (x5 + 2).toNatClampNeg)), .inl (.int (xs (x5 + 1).toNatClampNeg)), .inr (12, 0)] m rfl ⟨trivial, trivial⟩ ?_
  refine zl_call R hcc (d := 8) (k1 := 3) (k2 := k) (by decide) rfl r_L_water (w_L_water 0 1 (xs (x5 + 1).toNatClampNeg) (xs (x5 + 2).toNatClampNeg) m (k0, m1) hX) ?_
  refine zl_st R hct 2 1747 [some (.inl (.ref b)), some (.inr (12, 0)), some (.inr (13, 0)), some (.inr (32, 0)), some (.inr (33, 0)), some (.inl (.int x5)), some (.inl (.int k0)), none, none] [.inr (13, 0)] m1 rfl ⟨trivial, trivial, trivial⟩ ?_
  refine zl_arg R hct 1 rfl rfl rfl ⟨trivial, trivial, trivial, trivial⟩ rfl (hin 1 (by decide)) ?_
  refine zl_arg R hct 2 rfl rfl rfl ⟨trivial, trivial, trivial, trivial⟩ rfl (hin 2 (by decide)) ?_
  refine zl_call0 R hcc (d := 5) (by decide) rfl (r_X12_water (Nat.le_of_ble_eq_true rfl)) (w_X12_water 0 0 (xs (x5 + 1).toNatClampNeg) (xs (x5 + 2).toNatClampNeg) m1 (b0, m2) hY) ?_
  refine zl_st R hct 2 1765 [some (.inl (.ref b)), some (.inr (12, 0)), some (.inr (13, 0)), some (.inr (32, 0)), some (.inr (33, 0)), some (.inl (.int x5)), some (.inl (.int k0)), some (.inl (.int b0)), none] [.inr (13, 0)] m2 rfl ⟨trivial, trivial, trivial⟩ ?_
  refine zl_call0 R hcc (d := 1) (by decide) rfl (r_X12_thrown (Nat.le_of_ble_eq_true rfl)) (w_X12_thrown 0 0 m2 (m2.1 13 0 0) rfl) ?_
  refine zl_st R hct 1 1770 [some (.inl (.ref b)), some (.inr (12, 0)), some (.inr (13, 0)), some (.inr (32, 0)), some (.inr (33, 0)), some (.inl (.int x5)), some (.inl (.int k0)), some (.inl (.int b0)), none] [.inl (.int k0), .inl (.int (m2.1 13 0 0))] m2 rfl ⟨trivial, trivial⟩ ?_
  refine zl_br R hct rfl (fun _ => ?_) (fun cq => absurd hk cq)
  refine zl_st R hct 1 1777 [some (.inl (.ref b)), some (.inr (12, 0)), some (.inr (13, 0)), some (.inr (32, 0)), some (.inr (33, 0)), some (.inl (.int x5)), some (.inl (.int k0)), some (.inl (.int b0)), none] [.inl (.int k0)] m2 rfl ⟨trivial, trivial⟩ ?_
  refine zl_br R hct rfl (fun c0 => ?_) (fun _ => ?_)
  · refine zl_st R hct 6 1787 [some (.inl (.ref b)), some (.inr (12, 0)), some (.inr (13, 0)), some (.inr (32, 0)), some (.inr (33, 0)), some (.inl (.int x5)), some (.inl (.int k0)), some (.inl (.int b0)), none] [.inl (.int (lg_cmp (m2.2.1 32 0 0) (Int32.toInt64 b0)))] m2 rfl ⟨trivial, trivial, ⟨(Nat.le_of_ble_eq_true rfl), by unfold vp_in; decide⟩, trivial, trivial, trivial, trivial⟩ ?_
    refine zl_br R hct rfl (fun _ => ?_) (fun cq => absurd (by rw [hb c0]; exact z_cmp_self _) cq)
    refine zl_st R hct 1 3192 [some (.inl (.ref b)), some (.inr (12, 0)), some (.inr (13, 0)), some (.inr (32, 0)), some (.inr (33, 0)), some (.inl (.int x5)), some (.inl (.int k0)), some (.inl (.int b0)), none] [] m2 rfl ⟨trivial, trivial⟩ ?_
    exact zl_mask R [true, true, true, true, true, true, false, false, false] rfl (kk _ I2)
  · refine zl_st R hct 1 3192 [some (.inl (.ref b)), some (.inr (12, 0)), some (.inr (13, 0)), some (.inr (32, 0)), some (.inr (33, 0)), some (.inl (.int x5)), some (.inl (.int k0)), some (.inl (.int b0)), none] [] m2 rfl ⟨trivial, trivial⟩ ?_
    exact zl_mask R [true, true, true, true, true, true, false, false, false] rfl (kk _ I2)
theorem lw_c24 {xs : Nat → Int32} {L b : Nat} {G : Nat → Nat → zL → List zA → zM → Prop} (R : zLw xs L b G) {x5 : Int32} (hin : ∀ K : Int32, (K = 1 ∨ K = 2 ∨ K = 3) → vp_in (x5 + K) L) {k : Nat} {m : zM} (I : zInv m) (kk : ∀ m', zInv m' → G k 3192 (lwL b x5) [] m') : G (3 + k) 1795 (lwL b x5) [] m := by
  have hct : z_okT 0 code tW24 = true := oT24
  have hcc : z_okC 0 code z_MT tW24 = true := oC24
  obtain ⟨k0, m1, b0, m2, hX, hY, hk, hb, I2⟩ := t_account I (xs (x5 + 1).toNatClampNeg)
  refine zl_st R hct 1 1796 [some (.inl (.ref b)), some (.inr (12, 0)), some (.inr (13, 0)), some (.inr (32, 0)), some (.inr (33, 0)), some (.inl (.int x5)), none, none, none] [.inr (12, 0)] m rfl ⟨trivial, trivial⟩ ?_
  refine zl_arg R hct 1 rfl rfl rfl ⟨trivial, trivial, trivial, trivial⟩ rfl (hin 1 (by decide)) ?_
  refine zl_st R hct 1 1803 [some (.inl (.ref b)), some (.inr (12, 0)), some (.inr (13, 0)), some (.inr (32, 0)), some (.inr (33, 0)), some (.inl (.int x5)), none, none, none] [.inr (32, 0), .inl (.int (xs (x5 + 1).toNatClampNeg)), .inr (12, 0)] m rfl ⟨trivial, trivial⟩ ?_
  refine zl_call R hcc (d := 8) (k1 := 3) (k2 := k) (by decide) rfl r_L_account (w_L_account 0 2 (xs (x5 + 1).toNatClampNeg) m (k0, m1) hX) ?_
  refine zl_st R hct 2 1809 [some (.inl (.ref b)), some (.inr (12, 0)), some (.inr (13, 0)), some (.inr (32, 0)), some (.inr (33, 0)), some (.inl (.int x5)), some (.inl (.int k0)), none, none] [.inr (13, 0)] m1 rfl ⟨trivial, trivial, trivial⟩ ?_
  refine zl_arg R hct 1 rfl rfl rfl ⟨trivial, trivial, trivial, trivial⟩ rfl (hin 1 (by decide)) ?_
  refine zl_call0 R hcc (d := 6) (by decide) rfl (r_X12_account (Nat.le_of_ble_eq_true rfl)) (w_X12_account 0 0 (xs (x5 + 1).toNatClampNeg) m1 (b0, m2) hY) ?_
  refine zl_st R hct 2 1821 [some (.inl (.ref b)), some (.inr (12, 0)), some (.inr (13, 0)), some (.inr (32, 0)), some (.inr (33, 0)), some (.inl (.int x5)), some (.inl (.int k0)), some (.inl (.int b0)), none] [.inr (13, 0)] m2 rfl ⟨trivial, trivial, trivial⟩ ?_
  refine zl_call0 R hcc (d := 1) (by decide) rfl (r_X12_thrown (Nat.le_of_ble_eq_true rfl)) (w_X12_thrown 0 0 m2 (m2.1 13 0 0) rfl) ?_
  refine zl_st R hct 1 1826 [some (.inl (.ref b)), some (.inr (12, 0)), some (.inr (13, 0)), some (.inr (32, 0)), some (.inr (33, 0)), some (.inl (.int x5)), some (.inl (.int k0)), some (.inl (.int b0)), none] [.inl (.int k0), .inl (.int (m2.1 13 0 0))] m2 rfl ⟨trivial, trivial⟩ ?_
  refine zl_br R hct rfl (fun _ => ?_) (fun cq => absurd hk cq)
  refine zl_st R hct 1 1833 [some (.inl (.ref b)), some (.inr (12, 0)), some (.inr (13, 0)), some (.inr (32, 0)), some (.inr (33, 0)), some (.inl (.int x5)), some (.inl (.int k0)), some (.inl (.int b0)), none] [.inl (.int k0)] m2 rfl ⟨trivial, trivial⟩ ?_
  refine zl_br R hct rfl (fun c0 => ?_) (fun _ => ?_)
  · refine zl_st R hct 6 1843 [some (.inl (.ref b)), some (.inr (12, 0)), some (.inr (13, 0)), some (.inr (32, 0)), some (.inr (33, 0)), some (.inl (.int x5)), some (.inl (.int k0)), some (.inl (.int b0)), none] [.inl (.int (lg_cmp (m2.2.1 32 0 0) (Int32.toInt64 b0)))] m2 rfl ⟨trivial, trivial, ⟨(Nat.le_of_ble_eq_true rfl), by unfold vp_in; decide⟩, trivial, trivial, trivial, trivial⟩ ?_
    refine zl_br R hct rfl (fun _ => ?_) (fun cq => absurd (by rw [hb c0]; exact z_cmp_self _) cq)
    refine zl_st R hct 1 3192 [some (.inl (.ref b)), some (.inr (12, 0)), some (.inr (13, 0)), some (.inr (32, 0)), some (.inr (33, 0)), some (.inl (.int x5)), some (.inl (.int k0)), some (.inl (.int b0)), none] [] m2 rfl ⟨trivial, trivial⟩ ?_
    exact zl_mask R [true, true, true, true, true, true, false, false, false] rfl (kk _ I2)
  · refine zl_st R hct 1 3192 [some (.inl (.ref b)), some (.inr (12, 0)), some (.inr (13, 0)), some (.inr (32, 0)), some (.inr (33, 0)), some (.inl (.int x5)), some (.inl (.int k0)), some (.inl (.int b0)), none] [] m2 rfl ⟨trivial, trivial⟩ ?_
    exact zl_mask R [true, true, true, true, true, true, false, false, false] rfl (kk _ I2)
theorem lw_c25 {xs : Nat → Int32} {L b : Nat} {G : Nat → Nat → zL → List zA → zM → Prop} (R : zLw xs L b G) {x5 : Int32} (hin : ∀ K : Int32, (K = 1 ∨ K = 2 ∨ K = 3) → vp_in (x5 + K) L) {k : Nat} {m : zM} (I : zInv m) (kk : ∀ m', zInv m' → G k 3192 (lwL b x5) [] m') : G (3 + k) 1851 (lwL b x5) [] m := by
  have hct : z_okT 0 code tW25 = true := oT25
  have hcc : z_okC 0 code z_MT tW25 = true := oC25
  obtain ⟨k0, m1, b0, m2, hX, hY, hk, hb, I2⟩ := t_order I (xs (x5 + 1).toNatClampNeg)
  refine zl_st R hct 1 1852 [some (.inl (.ref b)), some (.inr (12, 0)), some (.inr (13, 0)), some (.inr (32, 0)), some (.inr (33, 0)), some (.inl (.int x5)), none, none, none] [.inr (12, 0)] m rfl ⟨trivial, trivial⟩ ?_
  refine zl_arg R hct 1 rfl rfl rfl ⟨trivial, trivial, trivial, trivial⟩ rfl (hin 1 (by decide)) ?_
  refine zl_st R hct 1 1859 [some (.inl (.ref b)), some (.inr (12, 0)), some (.inr (13, 0)), some (.inr (32, 0)), some (.inr (33, 0)), some (.inl (.int x5)), none, none, none] [.inr (32, 0), .inl (.int (xs (x5 + 1).toNatClampNeg)), .inr (12, 0)] m rfl ⟨trivial, trivial⟩ ?_
  refine zl_call R hcc (d := 8) (k1 := 3) (k2 := k) (by decide) rfl r_L_order (w_L_order 0 2 (xs (x5 + 1).toNatClampNeg) m (k0, m1) hX) ?_
  refine zl_st R hct 2 1865 [some (.inl (.ref b)), some (.inr (12, 0)), some (.inr (13, 0)), some (.inr (32, 0)), some (.inr (33, 0)), some (.inl (.int x5)), some (.inl (.int k0)), none, none] [.inr (13, 0)] m1 rfl ⟨trivial, trivial, trivial⟩ ?_
  refine zl_arg R hct 1 rfl rfl rfl ⟨trivial, trivial, trivial, trivial⟩ rfl (hin 1 (by decide)) ?_
  refine zl_call0 R hcc (d := 6) (by decide) rfl (r_X12_order (Nat.le_of_ble_eq_true rfl)) (w_X12_order 0 0 (xs (x5 + 1).toNatClampNeg) m1 (b0, m2) hY) ?_
  refine zl_st R hct 2 1877 [some (.inl (.ref b)), some (.inr (12, 0)), some (.inr (13, 0)), some (.inr (32, 0)), some (.inr (33, 0)), some (.inl (.int x5)), some (.inl (.int k0)), some (.inl (.int b0)), none] [.inr (13, 0)] m2 rfl ⟨trivial, trivial, trivial⟩ ?_
  refine zl_call0 R hcc (d := 1) (by decide) rfl (r_X12_thrown (Nat.le_of_ble_eq_true rfl)) (w_X12_thrown 0 0 m2 (m2.1 13 0 0) rfl) ?_
  refine zl_st R hct 1 1882 [some (.inl (.ref b)), some (.inr (12, 0)), some (.inr (13, 0)), some (.inr (32, 0)), some (.inr (33, 0)), some (.inl (.int x5)), some (.inl (.int k0)), some (.inl (.int b0)), none] [.inl (.int k0), .inl (.int (m2.1 13 0 0))] m2 rfl ⟨trivial, trivial⟩ ?_
  refine zl_br R hct rfl (fun _ => ?_) (fun cq => absurd hk cq)
  refine zl_st R hct 1 1889 [some (.inl (.ref b)), some (.inr (12, 0)), some (.inr (13, 0)), some (.inr (32, 0)), some (.inr (33, 0)), some (.inl (.int x5)), some (.inl (.int k0)), some (.inl (.int b0)), none] [.inl (.int k0)] m2 rfl ⟨trivial, trivial⟩ ?_
  refine zl_br R hct rfl (fun c0 => ?_) (fun _ => ?_)
  · refine zl_st R hct 6 1899 [some (.inl (.ref b)), some (.inr (12, 0)), some (.inr (13, 0)), some (.inr (32, 0)), some (.inr (33, 0)), some (.inl (.int x5)), some (.inl (.int k0)), some (.inl (.int b0)), none] [.inl (.int (lg_cmp (m2.2.1 32 0 0) (Int32.toInt64 b0)))] m2 rfl ⟨trivial, trivial, ⟨(Nat.le_of_ble_eq_true rfl), by unfold vp_in; decide⟩, trivial, trivial, trivial, trivial⟩ ?_
    refine zl_br R hct rfl (fun _ => ?_) (fun cq => absurd (by rw [hb c0]; exact z_cmp_self _) cq)
    refine zl_st R hct 1 3192 [some (.inl (.ref b)), some (.inr (12, 0)), some (.inr (13, 0)), some (.inr (32, 0)), some (.inr (33, 0)), some (.inl (.int x5)), some (.inl (.int k0)), some (.inl (.int b0)), none] [] m2 rfl ⟨trivial, trivial⟩ ?_
    exact zl_mask R [true, true, true, true, true, true, false, false, false] rfl (kk _ I2)
  · refine zl_st R hct 1 3192 [some (.inl (.ref b)), some (.inr (12, 0)), some (.inr (13, 0)), some (.inr (32, 0)), some (.inr (33, 0)), some (.inl (.int x5)), some (.inl (.int k0)), some (.inl (.int b0)), none] [] m2 rfl ⟨trivial, trivial⟩ ?_
    exact zl_mask R [true, true, true, true, true, true, false, false, false] rfl (kk _ I2)
theorem lw_c26 {xs : Nat → Int32} {L b : Nat} {G : Nat → Nat → zL → List zA → zM → Prop} (R : zLw xs L b G) {x5 : Int32} (hin : ∀ K : Int32, (K = 1 ∨ K = 2 ∨ K = 3) → vp_in (x5 + K) L) {k : Nat} {m : zM} (I : zInv m) (kk : ∀ m', zInv m' → G k 3192 (lwL b x5) [] m') : G (3 + k) 1907 (lwL b x5) [] m := by
  have hct : z_okT 0 code tW26 = true := oT26
  have hcc : z_okC 0 code z_MT tW26 = true := oC26
  obtain ⟨k0, m1, b0, m2, hX, hY, hk, hb, I2⟩ := t_reach I (xs (x5 + 1).toNatClampNeg) (xs (x5 + 2).toNatClampNeg)
  refine zl_st R hct 1 1908 [some (.inl (.ref b)), some (.inr (12, 0)), some (.inr (13, 0)), some (.inr (32, 0)), some (.inr (33, 0)), some (.inl (.int x5)), none, none, none] [.inr (12, 0)] m rfl ⟨trivial, trivial⟩ ?_
  refine zl_arg R hct 1 rfl rfl rfl ⟨trivial, trivial, trivial, trivial⟩ rfl (hin 1 (by decide)) ?_
  refine zl_arg R hct 2 rfl rfl rfl ⟨trivial, trivial, trivial, trivial⟩ rfl (hin 2 (by decide)) ?_
  refine zl_st R hct 1 1921 [some (.inl (.ref b)), some (.inr (12, 0)), some (.inr (13, 0)), some (.inr (32, 0)), some (.inr (33, 0)), some (.inl (.int x5)), none, none, none] [.inr (32, 0), .inl (.int (xs (x5 + 2).toNatClampNeg)), .inl (.int (xs (x5 + 1).toNatClampNeg)), .inr (12, 0)] m rfl ⟨trivial, trivial⟩ ?_
  refine zl_call R hcc (d := 8) (k1 := 3) (k2 := k) (by decide) rfl r_L_reach (w_L_reach 0 2 (xs (x5 + 1).toNatClampNeg) (xs (x5 + 2).toNatClampNeg) m (k0, m1) hX) ?_
  refine zl_st R hct 2 1927 [some (.inl (.ref b)), some (.inr (12, 0)), some (.inr (13, 0)), some (.inr (32, 0)), some (.inr (33, 0)), some (.inl (.int x5)), some (.inl (.int k0)), none, none] [.inr (13, 0)] m1 rfl ⟨trivial, trivial, trivial⟩ ?_
  refine zl_arg R hct 1 rfl rfl rfl ⟨trivial, trivial, trivial, trivial⟩ rfl (hin 1 (by decide)) ?_
  refine zl_arg R hct 2 rfl rfl rfl ⟨trivial, trivial, trivial, trivial⟩ rfl (hin 2 (by decide)) ?_
  refine zl_call0 R hcc (d := 6) (by decide) rfl (r_X12_reach (Nat.le_of_ble_eq_true rfl)) (w_X12_reach 0 0 (xs (x5 + 1).toNatClampNeg) (xs (x5 + 2).toNatClampNeg) m1 (b0, m2) hY) ?_
  refine zl_st R hct 2 1945 [some (.inl (.ref b)), some (.inr (12, 0)), some (.inr (13, 0)), some (.inr (32, 0)), some (.inr (33, 0)), some (.inl (.int x5)), some (.inl (.int k0)), some (.inl (.int b0)), none] [.inr (13, 0)] m2 rfl ⟨trivial, trivial, trivial⟩ ?_
  refine zl_call0 R hcc (d := 1) (by decide) rfl (r_X12_thrown (Nat.le_of_ble_eq_true rfl)) (w_X12_thrown 0 0 m2 (m2.1 13 0 0) rfl) ?_
  refine zl_st R hct 1 1950 [some (.inl (.ref b)), some (.inr (12, 0)), some (.inr (13, 0)), some (.inr (32, 0)), some (.inr (33, 0)), some (.inl (.int x5)), some (.inl (.int k0)), some (.inl (.int b0)), none] [.inl (.int k0), .inl (.int (m2.1 13 0 0))] m2 rfl ⟨trivial, trivial⟩ ?_
  refine zl_br R hct rfl (fun _ => ?_) (fun cq => absurd hk cq)
  refine zl_st R hct 1 1957 [some (.inl (.ref b)), some (.inr (12, 0)), some (.inr (13, 0)), some (.inr (32, 0)), some (.inr (33, 0)), some (.inl (.int x5)), some (.inl (.int k0)), some (.inl (.int b0)), none] [.inl (.int k0)] m2 rfl ⟨trivial, trivial⟩ ?_
  refine zl_br R hct rfl (fun c0 => ?_) (fun _ => ?_)
  · refine zl_st R hct 6 1967 [some (.inl (.ref b)), some (.inr (12, 0)), some (.inr (13, 0)), some (.inr (32, 0)), some (.inr (33, 0)), some (.inl (.int x5)), some (.inl (.int k0)), some (.inl (.int b0)), none] [.inl (.int (lg_cmp (m2.2.1 32 0 0) (Int32.toInt64 b0)))] m2 rfl ⟨trivial, trivial, ⟨(Nat.le_of_ble_eq_true rfl), by unfold vp_in; decide⟩, trivial, trivial, trivial, trivial⟩ ?_
    refine zl_br R hct rfl (fun _ => ?_) (fun cq => absurd (by rw [hb c0]; exact z_cmp_self _) cq)
    refine zl_st R hct 1 3192 [some (.inl (.ref b)), some (.inr (12, 0)), some (.inr (13, 0)), some (.inr (32, 0)), some (.inr (33, 0)), some (.inl (.int x5)), some (.inl (.int k0)), some (.inl (.int b0)), none] [] m2 rfl ⟨trivial, trivial⟩ ?_
    exact zl_mask R [true, true, true, true, true, true, false, false, false] rfl (kk _ I2)
  · refine zl_st R hct 1 3192 [some (.inl (.ref b)), some (.inr (12, 0)), some (.inr (13, 0)), some (.inr (32, 0)), some (.inr (33, 0)), some (.inl (.int x5)), some (.inl (.int k0)), some (.inl (.int b0)), none] [] m2 rfl ⟨trivial, trivial⟩ ?_
    exact zl_mask R [true, true, true, true, true, true, false, false, false] rfl (kk _ I2)
theorem lw_c27 {xs : Nat → Int32} {L b : Nat} {G : Nat → Nat → zL → List zA → zM → Prop} (R : zLw xs L b G) {x5 : Int32} (hin : ∀ K : Int32, (K = 1 ∨ K = 2 ∨ K = 3) → vp_in (x5 + K) L) {k : Nat} {m : zM} (I : zInv m) (kk : ∀ m', zInv m' → G k 3192 (lwL b x5) [] m') : G (3 + k) 1975 (lwL b x5) [] m := by
  have hct : z_okT 0 code tW27 = true := oT27
  have hcc : z_okC 0 code z_MT tW27 = true := oC27
  obtain ⟨k0, m1, b0, m2, hX, hY, hk, hb, I2⟩ := t_reachOf I (xs (x5 + 1).toNatClampNeg)
  refine zl_st R hct 1 1976 [some (.inl (.ref b)), some (.inr (12, 0)), some (.inr (13, 0)), some (.inr (32, 0)), some (.inr (33, 0)), some (.inl (.int x5)), none, none, none] [.inr (12, 0)] m rfl ⟨trivial, trivial⟩ ?_
  refine zl_arg R hct 1 rfl rfl rfl ⟨trivial, trivial, trivial, trivial⟩ rfl (hin 1 (by decide)) ?_
  refine zl_st R hct 1 1983 [some (.inl (.ref b)), some (.inr (12, 0)), some (.inr (13, 0)), some (.inr (32, 0)), some (.inr (33, 0)), some (.inl (.int x5)), none, none, none] [.inr (32, 0), .inl (.int (xs (x5 + 1).toNatClampNeg)), .inr (12, 0)] m rfl ⟨trivial, trivial⟩ ?_
  refine zl_call R hcc (d := 8) (k1 := 3) (k2 := k) (by decide) rfl r_L_reachOf (w_L_reachOf 0 1 (xs (x5 + 1).toNatClampNeg) m (k0, m1) hX) ?_
  refine zl_st R hct 2 1989 [some (.inl (.ref b)), some (.inr (12, 0)), some (.inr (13, 0)), some (.inr (32, 0)), some (.inr (33, 0)), some (.inl (.int x5)), some (.inl (.int k0)), none, none] [.inr (13, 0)] m1 rfl ⟨trivial, trivial, trivial⟩ ?_
  refine zl_arg R hct 1 rfl rfl rfl ⟨trivial, trivial, trivial, trivial⟩ rfl (hin 1 (by decide)) ?_
  refine zl_call0 R hcc (d := 6) (by decide) rfl (r_X12_reachOf (Nat.le_of_ble_eq_true rfl)) (w_X12_reachOf 0 0 (xs (x5 + 1).toNatClampNeg) m1 (b0, m2) hY) ?_
  refine zl_st R hct 2 2001 [some (.inl (.ref b)), some (.inr (12, 0)), some (.inr (13, 0)), some (.inr (32, 0)), some (.inr (33, 0)), some (.inl (.int x5)), some (.inl (.int k0)), some (.inl (.int b0)), none] [.inr (13, 0)] m2 rfl ⟨trivial, trivial, trivial⟩ ?_
  refine zl_call0 R hcc (d := 1) (by decide) rfl (r_X12_thrown (Nat.le_of_ble_eq_true rfl)) (w_X12_thrown 0 0 m2 (m2.1 13 0 0) rfl) ?_
  refine zl_st R hct 1 2006 [some (.inl (.ref b)), some (.inr (12, 0)), some (.inr (13, 0)), some (.inr (32, 0)), some (.inr (33, 0)), some (.inl (.int x5)), some (.inl (.int k0)), some (.inl (.int b0)), none] [.inl (.int k0), .inl (.int (m2.1 13 0 0))] m2 rfl ⟨trivial, trivial⟩ ?_
  refine zl_br R hct rfl (fun _ => ?_) (fun cq => absurd hk cq)
  refine zl_st R hct 1 2013 [some (.inl (.ref b)), some (.inr (12, 0)), some (.inr (13, 0)), some (.inr (32, 0)), some (.inr (33, 0)), some (.inl (.int x5)), some (.inl (.int k0)), some (.inl (.int b0)), none] [.inl (.int k0)] m2 rfl ⟨trivial, trivial⟩ ?_
  refine zl_br R hct rfl (fun c0 => ?_) (fun _ => ?_)
  · refine zl_st R hct 6 2023 [some (.inl (.ref b)), some (.inr (12, 0)), some (.inr (13, 0)), some (.inr (32, 0)), some (.inr (33, 0)), some (.inl (.int x5)), some (.inl (.int k0)), some (.inl (.int b0)), none] [.inl (.int (lg_cmp (m2.2.1 32 0 0) (Int32.toInt64 b0)))] m2 rfl ⟨trivial, trivial, ⟨(Nat.le_of_ble_eq_true rfl), by unfold vp_in; decide⟩, trivial, trivial, trivial, trivial⟩ ?_
    refine zl_br R hct rfl (fun _ => ?_) (fun cq => absurd (by rw [hb c0]; exact z_cmp_self _) cq)
    refine zl_st R hct 1 3192 [some (.inl (.ref b)), some (.inr (12, 0)), some (.inr (13, 0)), some (.inr (32, 0)), some (.inr (33, 0)), some (.inl (.int x5)), some (.inl (.int k0)), some (.inl (.int b0)), none] [] m2 rfl ⟨trivial, trivial⟩ ?_
    exact zl_mask R [true, true, true, true, true, true, false, false, false] rfl (kk _ I2)
  · refine zl_st R hct 1 3192 [some (.inl (.ref b)), some (.inr (12, 0)), some (.inr (13, 0)), some (.inr (32, 0)), some (.inr (33, 0)), some (.inl (.int x5)), some (.inl (.int k0)), some (.inl (.int b0)), none] [] m2 rfl ⟨trivial, trivial⟩ ?_
    exact zl_mask R [true, true, true, true, true, true, false, false, false] rfl (kk _ I2)
theorem lw_c28 {xs : Nat → Int32} {L b : Nat} {G : Nat → Nat → zL → List zA → zM → Prop} (R : zLw xs L b G) {x5 : Int32} (hin : ∀ K : Int32, (K = 1 ∨ K = 2 ∨ K = 3) → vp_in (x5 + K) L) {k : Nat} {m : zM} (I : zInv m) (kk : ∀ m', zInv m' → G k 3192 (lwL b x5) [] m') : G (3 + k) 2031 (lwL b x5) [] m := by
  have hct : z_okT 0 code tW28 = true := oT28
  have hcc : z_okC 0 code z_MT tW28 = true := oC28
  obtain ⟨k0, m1, b0, m2, hX, hY, hk, hb, I2⟩ := t_basin I (xs (x5 + 1).toNatClampNeg) (xs (x5 + 2).toNatClampNeg)
  refine zl_st R hct 1 2032 [some (.inl (.ref b)), some (.inr (12, 0)), some (.inr (13, 0)), some (.inr (32, 0)), some (.inr (33, 0)), some (.inl (.int x5)), none, none, none] [.inr (12, 0)] m rfl ⟨trivial, trivial⟩ ?_
  refine zl_arg R hct 1 rfl rfl rfl ⟨trivial, trivial, trivial, trivial⟩ rfl (hin 1 (by decide)) ?_
  refine zl_arg R hct 2 rfl rfl rfl ⟨trivial, trivial, trivial, trivial⟩ rfl (hin 2 (by decide)) ?_
  refine zl_st R hct 1 2045 [some (.inl (.ref b)), some (.inr (12, 0)), some (.inr (13, 0)), some (.inr (32, 0)), some (.inr (33, 0)), some (.inl (.int x5)), none, none, none] [.inr (32, 0), .inl (.int (xs (x5 + 2).toNatClampNeg)), .inl (.int (xs (x5 + 1).toNatClampNeg)), .inr (12, 0)] m rfl ⟨trivial, trivial⟩ ?_
  refine zl_call R hcc (d := 8) (k1 := 3) (k2 := k) (by decide) rfl r_L_basin (w_L_basin 0 1 (xs (x5 + 1).toNatClampNeg) (xs (x5 + 2).toNatClampNeg) m (k0, m1) hX) ?_
  refine zl_st R hct 2 2051 [some (.inl (.ref b)), some (.inr (12, 0)), some (.inr (13, 0)), some (.inr (32, 0)), some (.inr (33, 0)), some (.inl (.int x5)), some (.inl (.int k0)), none, none] [.inr (13, 0)] m1 rfl ⟨trivial, trivial, trivial⟩ ?_
  refine zl_arg R hct 1 rfl rfl rfl ⟨trivial, trivial, trivial, trivial⟩ rfl (hin 1 (by decide)) ?_
  refine zl_arg R hct 2 rfl rfl rfl ⟨trivial, trivial, trivial, trivial⟩ rfl (hin 2 (by decide)) ?_
  refine zl_call0 R hcc (d := 5) (by decide) rfl (r_X12_basin (Nat.le_of_ble_eq_true rfl)) (w_X12_basin 0 0 (xs (x5 + 1).toNatClampNeg) (xs (x5 + 2).toNatClampNeg) m1 (b0, m2) hY) ?_
  refine zl_st R hct 2 2069 [some (.inl (.ref b)), some (.inr (12, 0)), some (.inr (13, 0)), some (.inr (32, 0)), some (.inr (33, 0)), some (.inl (.int x5)), some (.inl (.int k0)), some (.inl (.int b0)), none] [.inr (13, 0)] m2 rfl ⟨trivial, trivial, trivial⟩ ?_
  refine zl_call0 R hcc (d := 1) (by decide) rfl (r_X12_thrown (Nat.le_of_ble_eq_true rfl)) (w_X12_thrown 0 0 m2 (m2.1 13 0 0) rfl) ?_
  refine zl_st R hct 1 2074 [some (.inl (.ref b)), some (.inr (12, 0)), some (.inr (13, 0)), some (.inr (32, 0)), some (.inr (33, 0)), some (.inl (.int x5)), some (.inl (.int k0)), some (.inl (.int b0)), none] [.inl (.int k0), .inl (.int (m2.1 13 0 0))] m2 rfl ⟨trivial, trivial⟩ ?_
  refine zl_br R hct rfl (fun _ => ?_) (fun cq => absurd hk cq)
  refine zl_st R hct 1 2081 [some (.inl (.ref b)), some (.inr (12, 0)), some (.inr (13, 0)), some (.inr (32, 0)), some (.inr (33, 0)), some (.inl (.int x5)), some (.inl (.int k0)), some (.inl (.int b0)), none] [.inl (.int k0)] m2 rfl ⟨trivial, trivial⟩ ?_
  refine zl_br R hct rfl (fun c0 => ?_) (fun _ => ?_)
  · refine zl_st R hct 6 2091 [some (.inl (.ref b)), some (.inr (12, 0)), some (.inr (13, 0)), some (.inr (32, 0)), some (.inr (33, 0)), some (.inl (.int x5)), some (.inl (.int k0)), some (.inl (.int b0)), none] [.inl (.int (lg_cmp (m2.2.1 32 0 0) (Int32.toInt64 b0)))] m2 rfl ⟨trivial, trivial, ⟨(Nat.le_of_ble_eq_true rfl), by unfold vp_in; decide⟩, trivial, trivial, trivial, trivial⟩ ?_
    refine zl_br R hct rfl (fun _ => ?_) (fun cq => absurd (by rw [hb c0]; exact z_cmp_self _) cq)
    refine zl_st R hct 1 3192 [some (.inl (.ref b)), some (.inr (12, 0)), some (.inr (13, 0)), some (.inr (32, 0)), some (.inr (33, 0)), some (.inl (.int x5)), some (.inl (.int k0)), some (.inl (.int b0)), none] [] m2 rfl ⟨trivial, trivial⟩ ?_
    exact zl_mask R [true, true, true, true, true, true, false, false, false] rfl (kk _ I2)
  · refine zl_st R hct 1 3192 [some (.inl (.ref b)), some (.inr (12, 0)), some (.inr (13, 0)), some (.inr (32, 0)), some (.inr (33, 0)), some (.inl (.int x5)), some (.inl (.int k0)), some (.inl (.int b0)), none] [] m2 rfl ⟨trivial, trivial⟩ ?_
    exact zl_mask R [true, true, true, true, true, true, false, false, false] rfl (kk _ I2)
theorem lw_c29 {xs : Nat → Int32} {L b : Nat} {G : Nat → Nat → zL → List zA → zM → Prop} (R : zLw xs L b G) {x5 : Int32} (hin : ∀ K : Int32, (K = 1 ∨ K = 2 ∨ K = 3) → vp_in (x5 + K) L) {k : Nat} {m : zM} (I : zInv m) (kk : ∀ m', zInv m' → G k 3192 (lwL b x5) [] m') : G (3 + k) 2099 (lwL b x5) [] m := by
  have hct : z_okT 0 code tW29 = true := oT29
  have hcc : z_okC 0 code z_MT tW29 = true := oC29
  obtain ⟨u, m1, m2, hX, hY, I2⟩ := t_divides I
  refine zl_st R hct 1 2100 [some (.inl (.ref b)), some (.inr (12, 0)), some (.inr (13, 0)), some (.inr (32, 0)), some (.inr (33, 0)), some (.inl (.int x5)), none, none, none] [.inr (12, 0)] m rfl ⟨trivial, trivial⟩ ?_
  refine zl_call R hcc (d := 7) (k1 := 3) (k2 := k) (by decide) rfl (r_X11_divides (Nat.le_of_ble_eq_true rfl)) (w_X11_divides 0 3 m (u, m1) hX) ?_
  refine zl_st R hct 1 2104 [some (.inl (.ref b)), some (.inr (12, 0)), some (.inr (13, 0)), some (.inr (32, 0)), some (.inr (33, 0)), some (.inl (.int x5)), none, none, none] [.inr (13, 0), .inl (.int u)] m1 rfl ⟨trivial, trivial⟩ ?_
  refine zl_call0 R hcc (d := 4) (by decide) rfl (r_X12_divides (Nat.le_of_ble_eq_true rfl)) (w_X12_divides 0 0 m1 (u, m2) hY) ?_
  refine zl_br R hct rfl (fun _ => ?_) (fun cq => absurd rfl cq)
  exact kk m2 I2
theorem lw_c30 {xs : Nat → Int32} {L b : Nat} {G : Nat → Nat → zL → List zA → zM → Prop} (R : zLw xs L b G) {x5 : Int32} (hin : ∀ K : Int32, (K = 1 ∨ K = 2 ∨ K = 3) → vp_in (x5 + K) L) {k : Nat} {m : zM} (I : zInv m) (kk : ∀ m', zInv m' → G k 3192 (lwL b x5) [] m') : G (3 + k) 2112 (lwL b x5) [] m := by
  have hct : z_okT 0 code tW30 = true := oT30
  have hcc : z_okC 0 code z_MT tW30 = true := oC30
  obtain ⟨k0, m1, b0, m2, hX, hY, hk, hb, I2⟩ := t_depression I (xs (x5 + 1).toNatClampNeg) (xs (x5 + 2).toNatClampNeg)
  refine zl_st R hct 1 2113 [some (.inl (.ref b)), some (.inr (12, 0)), some (.inr (13, 0)), some (.inr (32, 0)), some (.inr (33, 0)), some (.inl (.int x5)), none, none, none] [.inr (12, 0)] m rfl ⟨trivial, trivial⟩ ?_
  refine zl_arg R hct 1 rfl rfl rfl ⟨trivial, trivial, trivial, trivial⟩ rfl (hin 1 (by decide)) ?_
  refine zl_arg R hct 2 rfl rfl rfl ⟨trivial, trivial, trivial, trivial⟩ rfl (hin 2 (by decide)) ?_
  refine zl_st R hct 1 2126 [some (.inl (.ref b)), some (.inr (12, 0)), some (.inr (13, 0)), some (.inr (32, 0)), some (.inr (33, 0)), some (.inl (.int x5)), none, none, none] [.inr (32, 0), .inl (.int (xs (x5 + 2).toNatClampNeg)), .inl (.int (xs (x5 + 1).toNatClampNeg)), .inr (12, 0)] m rfl ⟨trivial, trivial⟩ ?_
  refine zl_call R hcc (d := 6) (k1 := 3) (k2 := k) (by decide) rfl r_L_depression (w_L_depression 0 2 (xs (x5 + 1).toNatClampNeg) (xs (x5 + 2).toNatClampNeg) m (k0, m1) hX) ?_
  refine zl_st R hct 2 2132 [some (.inl (.ref b)), some (.inr (12, 0)), some (.inr (13, 0)), some (.inr (32, 0)), some (.inr (33, 0)), some (.inl (.int x5)), some (.inl (.int k0)), none, none] [.inr (13, 0)] m1 rfl ⟨trivial, trivial, trivial⟩ ?_
  refine zl_arg R hct 1 rfl rfl rfl ⟨trivial, trivial, trivial, trivial⟩ rfl (hin 1 (by decide)) ?_
  refine zl_arg R hct 2 rfl rfl rfl ⟨trivial, trivial, trivial, trivial⟩ rfl (hin 2 (by decide)) ?_
  refine zl_call0 R hcc (d := 4) (by decide) rfl (r_X12_depression (Nat.le_of_ble_eq_true rfl)) (w_X12_depression 0 0 (xs (x5 + 1).toNatClampNeg) (xs (x5 + 2).toNatClampNeg) m1 (b0, m2) hY) ?_
  refine zl_st R hct 2 2150 [some (.inl (.ref b)), some (.inr (12, 0)), some (.inr (13, 0)), some (.inr (32, 0)), some (.inr (33, 0)), some (.inl (.int x5)), some (.inl (.int k0)), some (.inl (.int b0)), none] [.inr (13, 0)] m2 rfl ⟨trivial, trivial, trivial⟩ ?_
  refine zl_call0 R hcc (d := 1) (by decide) rfl (r_X12_thrown (Nat.le_of_ble_eq_true rfl)) (w_X12_thrown 0 0 m2 (m2.1 13 0 0) rfl) ?_
  refine zl_st R hct 1 2155 [some (.inl (.ref b)), some (.inr (12, 0)), some (.inr (13, 0)), some (.inr (32, 0)), some (.inr (33, 0)), some (.inl (.int x5)), some (.inl (.int k0)), some (.inl (.int b0)), none] [.inl (.int k0), .inl (.int (m2.1 13 0 0))] m2 rfl ⟨trivial, trivial⟩ ?_
  refine zl_br R hct rfl (fun _ => ?_) (fun cq => absurd hk cq)
  refine zl_st R hct 1 2162 [some (.inl (.ref b)), some (.inr (12, 0)), some (.inr (13, 0)), some (.inr (32, 0)), some (.inr (33, 0)), some (.inl (.int x5)), some (.inl (.int k0)), some (.inl (.int b0)), none] [.inl (.int k0)] m2 rfl ⟨trivial, trivial⟩ ?_
  refine zl_br R hct rfl (fun c0 => ?_) (fun _ => ?_)
  · refine zl_st R hct 6 2172 [some (.inl (.ref b)), some (.inr (12, 0)), some (.inr (13, 0)), some (.inr (32, 0)), some (.inr (33, 0)), some (.inl (.int x5)), some (.inl (.int k0)), some (.inl (.int b0)), none] [.inl (.int (lg_cmp (m2.2.1 32 0 0) (Int32.toInt64 b0)))] m2 rfl ⟨trivial, trivial, ⟨(Nat.le_of_ble_eq_true rfl), by unfold vp_in; decide⟩, trivial, trivial, trivial, trivial⟩ ?_
    refine zl_br R hct rfl (fun _ => ?_) (fun cq => absurd (by rw [hb c0]; exact z_cmp_self _) cq)
    refine zl_st R hct 1 3192 [some (.inl (.ref b)), some (.inr (12, 0)), some (.inr (13, 0)), some (.inr (32, 0)), some (.inr (33, 0)), some (.inl (.int x5)), some (.inl (.int k0)), some (.inl (.int b0)), none] [] m2 rfl ⟨trivial, trivial⟩ ?_
    exact zl_mask R [true, true, true, true, true, true, false, false, false] rfl (kk _ I2)
  · refine zl_st R hct 1 3192 [some (.inl (.ref b)), some (.inr (12, 0)), some (.inr (13, 0)), some (.inr (32, 0)), some (.inr (33, 0)), some (.inl (.int x5)), some (.inl (.int k0)), some (.inl (.int b0)), none] [] m2 rfl ⟨trivial, trivial⟩ ?_
    exact zl_mask R [true, true, true, true, true, true, false, false, false] rfl (kk _ I2)
theorem lw_c31 {xs : Nat → Int32} {L b : Nat} {G : Nat → Nat → zL → List zA → zM → Prop} (R : zLw xs L b G) {x5 : Int32} (hin : ∀ K : Int32, (K = 1 ∨ K = 2 ∨ K = 3) → vp_in (x5 + K) L) {k : Nat} {m : zM} (I : zInv m) (kk : ∀ m', zInv m' → G k 3192 (lwL b x5) [] m') : G (3 + k) 2180 (lwL b x5) [] m := by
  have hct : z_okT 0 code tW31 = true := oT31
  have hcc : z_okC 0 code z_MT tW31 = true := oC31
  obtain ⟨k0, m1, b0, m2, hX, hY, hk, hb, I2⟩ := t_depressionAt I (xs (x5 + 1).toNatClampNeg) (xs (x5 + 2).toNatClampNeg)
  refine zl_st R hct 1 2181 [some (.inl (.ref b)), some (.inr (12, 0)), some (.inr (13, 0)), some (.inr (32, 0)), some (.inr (33, 0)), some (.inl (.int x5)), none, none, none] [.inr (12, 0)] m rfl ⟨trivial, trivial⟩ ?_
  refine zl_arg R hct 1 rfl rfl rfl ⟨trivial, trivial, trivial, trivial⟩ rfl (hin 1 (by decide)) ?_
  refine zl_arg R hct 2 rfl rfl rfl ⟨trivial, trivial, trivial, trivial⟩ rfl (hin 2 (by decide)) ?_
  refine zl_st R hct 1 2194 [some (.inl (.ref b)), some (.inr (12, 0)), some (.inr (13, 0)), some (.inr (32, 0)), some (.inr (33, 0)), some (.inl (.int x5)), none, none, none] [.inr (32, 0), .inl (.int (xs (x5 + 2).toNatClampNeg)), .inl (.int (xs (x5 + 1).toNatClampNeg)), .inr (12, 0)] m rfl ⟨trivial, trivial⟩ ?_
  refine zl_call R hcc (d := 6) (k1 := 3) (k2 := k) (by decide) rfl r_L_depressionAt (w_L_depressionAt 0 0 (xs (x5 + 1).toNatClampNeg) (xs (x5 + 2).toNatClampNeg) m (k0, m1) hX) ?_
  refine zl_st R hct 2 2200 [some (.inl (.ref b)), some (.inr (12, 0)), some (.inr (13, 0)), some (.inr (32, 0)), some (.inr (33, 0)), some (.inl (.int x5)), some (.inl (.int k0)), none, none] [.inr (13, 0)] m1 rfl ⟨trivial, trivial, trivial⟩ ?_
  refine zl_arg R hct 1 rfl rfl rfl ⟨trivial, trivial, trivial, trivial⟩ rfl (hin 1 (by decide)) ?_
  refine zl_arg R hct 2 rfl rfl rfl ⟨trivial, trivial, trivial, trivial⟩ rfl (hin 2 (by decide)) ?_
  refine zl_call0 R hcc (d := 4) (by decide) rfl (r_X12_depressionAt (Nat.le_of_ble_eq_true rfl)) (w_X12_depressionAt 0 0 (xs (x5 + 1).toNatClampNeg) (xs (x5 + 2).toNatClampNeg) m1 (b0, m2) hY) ?_
  refine zl_st R hct 2 2218 [some (.inl (.ref b)), some (.inr (12, 0)), some (.inr (13, 0)), some (.inr (32, 0)), some (.inr (33, 0)), some (.inl (.int x5)), some (.inl (.int k0)), some (.inl (.int b0)), none] [.inr (13, 0)] m2 rfl ⟨trivial, trivial, trivial⟩ ?_
  refine zl_call0 R hcc (d := 1) (by decide) rfl (r_X12_thrown (Nat.le_of_ble_eq_true rfl)) (w_X12_thrown 0 0 m2 (m2.1 13 0 0) rfl) ?_
  refine zl_st R hct 1 2223 [some (.inl (.ref b)), some (.inr (12, 0)), some (.inr (13, 0)), some (.inr (32, 0)), some (.inr (33, 0)), some (.inl (.int x5)), some (.inl (.int k0)), some (.inl (.int b0)), none] [.inl (.int k0), .inl (.int (m2.1 13 0 0))] m2 rfl ⟨trivial, trivial⟩ ?_
  refine zl_br R hct rfl (fun _ => ?_) (fun cq => absurd hk cq)
  refine zl_st R hct 1 2230 [some (.inl (.ref b)), some (.inr (12, 0)), some (.inr (13, 0)), some (.inr (32, 0)), some (.inr (33, 0)), some (.inl (.int x5)), some (.inl (.int k0)), some (.inl (.int b0)), none] [.inl (.int k0)] m2 rfl ⟨trivial, trivial⟩ ?_
  refine zl_br R hct rfl (fun c0 => ?_) (fun _ => ?_)
  · refine zl_st R hct 6 2240 [some (.inl (.ref b)), some (.inr (12, 0)), some (.inr (13, 0)), some (.inr (32, 0)), some (.inr (33, 0)), some (.inl (.int x5)), some (.inl (.int k0)), some (.inl (.int b0)), none] [.inl (.int (lg_cmp (m2.2.1 32 0 0) (Int32.toInt64 b0)))] m2 rfl ⟨trivial, trivial, ⟨(Nat.le_of_ble_eq_true rfl), by unfold vp_in; decide⟩, trivial, trivial, trivial, trivial⟩ ?_
    refine zl_br R hct rfl (fun _ => ?_) (fun cq => absurd (by rw [hb c0]; exact z_cmp_self _) cq)
    refine zl_st R hct 1 3192 [some (.inl (.ref b)), some (.inr (12, 0)), some (.inr (13, 0)), some (.inr (32, 0)), some (.inr (33, 0)), some (.inl (.int x5)), some (.inl (.int k0)), some (.inl (.int b0)), none] [] m2 rfl ⟨trivial, trivial⟩ ?_
    exact zl_mask R [true, true, true, true, true, true, false, false, false] rfl (kk _ I2)
  · refine zl_st R hct 1 3192 [some (.inl (.ref b)), some (.inr (12, 0)), some (.inr (13, 0)), some (.inr (32, 0)), some (.inr (33, 0)), some (.inl (.int x5)), some (.inl (.int k0)), some (.inl (.int b0)), none] [] m2 rfl ⟨trivial, trivial⟩ ?_
    exact zl_mask R [true, true, true, true, true, true, false, false, false] rfl (kk _ I2)
theorem lw_c32 {xs : Nat → Int32} {L b : Nat} {G : Nat → Nat → zL → List zA → zM → Prop} (R : zLw xs L b G) {x5 : Int32} (hin : ∀ K : Int32, (K = 1 ∨ K = 2 ∨ K = 3) → vp_in (x5 + K) L) {k : Nat} {m : zM} (I : zInv m) (kk : ∀ m', zInv m' → G k 3192 (lwL b x5) [] m') : G (3 + k) 2248 (lwL b x5) [] m := by
  have hct : z_okT 0 code tW32 = true := oT32
  have hcc : z_okC 0 code z_MT tW32 = true := oC32
  obtain ⟨k0, m1, b0, m2, hX, hY, hk, hb, I2⟩ := t_pools I (xs (x5 + 1).toNatClampNeg)
  refine zl_st R hct 1 2249 [some (.inl (.ref b)), some (.inr (12, 0)), some (.inr (13, 0)), some (.inr (32, 0)), some (.inr (33, 0)), some (.inl (.int x5)), none, none, none] [.inr (12, 0)] m rfl ⟨trivial, trivial⟩ ?_
  refine zl_arg R hct 1 rfl rfl rfl ⟨trivial, trivial, trivial, trivial⟩ rfl (hin 1 (by decide)) ?_
  refine zl_st R hct 1 2256 [some (.inl (.ref b)), some (.inr (12, 0)), some (.inr (13, 0)), some (.inr (32, 0)), some (.inr (33, 0)), some (.inl (.int x5)), none, none, none] [.inr (32, 0), .inl (.int (xs (x5 + 1).toNatClampNeg)), .inr (12, 0)] m rfl ⟨trivial, trivial⟩ ?_
  refine zl_call R hcc (d := 5) (k1 := 3) (k2 := k) (by decide) rfl r_L_pools (w_L_pools 0 2 (xs (x5 + 1).toNatClampNeg) m (k0, m1) hX) ?_
  refine zl_st R hct 2 2262 [some (.inl (.ref b)), some (.inr (12, 0)), some (.inr (13, 0)), some (.inr (32, 0)), some (.inr (33, 0)), some (.inl (.int x5)), some (.inl (.int k0)), none, none] [.inr (13, 0)] m1 rfl ⟨trivial, trivial, trivial⟩ ?_
  refine zl_arg R hct 1 rfl rfl rfl ⟨trivial, trivial, trivial, trivial⟩ rfl (hin 1 (by decide)) ?_
  refine zl_call0 R hcc (d := 3) (by decide) rfl (r_X12_pools (Nat.le_of_ble_eq_true rfl)) (w_X12_pools 0 0 (xs (x5 + 1).toNatClampNeg) m1 (b0, m2) hY) ?_
  refine zl_st R hct 2 2274 [some (.inl (.ref b)), some (.inr (12, 0)), some (.inr (13, 0)), some (.inr (32, 0)), some (.inr (33, 0)), some (.inl (.int x5)), some (.inl (.int k0)), some (.inl (.long b0)), none] [.inr (13, 0)] m2 rfl ⟨trivial, trivial, trivial⟩ ?_
  refine zl_call0 R hcc (d := 1) (by decide) rfl (r_X12_thrown (Nat.le_of_ble_eq_true rfl)) (w_X12_thrown 0 0 m2 (m2.1 13 0 0) rfl) ?_
  refine zl_st R hct 1 2279 [some (.inl (.ref b)), some (.inr (12, 0)), some (.inr (13, 0)), some (.inr (32, 0)), some (.inr (33, 0)), some (.inl (.int x5)), some (.inl (.int k0)), some (.inl (.long b0)), none] [.inl (.int k0), .inl (.int (m2.1 13 0 0))] m2 rfl ⟨trivial, trivial⟩ ?_
  refine zl_br R hct rfl (fun _ => ?_) (fun cq => absurd hk cq)
  refine zl_st R hct 1 2286 [some (.inl (.ref b)), some (.inr (12, 0)), some (.inr (13, 0)), some (.inr (32, 0)), some (.inr (33, 0)), some (.inl (.int x5)), some (.inl (.int k0)), some (.inl (.long b0)), none] [.inl (.int k0)] m2 rfl ⟨trivial, trivial⟩ ?_
  refine zl_br R hct rfl (fun c0 => ?_) (fun _ => ?_)
  · refine zl_st R hct 5 2295 [some (.inl (.ref b)), some (.inr (12, 0)), some (.inr (13, 0)), some (.inr (32, 0)), some (.inr (33, 0)), some (.inl (.int x5)), some (.inl (.int k0)), some (.inl (.long b0)), none] [.inl (.int (lg_cmp (m2.2.1 32 0 0) b0))] m2 rfl ⟨trivial, trivial, ⟨(Nat.le_of_ble_eq_true rfl), by unfold vp_in; decide⟩, trivial, trivial, trivial⟩ ?_
    refine zl_br R hct rfl (fun _ => ?_) (fun cq => absurd (by rw [hb c0]; exact z_cmp_self _) cq)
    refine zl_st R hct 1 3192 [some (.inl (.ref b)), some (.inr (12, 0)), some (.inr (13, 0)), some (.inr (32, 0)), some (.inr (33, 0)), some (.inl (.int x5)), some (.inl (.int k0)), some (.inl (.long b0)), none] [] m2 rfl ⟨trivial, trivial⟩ ?_
    exact zl_mask R [true, true, true, true, true, true, false, false, false] rfl (kk _ I2)
  · refine zl_st R hct 1 3192 [some (.inl (.ref b)), some (.inr (12, 0)), some (.inr (13, 0)), some (.inr (32, 0)), some (.inr (33, 0)), some (.inl (.int x5)), some (.inl (.int k0)), some (.inl (.long b0)), none] [] m2 rfl ⟨trivial, trivial⟩ ?_
    exact zl_mask R [true, true, true, true, true, true, false, false, false] rfl (kk _ I2)
theorem lw_c33 {xs : Nat → Int32} {L b : Nat} {G : Nat → Nat → zL → List zA → zM → Prop} (R : zLw xs L b G) {x5 : Int32} (hin : ∀ K : Int32, (K = 1 ∨ K = 2 ∨ K = 3) → vp_in (x5 + K) L) {k : Nat} {m : zM} (I : zInv m) (kk : ∀ m', zInv m' → G k 3192 (lwL b x5) [] m') : G (3 + k) 2303 (lwL b x5) [] m := by
  have hct : z_okT 0 code tW33 = true := oT33
  have hcc : z_okC 0 code z_MT tW33 = true := oC33
  obtain ⟨k0, m1, b0, m2, hX, hY, hk, hb, I2⟩ := t_contour I (xs (x5 + 1).toNatClampNeg) (xs (x5 + 2).toNatClampNeg)
  refine zl_st R hct 1 2304 [some (.inl (.ref b)), some (.inr (12, 0)), some (.inr (13, 0)), some (.inr (32, 0)), some (.inr (33, 0)), some (.inl (.int x5)), none, none, none] [.inr (12, 0)] m rfl ⟨trivial, trivial⟩ ?_
  refine zl_arg R hct 1 rfl rfl rfl ⟨trivial, trivial, trivial, trivial⟩ rfl (hin 1 (by decide)) ?_
  refine zl_arg R hct 2 rfl rfl rfl ⟨trivial, trivial, trivial, trivial⟩ rfl (hin 2 (by decide)) ?_
  refine zl_st R hct 1 2317 [some (.inl (.ref b)), some (.inr (12, 0)), some (.inr (13, 0)), some (.inr (32, 0)), some (.inr (33, 0)), some (.inl (.int x5)), none, none, none] [.inr (32, 0), .inl (.int (xs (x5 + 2).toNatClampNeg)), .inl (.int (xs (x5 + 1).toNatClampNeg)), .inr (12, 0)] m rfl ⟨trivial, trivial⟩ ?_
  refine zl_call R hcc (d := 5) (k1 := 3) (k2 := k) (by decide) rfl r_L_contour (w_L_contour 0 1 (xs (x5 + 1).toNatClampNeg) (xs (x5 + 2).toNatClampNeg) m (k0, m1) hX) ?_
  refine zl_st R hct 2 2323 [some (.inl (.ref b)), some (.inr (12, 0)), some (.inr (13, 0)), some (.inr (32, 0)), some (.inr (33, 0)), some (.inl (.int x5)), some (.inl (.int k0)), none, none] [.inr (13, 0)] m1 rfl ⟨trivial, trivial, trivial⟩ ?_
  refine zl_arg R hct 1 rfl rfl rfl ⟨trivial, trivial, trivial, trivial⟩ rfl (hin 1 (by decide)) ?_
  refine zl_arg R hct 2 rfl rfl rfl ⟨trivial, trivial, trivial, trivial⟩ rfl (hin 2 (by decide)) ?_
  refine zl_call0 R hcc (d := 3) (by decide) rfl (r_X12_contour (Nat.le_of_ble_eq_true rfl)) (w_X12_contour 0 0 (xs (x5 + 1).toNatClampNeg) (xs (x5 + 2).toNatClampNeg) m1 (b0, m2) hY) ?_
  refine zl_st R hct 2 2341 [some (.inl (.ref b)), some (.inr (12, 0)), some (.inr (13, 0)), some (.inr (32, 0)), some (.inr (33, 0)), some (.inl (.int x5)), some (.inl (.int k0)), some (.inl (.int b0)), none] [.inr (13, 0)] m2 rfl ⟨trivial, trivial, trivial⟩ ?_
  refine zl_call0 R hcc (d := 1) (by decide) rfl (r_X12_thrown (Nat.le_of_ble_eq_true rfl)) (w_X12_thrown 0 0 m2 (m2.1 13 0 0) rfl) ?_
  refine zl_st R hct 1 2346 [some (.inl (.ref b)), some (.inr (12, 0)), some (.inr (13, 0)), some (.inr (32, 0)), some (.inr (33, 0)), some (.inl (.int x5)), some (.inl (.int k0)), some (.inl (.int b0)), none] [.inl (.int k0), .inl (.int (m2.1 13 0 0))] m2 rfl ⟨trivial, trivial⟩ ?_
  refine zl_br R hct rfl (fun _ => ?_) (fun cq => absurd hk cq)
  refine zl_st R hct 1 2353 [some (.inl (.ref b)), some (.inr (12, 0)), some (.inr (13, 0)), some (.inr (32, 0)), some (.inr (33, 0)), some (.inl (.int x5)), some (.inl (.int k0)), some (.inl (.int b0)), none] [.inl (.int k0)] m2 rfl ⟨trivial, trivial⟩ ?_
  refine zl_br R hct rfl (fun c0 => ?_) (fun _ => ?_)
  · refine zl_st R hct 6 2363 [some (.inl (.ref b)), some (.inr (12, 0)), some (.inr (13, 0)), some (.inr (32, 0)), some (.inr (33, 0)), some (.inl (.int x5)), some (.inl (.int k0)), some (.inl (.int b0)), none] [.inl (.int (lg_cmp (m2.2.1 32 0 0) (Int32.toInt64 b0)))] m2 rfl ⟨trivial, trivial, ⟨(Nat.le_of_ble_eq_true rfl), by unfold vp_in; decide⟩, trivial, trivial, trivial, trivial⟩ ?_
    refine zl_br R hct rfl (fun _ => ?_) (fun cq => absurd (by rw [hb c0]; exact z_cmp_self _) cq)
    refine zl_st R hct 1 3192 [some (.inl (.ref b)), some (.inr (12, 0)), some (.inr (13, 0)), some (.inr (32, 0)), some (.inr (33, 0)), some (.inl (.int x5)), some (.inl (.int k0)), some (.inl (.int b0)), none] [] m2 rfl ⟨trivial, trivial⟩ ?_
    exact zl_mask R [true, true, true, true, true, true, false, false, false] rfl (kk _ I2)
  · refine zl_st R hct 1 3192 [some (.inl (.ref b)), some (.inr (12, 0)), some (.inr (13, 0)), some (.inr (32, 0)), some (.inr (33, 0)), some (.inl (.int x5)), some (.inl (.int k0)), some (.inl (.int b0)), none] [] m2 rfl ⟨trivial, trivial⟩ ?_
    exact zl_mask R [true, true, true, true, true, true, false, false, false] rfl (kk _ I2)
theorem lw_c34 {xs : Nat → Int32} {L b : Nat} {G : Nat → Nat → zL → List zA → zM → Prop} (R : zLw xs L b G) {x5 : Int32} (hin : ∀ K : Int32, (K = 1 ∨ K = 2 ∨ K = 3) → vp_in (x5 + K) L) {k : Nat} {m : zM} (I : zInv m) (kk : ∀ m', zInv m' → G k 3192 (lwL b x5) [] m') : G (3 + k) 2371 (lwL b x5) [] m := by
  have hct : z_okT 0 code tW34 = true := oT34
  have hcc : z_okC 0 code z_MT tW34 = true := oC34
  obtain ⟨k0, m1, b0, m2, hX, hY, hk, hb, I2⟩ := t_section I (xs (x5 + 1).toNatClampNeg) (xs (x5 + 2).toNatClampNeg) (xs (x5 + 3).toNatClampNeg)
  refine zl_st R hct 1 2372 [some (.inl (.ref b)), some (.inr (12, 0)), some (.inr (13, 0)), some (.inr (32, 0)), some (.inr (33, 0)), some (.inl (.int x5)), none, none, none] [.inr (12, 0)] m rfl ⟨trivial, trivial⟩ ?_
  refine zl_arg R hct 1 rfl rfl rfl ⟨trivial, trivial, trivial, trivial⟩ rfl (hin 1 (by decide)) ?_
  refine zl_arg R hct 2 rfl rfl rfl ⟨trivial, trivial, trivial, trivial⟩ rfl (hin 2 (by decide)) ?_
  refine zl_arg R hct 3 rfl rfl rfl ⟨trivial, trivial, trivial, trivial⟩ rfl (hin 3 (by decide)) ?_
  refine zl_st R hct 1 2391 [some (.inl (.ref b)), some (.inr (12, 0)), some (.inr (13, 0)), some (.inr (32, 0)), some (.inr (33, 0)), some (.inl (.int x5)), none, none, none] [.inr (32, 0), .inl (.int (xs (x5 + 3).toNatClampNeg)), .inl (.int (xs (x5 + 2).toNatClampNeg)), .inl (.int (xs (x5 + 1).toNatClampNeg)), .inr (12, 0)] m rfl ⟨trivial, trivial⟩ ?_
  refine zl_call R hcc (d := 8) (k1 := 3) (k2 := k) (by decide) rfl r_L_section (w_L_section 0 0 (xs (x5 + 1).toNatClampNeg) (xs (x5 + 2).toNatClampNeg) (xs (x5 + 3).toNatClampNeg) m (k0, m1) hX) ?_
  refine zl_st R hct 2 2397 [some (.inl (.ref b)), some (.inr (12, 0)), some (.inr (13, 0)), some (.inr (32, 0)), some (.inr (33, 0)), some (.inl (.int x5)), some (.inl (.int k0)), none, none] [.inr (13, 0)] m1 rfl ⟨trivial, trivial, trivial⟩ ?_
  refine zl_arg R hct 1 rfl rfl rfl ⟨trivial, trivial, trivial, trivial⟩ rfl (hin 1 (by decide)) ?_
  refine zl_arg R hct 2 rfl rfl rfl ⟨trivial, trivial, trivial, trivial⟩ rfl (hin 2 (by decide)) ?_
  refine zl_arg R hct 3 rfl rfl rfl ⟨trivial, trivial, trivial, trivial⟩ rfl (hin 3 (by decide)) ?_
  refine zl_call0 R hcc (d := 5) (by decide) rfl (r_X12_section (Nat.le_of_ble_eq_true rfl)) (w_X12_section 0 0 (xs (x5 + 1).toNatClampNeg) (xs (x5 + 2).toNatClampNeg) (xs (x5 + 3).toNatClampNeg) m1 (b0, m2) hY) ?_
  refine zl_st R hct 2 2421 [some (.inl (.ref b)), some (.inr (12, 0)), some (.inr (13, 0)), some (.inr (32, 0)), some (.inr (33, 0)), some (.inl (.int x5)), some (.inl (.int k0)), some (.inl (.int b0)), none] [.inr (13, 0)] m2 rfl ⟨trivial, trivial, trivial⟩ ?_
  refine zl_call0 R hcc (d := 1) (by decide) rfl (r_X12_thrown (Nat.le_of_ble_eq_true rfl)) (w_X12_thrown 0 0 m2 (m2.1 13 0 0) rfl) ?_
  refine zl_st R hct 1 2426 [some (.inl (.ref b)), some (.inr (12, 0)), some (.inr (13, 0)), some (.inr (32, 0)), some (.inr (33, 0)), some (.inl (.int x5)), some (.inl (.int k0)), some (.inl (.int b0)), none] [.inl (.int k0), .inl (.int (m2.1 13 0 0))] m2 rfl ⟨trivial, trivial⟩ ?_
  refine zl_br R hct rfl (fun _ => ?_) (fun cq => absurd hk cq)
  refine zl_st R hct 1 2433 [some (.inl (.ref b)), some (.inr (12, 0)), some (.inr (13, 0)), some (.inr (32, 0)), some (.inr (33, 0)), some (.inl (.int x5)), some (.inl (.int k0)), some (.inl (.int b0)), none] [.inl (.int k0)] m2 rfl ⟨trivial, trivial⟩ ?_
  refine zl_br R hct rfl (fun c0 => ?_) (fun _ => ?_)
  · refine zl_st R hct 6 2443 [some (.inl (.ref b)), some (.inr (12, 0)), some (.inr (13, 0)), some (.inr (32, 0)), some (.inr (33, 0)), some (.inl (.int x5)), some (.inl (.int k0)), some (.inl (.int b0)), none] [.inl (.int (lg_cmp (m2.2.1 32 0 0) (Int32.toInt64 b0)))] m2 rfl ⟨trivial, trivial, ⟨(Nat.le_of_ble_eq_true rfl), by unfold vp_in; decide⟩, trivial, trivial, trivial, trivial⟩ ?_
    refine zl_br R hct rfl (fun _ => ?_) (fun cq => absurd (by rw [hb c0]; exact z_cmp_self _) cq)
    refine zl_st R hct 1 3192 [some (.inl (.ref b)), some (.inr (12, 0)), some (.inr (13, 0)), some (.inr (32, 0)), some (.inr (33, 0)), some (.inl (.int x5)), some (.inl (.int k0)), some (.inl (.int b0)), none] [] m2 rfl ⟨trivial, trivial⟩ ?_
    exact zl_mask R [true, true, true, true, true, true, false, false, false] rfl (kk _ I2)
  · refine zl_st R hct 1 3192 [some (.inl (.ref b)), some (.inr (12, 0)), some (.inr (13, 0)), some (.inr (32, 0)), some (.inr (33, 0)), some (.inl (.int x5)), some (.inl (.int k0)), some (.inl (.int b0)), none] [] m2 rfl ⟨trivial, trivial⟩ ?_
    exact zl_mask R [true, true, true, true, true, true, false, false, false] rfl (kk _ I2)
theorem lw_c35 {xs : Nat → Int32} {L b : Nat} {G : Nat → Nat → zL → List zA → zM → Prop} (R : zLw xs L b G) {x5 : Int32} (hin : ∀ K : Int32, (K = 1 ∨ K = 2 ∨ K = 3) → vp_in (x5 + K) L) {k : Nat} {m : zM} (I : zInv m) (kk : ∀ m', zInv m' → G k 3192 (lwL b x5) [] m') : G (3 + k) 2451 (lwL b x5) [] m := by
  have hct : z_okT 0 code tW35 = true := oT35
  have hcc : z_okC 0 code z_MT tW35 = true := oC35
  obtain ⟨k0, m1, b0, m2, hX, hY, hk, hb, I2⟩ := t_sectionCell I (xs (x5 + 1).toNatClampNeg) (xs (x5 + 2).toNatClampNeg) (xs (x5 + 3).toNatClampNeg)
  refine zl_st R hct 1 2452 [some (.inl (.ref b)), some (.inr (12, 0)), some (.inr (13, 0)), some (.inr (32, 0)), some (.inr (33, 0)), some (.inl (.int x5)), none, none, none] [.inr (12, 0)] m rfl ⟨trivial, trivial⟩ ?_
  refine zl_arg R hct 1 rfl rfl rfl ⟨trivial, trivial, trivial, trivial⟩ rfl (hin 1 (by decide)) ?_
  refine zl_arg R hct 2 rfl rfl rfl ⟨trivial, trivial, trivial, trivial⟩ rfl (hin 2 (by decide)) ?_
  refine zl_arg R hct 3 rfl rfl rfl ⟨trivial, trivial, trivial, trivial⟩ rfl (hin 3 (by decide)) ?_
  refine zl_st R hct 1 2471 [some (.inl (.ref b)), some (.inr (12, 0)), some (.inr (13, 0)), some (.inr (32, 0)), some (.inr (33, 0)), some (.inl (.int x5)), none, none, none] [.inr (32, 0), .inl (.int (xs (x5 + 3).toNatClampNeg)), .inl (.int (xs (x5 + 2).toNatClampNeg)), .inl (.int (xs (x5 + 1).toNatClampNeg)), .inr (12, 0)] m rfl ⟨trivial, trivial⟩ ?_
  refine zl_call R hcc (d := 5) (k1 := 3) (k2 := k) (by decide) rfl r_L_sectionCell (w_L_sectionCell 0 0 (xs (x5 + 1).toNatClampNeg) (xs (x5 + 2).toNatClampNeg) (xs (x5 + 3).toNatClampNeg) m (k0, m1) hX) ?_
  refine zl_st R hct 2 2477 [some (.inl (.ref b)), some (.inr (12, 0)), some (.inr (13, 0)), some (.inr (32, 0)), some (.inr (33, 0)), some (.inl (.int x5)), some (.inl (.int k0)), none, none] [.inr (13, 0)] m1 rfl ⟨trivial, trivial, trivial⟩ ?_
  refine zl_arg R hct 1 rfl rfl rfl ⟨trivial, trivial, trivial, trivial⟩ rfl (hin 1 (by decide)) ?_
  refine zl_arg R hct 2 rfl rfl rfl ⟨trivial, trivial, trivial, trivial⟩ rfl (hin 2 (by decide)) ?_
  refine zl_arg R hct 3 rfl rfl rfl ⟨trivial, trivial, trivial, trivial⟩ rfl (hin 3 (by decide)) ?_
  refine zl_call0 R hcc (d := 4) (by decide) rfl (r_X12_sectionCell (Nat.le_of_ble_eq_true rfl)) (w_X12_sectionCell 0 0 (xs (x5 + 1).toNatClampNeg) (xs (x5 + 2).toNatClampNeg) (xs (x5 + 3).toNatClampNeg) m1 (b0, m2) hY) ?_
  refine zl_st R hct 2 2501 [some (.inl (.ref b)), some (.inr (12, 0)), some (.inr (13, 0)), some (.inr (32, 0)), some (.inr (33, 0)), some (.inl (.int x5)), some (.inl (.int k0)), some (.inl (.int b0)), none] [.inr (13, 0)] m2 rfl ⟨trivial, trivial, trivial⟩ ?_
  refine zl_call0 R hcc (d := 1) (by decide) rfl (r_X12_thrown (Nat.le_of_ble_eq_true rfl)) (w_X12_thrown 0 0 m2 (m2.1 13 0 0) rfl) ?_
  refine zl_st R hct 1 2506 [some (.inl (.ref b)), some (.inr (12, 0)), some (.inr (13, 0)), some (.inr (32, 0)), some (.inr (33, 0)), some (.inl (.int x5)), some (.inl (.int k0)), some (.inl (.int b0)), none] [.inl (.int k0), .inl (.int (m2.1 13 0 0))] m2 rfl ⟨trivial, trivial⟩ ?_
  refine zl_br R hct rfl (fun _ => ?_) (fun cq => absurd hk cq)
  refine zl_st R hct 1 2513 [some (.inl (.ref b)), some (.inr (12, 0)), some (.inr (13, 0)), some (.inr (32, 0)), some (.inr (33, 0)), some (.inl (.int x5)), some (.inl (.int k0)), some (.inl (.int b0)), none] [.inl (.int k0)] m2 rfl ⟨trivial, trivial⟩ ?_
  refine zl_br R hct rfl (fun c0 => ?_) (fun _ => ?_)
  · refine zl_st R hct 6 2523 [some (.inl (.ref b)), some (.inr (12, 0)), some (.inr (13, 0)), some (.inr (32, 0)), some (.inr (33, 0)), some (.inl (.int x5)), some (.inl (.int k0)), some (.inl (.int b0)), none] [.inl (.int (lg_cmp (m2.2.1 32 0 0) (Int32.toInt64 b0)))] m2 rfl ⟨trivial, trivial, ⟨(Nat.le_of_ble_eq_true rfl), by unfold vp_in; decide⟩, trivial, trivial, trivial, trivial⟩ ?_
    refine zl_br R hct rfl (fun _ => ?_) (fun cq => absurd (by rw [hb c0]; exact z_cmp_self _) cq)
    refine zl_st R hct 1 3192 [some (.inl (.ref b)), some (.inr (12, 0)), some (.inr (13, 0)), some (.inr (32, 0)), some (.inr (33, 0)), some (.inl (.int x5)), some (.inl (.int k0)), some (.inl (.int b0)), none] [] m2 rfl ⟨trivial, trivial⟩ ?_
    exact zl_mask R [true, true, true, true, true, true, false, false, false] rfl (kk _ I2)
  · refine zl_st R hct 1 3192 [some (.inl (.ref b)), some (.inr (12, 0)), some (.inr (13, 0)), some (.inr (32, 0)), some (.inr (33, 0)), some (.inl (.int x5)), some (.inl (.int k0)), some (.inl (.int b0)), none] [] m2 rfl ⟨trivial, trivial⟩ ?_
    exact zl_mask R [true, true, true, true, true, true, false, false, false] rfl (kk _ I2)
theorem lw_c36 {xs : Nat → Int32} {L b : Nat} {G : Nat → Nat → zL → List zA → zM → Prop} (R : zLw xs L b G) {x5 : Int32} (hin : ∀ K : Int32, (K = 1 ∨ K = 2 ∨ K = 3) → vp_in (x5 + K) L) {k : Nat} {m : zM} (I : zInv m) (kk : ∀ m', zInv m' → G k 3192 (lwL b x5) [] m') : G (3 + k) 2531 (lwL b x5) [] m := by
  have hct : z_okT 0 code tW36 = true := oT36
  have hcc : z_okC 0 code z_MT tW36 = true := oC36
  obtain ⟨k0, m1, b0, m2, hX, hY, hk, hb, I2⟩ := t_sees I (xs (x5 + 1).toNatClampNeg) (xs (x5 + 2).toNatClampNeg) (xs (x5 + 3).toNatClampNeg)
  refine zl_st R hct 1 2532 [some (.inl (.ref b)), some (.inr (12, 0)), some (.inr (13, 0)), some (.inr (32, 0)), some (.inr (33, 0)), some (.inl (.int x5)), none, none, none] [.inr (12, 0)] m rfl ⟨trivial, trivial⟩ ?_
  refine zl_arg R hct 1 rfl rfl rfl ⟨trivial, trivial, trivial, trivial⟩ rfl (hin 1 (by decide)) ?_
  refine zl_arg R hct 2 rfl rfl rfl ⟨trivial, trivial, trivial, trivial⟩ rfl (hin 2 (by decide)) ?_
  refine zl_arg R hct 3 rfl rfl rfl ⟨trivial, trivial, trivial, trivial⟩ rfl (hin 3 (by decide)) ?_
  refine zl_st R hct 1 2551 [some (.inl (.ref b)), some (.inr (12, 0)), some (.inr (13, 0)), some (.inr (32, 0)), some (.inr (33, 0)), some (.inl (.int x5)), none, none, none] [.inr (32, 0), .inl (.int (xs (x5 + 3).toNatClampNeg)), .inl (.int (xs (x5 + 2).toNatClampNeg)), .inl (.int (xs (x5 + 1).toNatClampNeg)), .inr (12, 0)] m rfl ⟨trivial, trivial⟩ ?_
  refine zl_call R hcc (d := 5) (k1 := 3) (k2 := k) (by decide) rfl r_L_sees (w_L_sees 0 0 (xs (x5 + 1).toNatClampNeg) (xs (x5 + 2).toNatClampNeg) (xs (x5 + 3).toNatClampNeg) m (k0, m1) hX) ?_
  refine zl_st R hct 2 2557 [some (.inl (.ref b)), some (.inr (12, 0)), some (.inr (13, 0)), some (.inr (32, 0)), some (.inr (33, 0)), some (.inl (.int x5)), some (.inl (.int k0)), none, none] [.inr (13, 0)] m1 rfl ⟨trivial, trivial, trivial⟩ ?_
  refine zl_arg R hct 1 rfl rfl rfl ⟨trivial, trivial, trivial, trivial⟩ rfl (hin 1 (by decide)) ?_
  refine zl_arg R hct 2 rfl rfl rfl ⟨trivial, trivial, trivial, trivial⟩ rfl (hin 2 (by decide)) ?_
  refine zl_arg R hct 3 rfl rfl rfl ⟨trivial, trivial, trivial, trivial⟩ rfl (hin 3 (by decide)) ?_
  refine zl_call0 R hcc (d := 5) (by decide) rfl (r_X12_sees (Nat.le_of_ble_eq_true rfl)) (w_X12_sees 0 0 (xs (x5 + 1).toNatClampNeg) (xs (x5 + 2).toNatClampNeg) (xs (x5 + 3).toNatClampNeg) m1 (b0, m2) hY) ?_
  refine zl_st R hct 2 2581 [some (.inl (.ref b)), some (.inr (12, 0)), some (.inr (13, 0)), some (.inr (32, 0)), some (.inr (33, 0)), some (.inl (.int x5)), some (.inl (.int k0)), some (.inl (.int (z_bi b0))), none] [.inr (13, 0)] m2 rfl ⟨trivial, trivial, trivial⟩ ?_
  refine zl_call0 R hcc (d := 1) (by decide) rfl (r_X12_thrown (Nat.le_of_ble_eq_true rfl)) (w_X12_thrown 0 0 m2 (m2.1 13 0 0) rfl) ?_
  refine zl_st R hct 1 2586 [some (.inl (.ref b)), some (.inr (12, 0)), some (.inr (13, 0)), some (.inr (32, 0)), some (.inr (33, 0)), some (.inl (.int x5)), some (.inl (.int k0)), some (.inl (.int (z_bi b0))), none] [.inl (.int k0), .inl (.int (m2.1 13 0 0))] m2 rfl ⟨trivial, trivial⟩ ?_
  refine zl_br R hct rfl (fun _ => ?_) (fun cq => absurd hk cq)
  refine zl_st R hct 1 2593 [some (.inl (.ref b)), some (.inr (12, 0)), some (.inr (13, 0)), some (.inr (32, 0)), some (.inr (33, 0)), some (.inl (.int x5)), some (.inl (.int k0)), some (.inl (.int (z_bi b0))), none] [.inl (.int k0)] m2 rfl ⟨trivial, trivial⟩ ?_
  refine zl_br R hct rfl (fun c0 => ?_) (fun _ => ?_)
  · refine zl_st R hct 4 2601 [some (.inl (.ref b)), some (.inr (12, 0)), some (.inr (13, 0)), some (.inr (32, 0)), some (.inr (33, 0)), some (.inl (.int x5)), some (.inl (.int k0)), some (.inl (.int (z_bi b0))), none] [.inl (.int (z_bi b0)), .inl (.long (m2.2.1 32 0 0))] m2 rfl ⟨trivial, trivial, ⟨(Nat.le_of_ble_eq_true rfl), by unfold vp_in; decide⟩, trivial, trivial⟩ ?_
    cases b0 with
    | true =>
      refine zl_br R hct rfl (fun cq => absurd cq (show ¬ z_bi true = 0 by decide)) (fun _ => ?_)
      refine zl_st R hct 3 2610 [some (.inl (.ref b)), some (.inr (12, 0)), some (.inr (13, 0)), some (.inr (32, 0)), some (.inr (33, 0)), some (.inl (.int x5)), some (.inl (.int k0)), some (.inl (.int (z_bi true))), none] [.inl (.int (lg_cmp (m2.2.1 32 0 0) 1))] m2 rfl ⟨trivial, trivial, trivial, trivial⟩ ?_
      refine zl_br R hct rfl (fun _ => ?_) (fun cq => absurd (by rw [hb c0]; exact z_cmp_self _) cq)
      refine zl_st R hct 1 3192 [some (.inl (.ref b)), some (.inr (12, 0)), some (.inr (13, 0)), some (.inr (32, 0)), some (.inr (33, 0)), some (.inl (.int x5)), some (.inl (.int k0)), some (.inl (.int (z_bi true))), none] [] m2 rfl ⟨trivial, trivial⟩ ?_
      exact zl_mask R [true, true, true, true, true, true, false, false, false] rfl (kk _ I2)
    | false =>
      refine zl_br R hct rfl (fun _ => ?_) (fun cq => absurd (show z_bi false = 0 from rfl) cq)
      refine zl_st R hct 2 2610 [some (.inl (.ref b)), some (.inr (12, 0)), some (.inr (13, 0)), some (.inr (32, 0)), some (.inr (33, 0)), some (.inl (.int x5)), some (.inl (.int k0)), some (.inl (.int (z_bi false))), none] [.inl (.int (lg_cmp (m2.2.1 32 0 0) 0))] m2 rfl ⟨trivial, trivial, trivial⟩ ?_
      refine zl_br R hct rfl (fun _ => ?_) (fun cq => absurd (by rw [hb c0]; exact z_cmp_self _) cq)
      refine zl_st R hct 1 3192 [some (.inl (.ref b)), some (.inr (12, 0)), some (.inr (13, 0)), some (.inr (32, 0)), some (.inr (33, 0)), some (.inl (.int x5)), some (.inl (.int k0)), some (.inl (.int (z_bi false))), none] [] m2 rfl ⟨trivial, trivial⟩ ?_
      exact zl_mask R [true, true, true, true, true, true, false, false, false] rfl (kk _ I2)
  · refine zl_st R hct 1 3192 [some (.inl (.ref b)), some (.inr (12, 0)), some (.inr (13, 0)), some (.inr (32, 0)), some (.inr (33, 0)), some (.inl (.int x5)), some (.inl (.int k0)), some (.inl (.int (z_bi b0))), none] [] m2 rfl ⟨trivial, trivial⟩ ?_
    exact zl_mask R [true, true, true, true, true, true, false, false, false] rfl (kk _ I2)
theorem lw_c37 {xs : Nat → Int32} {L b : Nat} {G : Nat → Nat → zL → List zA → zM → Prop} (R : zLw xs L b G) {x5 : Int32} (hin : ∀ K : Int32, (K = 1 ∨ K = 2 ∨ K = 3) → vp_in (x5 + K) L) {k : Nat} {m : zM} (I : zInv m) (kk : ∀ m', zInv m' → G k 3192 (lwL b x5) [] m') : G (3 + k) 2618 (lwL b x5) [] m := by
  have hct : z_okT 0 code tW37 = true := oT37
  have hcc : z_okC 0 code z_MT tW37 = true := oC37
  obtain ⟨k0, m1, b0, m2, hX, hY, hk, hb, I2⟩ := t_viewshed I (xs (x5 + 1).toNatClampNeg) (xs (x5 + 2).toNatClampNeg)
  refine zl_st R hct 1 2619 [some (.inl (.ref b)), some (.inr (12, 0)), some (.inr (13, 0)), some (.inr (32, 0)), some (.inr (33, 0)), some (.inl (.int x5)), none, none, none] [.inr (12, 0)] m rfl ⟨trivial, trivial⟩ ?_
  refine zl_arg R hct 1 rfl rfl rfl ⟨trivial, trivial, trivial, trivial⟩ rfl (hin 1 (by decide)) ?_
  refine zl_arg R hct 2 rfl rfl rfl ⟨trivial, trivial, trivial, trivial⟩ rfl (hin 2 (by decide)) ?_
  refine zl_st R hct 1 2632 [some (.inl (.ref b)), some (.inr (12, 0)), some (.inr (13, 0)), some (.inr (32, 0)), some (.inr (33, 0)), some (.inl (.int x5)), none, none, none] [.inr (32, 0), .inl (.int (xs (x5 + 2).toNatClampNeg)), .inl (.int (xs (x5 + 1).toNatClampNeg)), .inr (12, 0)] m rfl ⟨trivial, trivial⟩ ?_
  refine zl_call R hcc (d := 5) (k1 := 3) (k2 := k) (by decide) rfl r_L_viewshed (w_L_viewshed 0 1 (xs (x5 + 1).toNatClampNeg) (xs (x5 + 2).toNatClampNeg) m (k0, m1) hX) ?_
  refine zl_st R hct 2 2638 [some (.inl (.ref b)), some (.inr (12, 0)), some (.inr (13, 0)), some (.inr (32, 0)), some (.inr (33, 0)), some (.inl (.int x5)), some (.inl (.int k0)), none, none] [.inr (13, 0)] m1 rfl ⟨trivial, trivial, trivial⟩ ?_
  refine zl_arg R hct 1 rfl rfl rfl ⟨trivial, trivial, trivial, trivial⟩ rfl (hin 1 (by decide)) ?_
  refine zl_arg R hct 2 rfl rfl rfl ⟨trivial, trivial, trivial, trivial⟩ rfl (hin 2 (by decide)) ?_
  refine zl_call0 R hcc (d := 5) (by decide) rfl (r_X12_viewshed (Nat.le_of_ble_eq_true rfl)) (w_X12_viewshed 0 0 (xs (x5 + 1).toNatClampNeg) (xs (x5 + 2).toNatClampNeg) m1 (b0, m2) hY) ?_
  refine zl_st R hct 2 2656 [some (.inl (.ref b)), some (.inr (12, 0)), some (.inr (13, 0)), some (.inr (32, 0)), some (.inr (33, 0)), some (.inl (.int x5)), some (.inl (.int k0)), some (.inl (.long b0)), none] [.inr (13, 0)] m2 rfl ⟨trivial, trivial, trivial⟩ ?_
  refine zl_call0 R hcc (d := 1) (by decide) rfl (r_X12_thrown (Nat.le_of_ble_eq_true rfl)) (w_X12_thrown 0 0 m2 (m2.1 13 0 0) rfl) ?_
  refine zl_st R hct 1 2661 [some (.inl (.ref b)), some (.inr (12, 0)), some (.inr (13, 0)), some (.inr (32, 0)), some (.inr (33, 0)), some (.inl (.int x5)), some (.inl (.int k0)), some (.inl (.long b0)), none] [.inl (.int k0), .inl (.int (m2.1 13 0 0))] m2 rfl ⟨trivial, trivial⟩ ?_
  refine zl_br R hct rfl (fun _ => ?_) (fun cq => absurd hk cq)
  refine zl_st R hct 1 2668 [some (.inl (.ref b)), some (.inr (12, 0)), some (.inr (13, 0)), some (.inr (32, 0)), some (.inr (33, 0)), some (.inl (.int x5)), some (.inl (.int k0)), some (.inl (.long b0)), none] [.inl (.int k0)] m2 rfl ⟨trivial, trivial⟩ ?_
  refine zl_br R hct rfl (fun c0 => ?_) (fun _ => ?_)
  · refine zl_st R hct 5 2677 [some (.inl (.ref b)), some (.inr (12, 0)), some (.inr (13, 0)), some (.inr (32, 0)), some (.inr (33, 0)), some (.inl (.int x5)), some (.inl (.int k0)), some (.inl (.long b0)), none] [.inl (.int (lg_cmp (m2.2.1 32 0 0) b0))] m2 rfl ⟨trivial, trivial, ⟨(Nat.le_of_ble_eq_true rfl), by unfold vp_in; decide⟩, trivial, trivial, trivial⟩ ?_
    refine zl_br R hct rfl (fun _ => ?_) (fun cq => absurd (by rw [hb c0]; exact z_cmp_self _) cq)
    refine zl_st R hct 1 3192 [some (.inl (.ref b)), some (.inr (12, 0)), some (.inr (13, 0)), some (.inr (32, 0)), some (.inr (33, 0)), some (.inl (.int x5)), some (.inl (.int k0)), some (.inl (.long b0)), none] [] m2 rfl ⟨trivial, trivial⟩ ?_
    exact zl_mask R [true, true, true, true, true, true, false, false, false] rfl (kk _ I2)
  · refine zl_st R hct 1 3192 [some (.inl (.ref b)), some (.inr (12, 0)), some (.inr (13, 0)), some (.inr (32, 0)), some (.inr (33, 0)), some (.inl (.int x5)), some (.inl (.int k0)), some (.inl (.long b0)), none] [] m2 rfl ⟨trivial, trivial⟩ ?_
    exact zl_mask R [true, true, true, true, true, true, false, false, false] rfl (kk _ I2)
theorem lw_c38 {xs : Nat → Int32} {L b : Nat} {G : Nat → Nat → zL → List zA → zM → Prop} (R : zLw xs L b G) {x5 : Int32} (hin : ∀ K : Int32, (K = 1 ∨ K = 2 ∨ K = 3) → vp_in (x5 + K) L) {k : Nat} {m : zM} (I : zInv m) (kk : ∀ m', zInv m' → G k 3192 (lwL b x5) [] m') : G (3 + k) 2685 (lwL b x5) [] m := by
  have hct : z_okT 0 code tW38 = true := oT38
  have hcc : z_okC 0 code z_MT tW38 = true := oC38
  obtain ⟨k0, m1, b0, m2, hX, hY, hk, hb, I2⟩ := t_depthsIf I (xs (x5 + 1).toNatClampNeg) (xs (x5 + 2).toNatClampNeg)
  refine zl_st R hct 1 2686 [some (.inl (.ref b)), some (.inr (12, 0)), some (.inr (13, 0)), some (.inr (32, 0)), some (.inr (33, 0)), some (.inl (.int x5)), none, none, none] [.inr (12, 0)] m rfl ⟨trivial, trivial⟩ ?_
  refine zl_arg R hct 1 rfl rfl rfl ⟨trivial, trivial, trivial, trivial⟩ rfl (hin 1 (by decide)) ?_
  refine zl_arg R hct 2 rfl rfl rfl ⟨trivial, trivial, trivial, trivial⟩ rfl (hin 2 (by decide)) ?_
  refine zl_st R hct 1 2699 [some (.inl (.ref b)), some (.inr (12, 0)), some (.inr (13, 0)), some (.inr (32, 0)), some (.inr (33, 0)), some (.inl (.int x5)), none, none, none] [.inr (32, 0), .inl (.int (xs (x5 + 2).toNatClampNeg)), .inl (.int (xs (x5 + 1).toNatClampNeg)), .inr (12, 0)] m rfl ⟨trivial, trivial⟩ ?_
  refine zl_call R hcc (d := 6) (k1 := 3) (k2 := k) (by decide) rfl r_L_depthsIf (w_L_depthsIf 0 1 (xs (x5 + 1).toNatClampNeg) (xs (x5 + 2).toNatClampNeg) m (k0, m1) hX) ?_
  refine zl_st R hct 2 2705 [some (.inl (.ref b)), some (.inr (12, 0)), some (.inr (13, 0)), some (.inr (32, 0)), some (.inr (33, 0)), some (.inl (.int x5)), some (.inl (.int k0)), none, none] [.inr (13, 0)] m1 rfl ⟨trivial, trivial, trivial⟩ ?_
  refine zl_arg R hct 1 rfl rfl rfl ⟨trivial, trivial, trivial, trivial⟩ rfl (hin 1 (by decide)) ?_
  refine zl_arg R hct 2 rfl rfl rfl ⟨trivial, trivial, trivial, trivial⟩ rfl (hin 2 (by decide)) ?_
  refine zl_call0 R hcc (d := 4) (by decide) rfl (r_X12_depthsIf (Nat.le_of_ble_eq_true rfl)) (w_X12_depthsIf 0 0 (xs (x5 + 1).toNatClampNeg) (xs (x5 + 2).toNatClampNeg) m1 (b0, m2) hY) ?_
  refine zl_st R hct 2 2723 [some (.inl (.ref b)), some (.inr (12, 0)), some (.inr (13, 0)), some (.inr (32, 0)), some (.inr (33, 0)), some (.inl (.int x5)), some (.inl (.int k0)), some (.inl (.int b0)), none] [.inr (13, 0)] m2 rfl ⟨trivial, trivial, trivial⟩ ?_
  refine zl_call0 R hcc (d := 1) (by decide) rfl (r_X12_thrown (Nat.le_of_ble_eq_true rfl)) (w_X12_thrown 0 0 m2 (m2.1 13 0 0) rfl) ?_
  refine zl_st R hct 1 2728 [some (.inl (.ref b)), some (.inr (12, 0)), some (.inr (13, 0)), some (.inr (32, 0)), some (.inr (33, 0)), some (.inl (.int x5)), some (.inl (.int k0)), some (.inl (.int b0)), none] [.inl (.int k0), .inl (.int (m2.1 13 0 0))] m2 rfl ⟨trivial, trivial⟩ ?_
  refine zl_br R hct rfl (fun _ => ?_) (fun cq => absurd hk cq)
  refine zl_st R hct 1 2735 [some (.inl (.ref b)), some (.inr (12, 0)), some (.inr (13, 0)), some (.inr (32, 0)), some (.inr (33, 0)), some (.inl (.int x5)), some (.inl (.int k0)), some (.inl (.int b0)), none] [.inl (.int k0)] m2 rfl ⟨trivial, trivial⟩ ?_
  refine zl_br R hct rfl (fun c0 => ?_) (fun _ => ?_)
  · refine zl_st R hct 6 2745 [some (.inl (.ref b)), some (.inr (12, 0)), some (.inr (13, 0)), some (.inr (32, 0)), some (.inr (33, 0)), some (.inl (.int x5)), some (.inl (.int k0)), some (.inl (.int b0)), none] [.inl (.int (lg_cmp (m2.2.1 32 0 0) (Int32.toInt64 b0)))] m2 rfl ⟨trivial, trivial, ⟨(Nat.le_of_ble_eq_true rfl), by unfold vp_in; decide⟩, trivial, trivial, trivial, trivial⟩ ?_
    refine zl_br R hct rfl (fun _ => ?_) (fun cq => absurd (by rw [hb c0]; exact z_cmp_self _) cq)
    refine zl_st R hct 1 3192 [some (.inl (.ref b)), some (.inr (12, 0)), some (.inr (13, 0)), some (.inr (32, 0)), some (.inr (33, 0)), some (.inl (.int x5)), some (.inl (.int k0)), some (.inl (.int b0)), none] [] m2 rfl ⟨trivial, trivial⟩ ?_
    exact zl_mask R [true, true, true, true, true, true, false, false, false] rfl (kk _ I2)
  · refine zl_st R hct 1 3192 [some (.inl (.ref b)), some (.inr (12, 0)), some (.inr (13, 0)), some (.inr (32, 0)), some (.inr (33, 0)), some (.inl (.int x5)), some (.inl (.int k0)), some (.inl (.int b0)), none] [] m2 rfl ⟨trivial, trivial⟩ ?_
    exact zl_mask R [true, true, true, true, true, true, false, false, false] rfl (kk _ I2)
theorem lw_c39 {xs : Nat → Int32} {L b : Nat} {G : Nat → Nat → zL → List zA → zM → Prop} (R : zLw xs L b G) {x5 : Int32} (hin : ∀ K : Int32, (K = 1 ∨ K = 2 ∨ K = 3) → vp_in (x5 + K) L) {k : Nat} {m : zM} (I : zInv m) (kk : ∀ m', zInv m' → G k 3192 (lwL b x5) [] m') : G (3 + k) 2753 (lwL b x5) [] m := by
  have hct : z_okT 0 code tW39 = true := oT39
  have hcc : z_okC 0 code z_MT tW39 = true := oC39
  obtain ⟨k0, m1, b0, m2, hX, hY, hk, hb, I2⟩ := t_leavingIf I (xs (x5 + 1).toNatClampNeg) (xs (x5 + 2).toNatClampNeg)
  refine zl_st R hct 1 2754 [some (.inl (.ref b)), some (.inr (12, 0)), some (.inr (13, 0)), some (.inr (32, 0)), some (.inr (33, 0)), some (.inl (.int x5)), none, none, none] [.inr (12, 0)] m rfl ⟨trivial, trivial⟩ ?_
  refine zl_arg R hct 1 rfl rfl rfl ⟨trivial, trivial, trivial, trivial⟩ rfl (hin 1 (by decide)) ?_
  refine zl_arg R hct 2 rfl rfl rfl ⟨trivial, trivial, trivial, trivial⟩ rfl (hin 2 (by decide)) ?_
  refine zl_st R hct 1 2767 [some (.inl (.ref b)), some (.inr (12, 0)), some (.inr (13, 0)), some (.inr (32, 0)), some (.inr (33, 0)), some (.inl (.int x5)), none, none, none] [.inr (32, 0), .inl (.int (xs (x5 + 2).toNatClampNeg)), .inl (.int (xs (x5 + 1).toNatClampNeg)), .inr (12, 0)] m rfl ⟨trivial, trivial⟩ ?_
  refine zl_call R hcc (d := 8) (k1 := 3) (k2 := k) (by decide) rfl r_L_leavingIf (w_L_leavingIf 0 1 (xs (x5 + 1).toNatClampNeg) (xs (x5 + 2).toNatClampNeg) m (k0, m1) hX) ?_
  refine zl_st R hct 2 2773 [some (.inl (.ref b)), some (.inr (12, 0)), some (.inr (13, 0)), some (.inr (32, 0)), some (.inr (33, 0)), some (.inl (.int x5)), some (.inl (.int k0)), none, none] [.inr (13, 0)] m1 rfl ⟨trivial, trivial, trivial⟩ ?_
  refine zl_arg R hct 1 rfl rfl rfl ⟨trivial, trivial, trivial, trivial⟩ rfl (hin 1 (by decide)) ?_
  refine zl_arg R hct 2 rfl rfl rfl ⟨trivial, trivial, trivial, trivial⟩ rfl (hin 2 (by decide)) ?_
  refine zl_call0 R hcc (d := 6) (by decide) rfl (r_X12_leavingIf (Nat.le_of_ble_eq_true rfl)) (w_X12_leavingIf 0 0 (xs (x5 + 1).toNatClampNeg) (xs (x5 + 2).toNatClampNeg) m1 (b0, m2) hY) ?_
  refine zl_st R hct 2 2791 [some (.inl (.ref b)), some (.inr (12, 0)), some (.inr (13, 0)), some (.inr (32, 0)), some (.inr (33, 0)), some (.inl (.int x5)), some (.inl (.int k0)), some (.inl (.int b0)), none] [.inr (13, 0)] m2 rfl ⟨trivial, trivial, trivial⟩ ?_
  refine zl_call0 R hcc (d := 1) (by decide) rfl (r_X12_thrown (Nat.le_of_ble_eq_true rfl)) (w_X12_thrown 0 0 m2 (m2.1 13 0 0) rfl) ?_
  refine zl_st R hct 1 2796 [some (.inl (.ref b)), some (.inr (12, 0)), some (.inr (13, 0)), some (.inr (32, 0)), some (.inr (33, 0)), some (.inl (.int x5)), some (.inl (.int k0)), some (.inl (.int b0)), none] [.inl (.int k0), .inl (.int (m2.1 13 0 0))] m2 rfl ⟨trivial, trivial⟩ ?_
  refine zl_br R hct rfl (fun _ => ?_) (fun cq => absurd hk cq)
  refine zl_st R hct 1 2803 [some (.inl (.ref b)), some (.inr (12, 0)), some (.inr (13, 0)), some (.inr (32, 0)), some (.inr (33, 0)), some (.inl (.int x5)), some (.inl (.int k0)), some (.inl (.int b0)), none] [.inl (.int k0)] m2 rfl ⟨trivial, trivial⟩ ?_
  refine zl_br R hct rfl (fun c0 => ?_) (fun _ => ?_)
  · refine zl_st R hct 6 2813 [some (.inl (.ref b)), some (.inr (12, 0)), some (.inr (13, 0)), some (.inr (32, 0)), some (.inr (33, 0)), some (.inl (.int x5)), some (.inl (.int k0)), some (.inl (.int b0)), none] [.inl (.int (lg_cmp (m2.2.1 32 0 0) (Int32.toInt64 b0)))] m2 rfl ⟨trivial, trivial, ⟨(Nat.le_of_ble_eq_true rfl), by unfold vp_in; decide⟩, trivial, trivial, trivial, trivial⟩ ?_
    refine zl_br R hct rfl (fun _ => ?_) (fun cq => absurd (by rw [hb c0]; exact z_cmp_self _) cq)
    refine zl_st R hct 1 3192 [some (.inl (.ref b)), some (.inr (12, 0)), some (.inr (13, 0)), some (.inr (32, 0)), some (.inr (33, 0)), some (.inl (.int x5)), some (.inl (.int k0)), some (.inl (.int b0)), none] [] m2 rfl ⟨trivial, trivial⟩ ?_
    exact zl_mask R [true, true, true, true, true, true, false, false, false] rfl (kk _ I2)
  · refine zl_st R hct 1 3192 [some (.inl (.ref b)), some (.inr (12, 0)), some (.inr (13, 0)), some (.inr (32, 0)), some (.inr (33, 0)), some (.inl (.int x5)), some (.inl (.int k0)), some (.inl (.int b0)), none] [] m2 rfl ⟨trivial, trivial⟩ ?_
    exact zl_mask R [true, true, true, true, true, true, false, false, false] rfl (kk _ I2)
theorem lw_c40 {xs : Nat → Int32} {L b : Nat} {G : Nat → Nat → zL → List zA → zM → Prop} (R : zLw xs L b G) {x5 : Int32} (hin : ∀ K : Int32, (K = 1 ∨ K = 2 ∨ K = 3) → vp_in (x5 + K) L) {k : Nat} {m : zM} (I : zInv m) (kk : ∀ m', zInv m' → G k 3192 (lwL b x5) [] m') : G (3 + k) 2821 (lwL b x5) [] m := by
  have hct : z_okT 0 code tW40 = true := oT40
  have hcc : z_okC 0 code z_MT tW40 = true := oC40
  obtain ⟨k0, m1, b0, m2, hX, hY, hk, hb, I2⟩ := t_mouthIf I (xs (x5 + 1).toNatClampNeg) (xs (x5 + 2).toNatClampNeg)
  refine zl_st R hct 1 2822 [some (.inl (.ref b)), some (.inr (12, 0)), some (.inr (13, 0)), some (.inr (32, 0)), some (.inr (33, 0)), some (.inl (.int x5)), none, none, none] [.inr (12, 0)] m rfl ⟨trivial, trivial⟩ ?_
  refine zl_arg R hct 1 rfl rfl rfl ⟨trivial, trivial, trivial, trivial⟩ rfl (hin 1 (by decide)) ?_
  refine zl_arg R hct 2 rfl rfl rfl ⟨trivial, trivial, trivial, trivial⟩ rfl (hin 2 (by decide)) ?_
  refine zl_st R hct 1 2835 [some (.inl (.ref b)), some (.inr (12, 0)), some (.inr (13, 0)), some (.inr (32, 0)), some (.inr (33, 0)), some (.inl (.int x5)), none, none, none] [.inr (32, 0), .inl (.int (xs (x5 + 2).toNatClampNeg)), .inl (.int (xs (x5 + 1).toNatClampNeg)), .inr (12, 0)] m rfl ⟨trivial, trivial⟩ ?_
  refine zl_call R hcc (d := 8) (k1 := 3) (k2 := k) (by decide) rfl r_L_mouthIf (w_L_mouthIf 0 1 (xs (x5 + 1).toNatClampNeg) (xs (x5 + 2).toNatClampNeg) m (k0, m1) hX) ?_
  refine zl_st R hct 2 2841 [some (.inl (.ref b)), some (.inr (12, 0)), some (.inr (13, 0)), some (.inr (32, 0)), some (.inr (33, 0)), some (.inl (.int x5)), some (.inl (.int k0)), none, none] [.inr (13, 0)] m1 rfl ⟨trivial, trivial, trivial⟩ ?_
  refine zl_arg R hct 1 rfl rfl rfl ⟨trivial, trivial, trivial, trivial⟩ rfl (hin 1 (by decide)) ?_
  refine zl_arg R hct 2 rfl rfl rfl ⟨trivial, trivial, trivial, trivial⟩ rfl (hin 2 (by decide)) ?_
  refine zl_call0 R hcc (d := 4) (by decide) rfl (r_X12_mouthIf (Nat.le_of_ble_eq_true rfl)) (w_X12_mouthIf 0 0 (xs (x5 + 1).toNatClampNeg) (xs (x5 + 2).toNatClampNeg) m1 (b0, m2) hY) ?_
  refine zl_st R hct 2 2859 [some (.inl (.ref b)), some (.inr (12, 0)), some (.inr (13, 0)), some (.inr (32, 0)), some (.inr (33, 0)), some (.inl (.int x5)), some (.inl (.int k0)), some (.inl (.int b0)), none] [.inr (13, 0)] m2 rfl ⟨trivial, trivial, trivial⟩ ?_
  refine zl_call0 R hcc (d := 1) (by decide) rfl (r_X12_thrown (Nat.le_of_ble_eq_true rfl)) (w_X12_thrown 0 0 m2 (m2.1 13 0 0) rfl) ?_
  refine zl_st R hct 1 2864 [some (.inl (.ref b)), some (.inr (12, 0)), some (.inr (13, 0)), some (.inr (32, 0)), some (.inr (33, 0)), some (.inl (.int x5)), some (.inl (.int k0)), some (.inl (.int b0)), none] [.inl (.int k0), .inl (.int (m2.1 13 0 0))] m2 rfl ⟨trivial, trivial⟩ ?_
  refine zl_br R hct rfl (fun _ => ?_) (fun cq => absurd hk cq)
  refine zl_st R hct 1 2871 [some (.inl (.ref b)), some (.inr (12, 0)), some (.inr (13, 0)), some (.inr (32, 0)), some (.inr (33, 0)), some (.inl (.int x5)), some (.inl (.int k0)), some (.inl (.int b0)), none] [.inl (.int k0)] m2 rfl ⟨trivial, trivial⟩ ?_
  refine zl_br R hct rfl (fun c0 => ?_) (fun _ => ?_)
  · refine zl_st R hct 6 2881 [some (.inl (.ref b)), some (.inr (12, 0)), some (.inr (13, 0)), some (.inr (32, 0)), some (.inr (33, 0)), some (.inl (.int x5)), some (.inl (.int k0)), some (.inl (.int b0)), none] [.inl (.int (lg_cmp (m2.2.1 32 0 0) (Int32.toInt64 b0)))] m2 rfl ⟨trivial, trivial, ⟨(Nat.le_of_ble_eq_true rfl), by unfold vp_in; decide⟩, trivial, trivial, trivial, trivial⟩ ?_
    refine zl_br R hct rfl (fun _ => ?_) (fun cq => absurd (by rw [hb c0]; exact z_cmp_self _) cq)
    refine zl_st R hct 1 3192 [some (.inl (.ref b)), some (.inr (12, 0)), some (.inr (13, 0)), some (.inr (32, 0)), some (.inr (33, 0)), some (.inl (.int x5)), some (.inl (.int k0)), some (.inl (.int b0)), none] [] m2 rfl ⟨trivial, trivial⟩ ?_
    exact zl_mask R [true, true, true, true, true, true, false, false, false] rfl (kk _ I2)
  · refine zl_st R hct 1 3192 [some (.inl (.ref b)), some (.inr (12, 0)), some (.inr (13, 0)), some (.inr (32, 0)), some (.inr (33, 0)), some (.inl (.int x5)), some (.inl (.int k0)), some (.inl (.int b0)), none] [] m2 rfl ⟨trivial, trivial⟩ ?_
    exact zl_mask R [true, true, true, true, true, true, false, false, false] rfl (kk _ I2)
theorem lw_c41 {xs : Nat → Int32} {L b : Nat} {G : Nat → Nat → zL → List zA → zM → Prop} (R : zLw xs L b G) {x5 : Int32} (hin : ∀ K : Int32, (K = 1 ∨ K = 2 ∨ K = 3) → vp_in (x5 + K) L) {k : Nat} {m : zM} (I : zInv m) (kk : ∀ m', zInv m' → G k 3192 (lwL b x5) [] m') : G (3 + k) 2889 (lwL b x5) [] m := by
  have hct : z_okT 0 code tW41 = true := oT41
  have hcc : z_okC 0 code z_MT tW41 = true := oC41
  obtain ⟨k0, m1, b0, m2, hX, hY, hk, hb, I2⟩ := t_append I (z_i2c (xs (x5 + 1).toNatClampNeg))
  refine zl_st R hct 1 2890 [some (.inl (.ref b)), some (.inr (12, 0)), some (.inr (13, 0)), some (.inr (32, 0)), some (.inr (33, 0)), some (.inl (.int x5)), none, none, none] [.inr (12, 0)] m rfl ⟨trivial, trivial⟩ ?_
  refine zl_arg R hct 1 rfl rfl rfl ⟨trivial, trivial, trivial, trivial⟩ rfl (hin 1 (by decide)) ?_
  refine zl_st R hct 1 2897 [some (.inl (.ref b)), some (.inr (12, 0)), some (.inr (13, 0)), some (.inr (32, 0)), some (.inr (33, 0)), some (.inl (.int x5)), none, none, none] [.inl (.int (z_i2c (xs (x5 + 1).toNatClampNeg))), .inr (12, 0)] m rfl ⟨trivial, trivial⟩ ?_
  refine zl_st R hct 1 2898 [some (.inl (.ref b)), some (.inr (12, 0)), some (.inr (13, 0)), some (.inr (32, 0)), some (.inr (33, 0)), some (.inl (.int x5)), none, none, none] [.inr (32, 0), .inl (.int (z_i2c (xs (x5 + 1).toNatClampNeg))), .inr (12, 0)] m rfl ⟨trivial, trivial⟩ ?_
  refine zl_call R hcc (d := 3) (k1 := 3) (k2 := k) (by decide) rfl r_L_append (w_L_append 0 1 (z_i2c (xs (x5 + 1).toNatClampNeg)) m (k0, m1) hX) ?_
  refine zl_st R hct 2 2904 [some (.inl (.ref b)), some (.inr (12, 0)), some (.inr (13, 0)), some (.inr (32, 0)), some (.inr (33, 0)), some (.inl (.int x5)), some (.inl (.int k0)), none, none] [.inr (13, 0)] m1 rfl ⟨trivial, trivial, trivial⟩ ?_
  refine zl_arg R hct 1 rfl rfl rfl ⟨trivial, trivial, trivial, trivial⟩ rfl (hin 1 (by decide)) ?_
  refine zl_st R hct 1 2911 [some (.inl (.ref b)), some (.inr (12, 0)), some (.inr (13, 0)), some (.inr (32, 0)), some (.inr (33, 0)), some (.inl (.int x5)), some (.inl (.int k0)), none, none] [.inl (.int (z_i2c (xs (x5 + 1).toNatClampNeg))), .inr (13, 0)] m1 rfl ⟨trivial, trivial⟩ ?_
  refine zl_call0 R hcc (d := 2) (by decide) rfl (r_X12_append (Nat.le_of_ble_eq_true rfl)) (w_X12_append 0 0 (z_i2c (xs (x5 + 1).toNatClampNeg)) m1 (b0, m2) hY) ?_
  refine zl_st R hct 2 2917 [some (.inl (.ref b)), some (.inr (12, 0)), some (.inr (13, 0)), some (.inr (32, 0)), some (.inr (33, 0)), some (.inl (.int x5)), some (.inl (.int k0)), some (.inl (.int b0)), none] [.inr (13, 0)] m2 rfl ⟨trivial, trivial, trivial⟩ ?_
  refine zl_call0 R hcc (d := 1) (by decide) rfl (r_X12_thrown (Nat.le_of_ble_eq_true rfl)) (w_X12_thrown 0 0 m2 (m2.1 13 0 0) rfl) ?_
  refine zl_st R hct 1 2922 [some (.inl (.ref b)), some (.inr (12, 0)), some (.inr (13, 0)), some (.inr (32, 0)), some (.inr (33, 0)), some (.inl (.int x5)), some (.inl (.int k0)), some (.inl (.int b0)), none] [.inl (.int k0), .inl (.int (m2.1 13 0 0))] m2 rfl ⟨trivial, trivial⟩ ?_
  refine zl_br R hct rfl (fun _ => ?_) (fun cq => absurd hk cq)
  refine zl_st R hct 1 2929 [some (.inl (.ref b)), some (.inr (12, 0)), some (.inr (13, 0)), some (.inr (32, 0)), some (.inr (33, 0)), some (.inl (.int x5)), some (.inl (.int k0)), some (.inl (.int b0)), none] [.inl (.int k0)] m2 rfl ⟨trivial, trivial⟩ ?_
  refine zl_br R hct rfl (fun c0 => ?_) (fun _ => ?_)
  · refine zl_st R hct 6 2939 [some (.inl (.ref b)), some (.inr (12, 0)), some (.inr (13, 0)), some (.inr (32, 0)), some (.inr (33, 0)), some (.inl (.int x5)), some (.inl (.int k0)), some (.inl (.int b0)), none] [.inl (.int (lg_cmp (m2.2.1 32 0 0) (Int32.toInt64 b0)))] m2 rfl ⟨trivial, trivial, ⟨(Nat.le_of_ble_eq_true rfl), by unfold vp_in; decide⟩, trivial, trivial, trivial, trivial⟩ ?_
    refine zl_br R hct rfl (fun _ => ?_) (fun cq => absurd (by rw [hb c0]; exact z_cmp_self _) cq)
    refine zl_st R hct 1 3192 [some (.inl (.ref b)), some (.inr (12, 0)), some (.inr (13, 0)), some (.inr (32, 0)), some (.inr (33, 0)), some (.inl (.int x5)), some (.inl (.int k0)), some (.inl (.int b0)), none] [] m2 rfl ⟨trivial, trivial⟩ ?_
    exact zl_mask R [true, true, true, true, true, true, false, false, false] rfl (kk _ I2)
  · refine zl_st R hct 1 3192 [some (.inl (.ref b)), some (.inr (12, 0)), some (.inr (13, 0)), some (.inr (32, 0)), some (.inr (33, 0)), some (.inl (.int x5)), some (.inl (.int k0)), some (.inl (.int b0)), none] [] m2 rfl ⟨trivial, trivial⟩ ?_
    exact zl_mask R [true, true, true, true, true, true, false, false, false] rfl (kk _ I2)
theorem lw_c42 {xs : Nat → Int32} {L b : Nat} {G : Nat → Nat → zL → List zA → zM → Prop} (R : zLw xs L b G) {x5 : Int32} (hin : ∀ K : Int32, (K = 1 ∨ K = 2 ∨ K = 3) → vp_in (x5 + K) L) {k : Nat} {m : zM} (I : zInv m) (kk : ∀ m', zInv m' → G k 3192 (lwL b x5) [] m') : G (3 + k) 2947 (lwL b x5) [] m := by
  have hct : z_okT 0 code tW42 = true := oT42
  have hcc : z_okC 0 code z_MT tW42 = true := oC42
  obtain ⟨k0, m1, b0, m2, hX, hY, hk, hb, I2⟩ := t_execute I 
  refine zl_st R hct 1 2948 [some (.inl (.ref b)), some (.inr (12, 0)), some (.inr (13, 0)), some (.inr (32, 0)), some (.inr (33, 0)), some (.inl (.int x5)), none, none, none] [.inr (12, 0)] m rfl ⟨trivial, trivial⟩ ?_
  refine zl_st R hct 1 2949 [some (.inl (.ref b)), some (.inr (12, 0)), some (.inr (13, 0)), some (.inr (32, 0)), some (.inr (33, 0)), some (.inl (.int x5)), none, none, none] [.inr (32, 0), .inr (12, 0)] m rfl ⟨trivial, trivial⟩ ?_
  refine zl_call R hcc (d := 8) (k1 := 3) (k2 := k) (by decide) rfl r_L_execute (w_L_execute 0 2 m (k0, m1) hX) ?_
  refine zl_st R hct 2 2955 [some (.inl (.ref b)), some (.inr (12, 0)), some (.inr (13, 0)), some (.inr (32, 0)), some (.inr (33, 0)), some (.inl (.int x5)), some (.inl (.int k0)), none, none] [.inr (13, 0)] m1 rfl ⟨trivial, trivial, trivial⟩ ?_
  refine zl_call0 R hcc (d := 4) (by decide) rfl (r_X12_execute (Nat.le_of_ble_eq_true rfl)) (w_X12_execute 0 0 m1 (b0, m2) hY) ?_
  refine zl_st R hct 2 2961 [some (.inl (.ref b)), some (.inr (12, 0)), some (.inr (13, 0)), some (.inr (32, 0)), some (.inr (33, 0)), some (.inl (.int x5)), some (.inl (.int k0)), some (.inl (.int b0)), none] [.inr (13, 0)] m2 rfl ⟨trivial, trivial, trivial⟩ ?_
  refine zl_call0 R hcc (d := 1) (by decide) rfl (r_X12_thrown (Nat.le_of_ble_eq_true rfl)) (w_X12_thrown 0 0 m2 (m2.1 13 0 0) rfl) ?_
  refine zl_st R hct 1 2966 [some (.inl (.ref b)), some (.inr (12, 0)), some (.inr (13, 0)), some (.inr (32, 0)), some (.inr (33, 0)), some (.inl (.int x5)), some (.inl (.int k0)), some (.inl (.int b0)), none] [.inl (.int k0), .inl (.int (m2.1 13 0 0))] m2 rfl ⟨trivial, trivial⟩ ?_
  refine zl_br R hct rfl (fun _ => ?_) (fun cq => absurd hk cq)
  refine zl_st R hct 1 2973 [some (.inl (.ref b)), some (.inr (12, 0)), some (.inr (13, 0)), some (.inr (32, 0)), some (.inr (33, 0)), some (.inl (.int x5)), some (.inl (.int k0)), some (.inl (.int b0)), none] [.inl (.int k0)] m2 rfl ⟨trivial, trivial⟩ ?_
  refine zl_br R hct rfl (fun c0 => ?_) (fun _ => ?_)
  · refine zl_st R hct 6 2983 [some (.inl (.ref b)), some (.inr (12, 0)), some (.inr (13, 0)), some (.inr (32, 0)), some (.inr (33, 0)), some (.inl (.int x5)), some (.inl (.int k0)), some (.inl (.int b0)), none] [.inl (.int (lg_cmp (m2.2.1 32 0 0) (Int32.toInt64 b0)))] m2 rfl ⟨trivial, trivial, ⟨(Nat.le_of_ble_eq_true rfl), by unfold vp_in; decide⟩, trivial, trivial, trivial, trivial⟩ ?_
    refine zl_br R hct rfl (fun _ => ?_) (fun cq => absurd (by rw [hb c0]; exact z_cmp_self _) cq)
    refine zl_st R hct 1 3192 [some (.inl (.ref b)), some (.inr (12, 0)), some (.inr (13, 0)), some (.inr (32, 0)), some (.inr (33, 0)), some (.inl (.int x5)), some (.inl (.int k0)), some (.inl (.int b0)), none] [] m2 rfl ⟨trivial, trivial⟩ ?_
    exact zl_mask R [true, true, true, true, true, true, false, false, false] rfl (kk _ I2)
  · refine zl_st R hct 1 3192 [some (.inl (.ref b)), some (.inr (12, 0)), some (.inr (13, 0)), some (.inr (32, 0)), some (.inr (33, 0)), some (.inl (.int x5)), some (.inl (.int k0)), some (.inl (.int b0)), none] [] m2 rfl ⟨trivial, trivial⟩ ?_
    exact zl_mask R [true, true, true, true, true, true, false, false, false] rfl (kk _ I2)
theorem lw_c43 {xs : Nat → Int32} {L b : Nat} {G : Nat → Nat → zL → List zA → zM → Prop} (R : zLw xs L b G) {x5 : Int32} (hin : ∀ K : Int32, (K = 1 ∨ K = 2 ∨ K = 3) → vp_in (x5 + K) L) {k : Nat} {m : zM} (I : zInv m) (kk : ∀ m', zInv m' → G k 3192 (lwL b x5) [] m') : G (3 + k) 2991 (lwL b x5) [] m := by
  have hct : z_okT 0 code tW43 = true := oT43
  have hcc : z_okC 0 code z_MT tW43 = true := oC43
  obtain ⟨k0, m1, b0, m2, hX, hY, hk, hb, I2⟩ := t_errorPosition I 
  refine zl_st R hct 1 2992 [some (.inl (.ref b)), some (.inr (12, 0)), some (.inr (13, 0)), some (.inr (32, 0)), some (.inr (33, 0)), some (.inl (.int x5)), none, none, none] [.inr (12, 0)] m rfl ⟨trivial, trivial⟩ ?_
  refine zl_st R hct 1 2993 [some (.inl (.ref b)), some (.inr (12, 0)), some (.inr (13, 0)), some (.inr (32, 0)), some (.inr (33, 0)), some (.inl (.int x5)), none, none, none] [.inr (32, 0), .inr (12, 0)] m rfl ⟨trivial, trivial⟩ ?_
  refine zl_call R hcc (d := 2) (k1 := 3) (k2 := k) (by decide) rfl r_L_errorPosition (w_L_errorPosition 0 2 m (k0, m1) hX) ?_
  refine zl_st R hct 2 2999 [some (.inl (.ref b)), some (.inr (12, 0)), some (.inr (13, 0)), some (.inr (32, 0)), some (.inr (33, 0)), some (.inl (.int x5)), some (.inl (.int k0)), none, none] [.inr (13, 0)] m1 rfl ⟨trivial, trivial, trivial⟩ ?_
  refine zl_call0 R hcc (d := 2) (by decide) rfl (r_X12_errorPosition (Nat.le_of_ble_eq_true rfl)) (w_X12_errorPosition 0 0 m1 (b0, m2) hY) ?_
  refine zl_st R hct 2 3005 [some (.inl (.ref b)), some (.inr (12, 0)), some (.inr (13, 0)), some (.inr (32, 0)), some (.inr (33, 0)), some (.inl (.int x5)), some (.inl (.int k0)), some (.inl (.int b0)), none] [.inr (13, 0)] m2 rfl ⟨trivial, trivial, trivial⟩ ?_
  refine zl_call0 R hcc (d := 1) (by decide) rfl (r_X12_thrown (Nat.le_of_ble_eq_true rfl)) (w_X12_thrown 0 0 m2 (m2.1 13 0 0) rfl) ?_
  refine zl_st R hct 1 3010 [some (.inl (.ref b)), some (.inr (12, 0)), some (.inr (13, 0)), some (.inr (32, 0)), some (.inr (33, 0)), some (.inl (.int x5)), some (.inl (.int k0)), some (.inl (.int b0)), none] [.inl (.int k0), .inl (.int (m2.1 13 0 0))] m2 rfl ⟨trivial, trivial⟩ ?_
  refine zl_br R hct rfl (fun _ => ?_) (fun cq => absurd hk cq)
  refine zl_st R hct 1 3017 [some (.inl (.ref b)), some (.inr (12, 0)), some (.inr (13, 0)), some (.inr (32, 0)), some (.inr (33, 0)), some (.inl (.int x5)), some (.inl (.int k0)), some (.inl (.int b0)), none] [.inl (.int k0)] m2 rfl ⟨trivial, trivial⟩ ?_
  refine zl_br R hct rfl (fun c0 => ?_) (fun _ => ?_)
  · refine zl_st R hct 6 3027 [some (.inl (.ref b)), some (.inr (12, 0)), some (.inr (13, 0)), some (.inr (32, 0)), some (.inr (33, 0)), some (.inl (.int x5)), some (.inl (.int k0)), some (.inl (.int b0)), none] [.inl (.int (lg_cmp (m2.2.1 32 0 0) (Int32.toInt64 b0)))] m2 rfl ⟨trivial, trivial, ⟨(Nat.le_of_ble_eq_true rfl), by unfold vp_in; decide⟩, trivial, trivial, trivial, trivial⟩ ?_
    refine zl_br R hct rfl (fun _ => ?_) (fun cq => absurd (by rw [hb c0]; exact z_cmp_self _) cq)
    refine zl_st R hct 1 3192 [some (.inl (.ref b)), some (.inr (12, 0)), some (.inr (13, 0)), some (.inr (32, 0)), some (.inr (33, 0)), some (.inl (.int x5)), some (.inl (.int k0)), some (.inl (.int b0)), none] [] m2 rfl ⟨trivial, trivial⟩ ?_
    exact zl_mask R [true, true, true, true, true, true, false, false, false] rfl (kk _ I2)
  · refine zl_st R hct 1 3192 [some (.inl (.ref b)), some (.inr (12, 0)), some (.inr (13, 0)), some (.inr (32, 0)), some (.inr (33, 0)), some (.inl (.int x5)), some (.inl (.int k0)), some (.inl (.int b0)), none] [] m2 rfl ⟨trivial, trivial⟩ ?_
    exact zl_mask R [true, true, true, true, true, true, false, false, false] rfl (kk _ I2)
theorem lw_c44 {xs : Nat → Int32} {L b : Nat} {G : Nat → Nat → zL → List zA → zM → Prop} (R : zLw xs L b G) {x5 : Int32} (hin : ∀ K : Int32, (K = 1 ∨ K = 2 ∨ K = 3) → vp_in (x5 + K) L) {k : Nat} {m : zM} (I : zInv m) (kk : ∀ m', zInv m' → G k 3192 (lwL b x5) [] m') : G (3 + k) 3035 (lwL b x5) [] m := by
  have hct : z_okT 0 code tW44 = true := oT44
  have hcc : z_okC 0 code z_MT tW44 = true := oC44
  obtain ⟨k0, m1, b0, m2, hX, hY, hk, hb, I2⟩ := t_map I (xs (x5 + 1).toNatClampNeg)
  refine zl_st R hct 1 3036 [some (.inl (.ref b)), some (.inr (12, 0)), some (.inr (13, 0)), some (.inr (32, 0)), some (.inr (33, 0)), some (.inl (.int x5)), none, none, none] [.inr (12, 0)] m rfl ⟨trivial, trivial⟩ ?_
  refine zl_arg R hct 1 rfl rfl rfl ⟨trivial, trivial, trivial, trivial⟩ rfl (hin 1 (by decide)) ?_
  refine zl_st R hct 1 3043 [some (.inl (.ref b)), some (.inr (12, 0)), some (.inr (13, 0)), some (.inr (32, 0)), some (.inr (33, 0)), some (.inl (.int x5)), none, none, none] [.inr (32, 0), .inl (.int (xs (x5 + 1).toNatClampNeg)), .inr (12, 0)] m rfl ⟨trivial, trivial⟩ ?_
  refine zl_call R hcc (d := 8) (k1 := 3) (k2 := k) (by decide) rfl r_L_map (w_L_map 0 2 (xs (x5 + 1).toNatClampNeg) m (k0, m1) hX) ?_
  refine zl_st R hct 2 3049 [some (.inl (.ref b)), some (.inr (12, 0)), some (.inr (13, 0)), some (.inr (32, 0)), some (.inr (33, 0)), some (.inl (.int x5)), some (.inl (.int k0)), none, none] [.inr (13, 0)] m1 rfl ⟨trivial, trivial, trivial⟩ ?_
  refine zl_arg R hct 1 rfl rfl rfl ⟨trivial, trivial, trivial, trivial⟩ rfl (hin 1 (by decide)) ?_
  refine zl_call0 R hcc (d := 4) (by decide) rfl (r_X12_map (Nat.le_of_ble_eq_true rfl)) (w_X12_map 0 0 (xs (x5 + 1).toNatClampNeg) m1 (b0, m2) hY) ?_
  refine zl_st R hct 2 3061 [some (.inl (.ref b)), some (.inr (12, 0)), some (.inr (13, 0)), some (.inr (32, 0)), some (.inr (33, 0)), some (.inl (.int x5)), some (.inl (.int k0)), some (.inl (.int b0)), none] [.inr (13, 0)] m2 rfl ⟨trivial, trivial, trivial⟩ ?_
  refine zl_call0 R hcc (d := 1) (by decide) rfl (r_X12_thrown (Nat.le_of_ble_eq_true rfl)) (w_X12_thrown 0 0 m2 (m2.1 13 0 0) rfl) ?_
  refine zl_st R hct 1 3066 [some (.inl (.ref b)), some (.inr (12, 0)), some (.inr (13, 0)), some (.inr (32, 0)), some (.inr (33, 0)), some (.inl (.int x5)), some (.inl (.int k0)), some (.inl (.int b0)), none] [.inl (.int k0), .inl (.int (m2.1 13 0 0))] m2 rfl ⟨trivial, trivial⟩ ?_
  refine zl_br R hct rfl (fun _ => ?_) (fun cq => absurd hk cq)
  refine zl_st R hct 1 3073 [some (.inl (.ref b)), some (.inr (12, 0)), some (.inr (13, 0)), some (.inr (32, 0)), some (.inr (33, 0)), some (.inl (.int x5)), some (.inl (.int k0)), some (.inl (.int b0)), none] [.inl (.int k0)] m2 rfl ⟨trivial, trivial⟩ ?_
  refine zl_br R hct rfl (fun c0 => ?_) (fun _ => ?_)
  · refine zl_st R hct 6 3083 [some (.inl (.ref b)), some (.inr (12, 0)), some (.inr (13, 0)), some (.inr (32, 0)), some (.inr (33, 0)), some (.inl (.int x5)), some (.inl (.int k0)), some (.inl (.int b0)), none] [.inl (.int (lg_cmp (m2.2.1 32 0 0) (Int32.toInt64 b0)))] m2 rfl ⟨trivial, trivial, ⟨(Nat.le_of_ble_eq_true rfl), by unfold vp_in; decide⟩, trivial, trivial, trivial, trivial⟩ ?_
    refine zl_br R hct rfl (fun _ => ?_) (fun cq => absurd (by rw [hb c0]; exact z_cmp_self _) cq)
    refine zl_st R hct 1 3192 [some (.inl (.ref b)), some (.inr (12, 0)), some (.inr (13, 0)), some (.inr (32, 0)), some (.inr (33, 0)), some (.inl (.int x5)), some (.inl (.int k0)), some (.inl (.int b0)), none] [] m2 rfl ⟨trivial, trivial⟩ ?_
    exact zl_mask R [true, true, true, true, true, true, false, false, false] rfl (kk _ I2)
  · refine zl_st R hct 1 3192 [some (.inl (.ref b)), some (.inr (12, 0)), some (.inr (13, 0)), some (.inr (32, 0)), some (.inr (33, 0)), some (.inl (.int x5)), some (.inl (.int k0)), some (.inl (.int b0)), none] [] m2 rfl ⟨trivial, trivial⟩ ?_
    exact zl_mask R [true, true, true, true, true, true, false, false, false] rfl (kk _ I2)
theorem lw_c45 {xs : Nat → Int32} {L b : Nat} {G : Nat → Nat → zL → List zA → zM → Prop} (R : zLw xs L b G) {x5 : Int32} (hin : ∀ K : Int32, (K = 1 ∨ K = 2 ∨ K = 3) → vp_in (x5 + K) L) {k : Nat} {m : zM} (I : zInv m) (kk : ∀ m', zInv m' → G k 3192 (lwL b x5) [] m') : G (3 + k) 3091 (lwL b x5) [] m := by
  have hct : z_okT 0 code tW45 = true := oT45
  have hcc : z_okC 0 code z_MT tW45 = true := oC45
  obtain ⟨k0, m1, b0, m2, hX, hY, hk, hb, I2⟩ := t_undo I 
  refine zl_st R hct 1 3092 [some (.inl (.ref b)), some (.inr (12, 0)), some (.inr (13, 0)), some (.inr (32, 0)), some (.inr (33, 0)), some (.inl (.int x5)), none, none, none] [.inr (12, 0)] m rfl ⟨trivial, trivial⟩ ?_
  refine zl_st R hct 1 3093 [some (.inl (.ref b)), some (.inr (12, 0)), some (.inr (13, 0)), some (.inr (32, 0)), some (.inr (33, 0)), some (.inl (.int x5)), none, none, none] [.inr (32, 0), .inr (12, 0)] m rfl ⟨trivial, trivial⟩ ?_
  refine zl_call R hcc (d := 5) (k1 := 3) (k2 := k) (by decide) rfl r_L_undo (w_L_undo 0 2 m (k0, m1) hX) ?_
  refine zl_st R hct 2 3099 [some (.inl (.ref b)), some (.inr (12, 0)), some (.inr (13, 0)), some (.inr (32, 0)), some (.inr (33, 0)), some (.inl (.int x5)), some (.inl (.int k0)), none, none] [.inr (13, 0)] m1 rfl ⟨trivial, trivial, trivial⟩ ?_
  refine zl_call0 R hcc (d := 2) (by decide) rfl (r_X12_undo (Nat.le_of_ble_eq_true rfl)) (w_X12_undo 0 0 m1 (b0, m2) hY) ?_
  refine zl_st R hct 2 3105 [some (.inl (.ref b)), some (.inr (12, 0)), some (.inr (13, 0)), some (.inr (32, 0)), some (.inr (33, 0)), some (.inl (.int x5)), some (.inl (.int k0)), some (.inl (.int b0)), none] [.inr (13, 0)] m2 rfl ⟨trivial, trivial, trivial⟩ ?_
  refine zl_call0 R hcc (d := 1) (by decide) rfl (r_X12_thrown (Nat.le_of_ble_eq_true rfl)) (w_X12_thrown 0 0 m2 (m2.1 13 0 0) rfl) ?_
  refine zl_st R hct 1 3110 [some (.inl (.ref b)), some (.inr (12, 0)), some (.inr (13, 0)), some (.inr (32, 0)), some (.inr (33, 0)), some (.inl (.int x5)), some (.inl (.int k0)), some (.inl (.int b0)), none] [.inl (.int k0), .inl (.int (m2.1 13 0 0))] m2 rfl ⟨trivial, trivial⟩ ?_
  refine zl_br R hct rfl (fun _ => ?_) (fun cq => absurd hk cq)
  refine zl_st R hct 1 3117 [some (.inl (.ref b)), some (.inr (12, 0)), some (.inr (13, 0)), some (.inr (32, 0)), some (.inr (33, 0)), some (.inl (.int x5)), some (.inl (.int k0)), some (.inl (.int b0)), none] [.inl (.int k0)] m2 rfl ⟨trivial, trivial⟩ ?_
  refine zl_br R hct rfl (fun c0 => ?_) (fun _ => ?_)
  · refine zl_st R hct 6 3127 [some (.inl (.ref b)), some (.inr (12, 0)), some (.inr (13, 0)), some (.inr (32, 0)), some (.inr (33, 0)), some (.inl (.int x5)), some (.inl (.int k0)), some (.inl (.int b0)), none] [.inl (.int (lg_cmp (m2.2.1 32 0 0) (Int32.toInt64 b0)))] m2 rfl ⟨trivial, trivial, ⟨(Nat.le_of_ble_eq_true rfl), by unfold vp_in; decide⟩, trivial, trivial, trivial, trivial⟩ ?_
    refine zl_br R hct rfl (fun _ => ?_) (fun cq => absurd (by rw [hb c0]; exact z_cmp_self _) cq)
    refine zl_st R hct 1 3192 [some (.inl (.ref b)), some (.inr (12, 0)), some (.inr (13, 0)), some (.inr (32, 0)), some (.inr (33, 0)), some (.inl (.int x5)), some (.inl (.int k0)), some (.inl (.int b0)), none] [] m2 rfl ⟨trivial, trivial⟩ ?_
    exact zl_mask R [true, true, true, true, true, true, false, false, false] rfl (kk _ I2)
  · refine zl_st R hct 1 3192 [some (.inl (.ref b)), some (.inr (12, 0)), some (.inr (13, 0)), some (.inr (32, 0)), some (.inr (33, 0)), some (.inl (.int x5)), some (.inl (.int k0)), some (.inl (.int b0)), none] [] m2 rfl ⟨trivial, trivial⟩ ?_
    exact zl_mask R [true, true, true, true, true, true, false, false, false] rfl (kk _ I2)
theorem lw_c46 {xs : Nat → Int32} {L b : Nat} {G : Nat → Nat → zL → List zA → zM → Prop} (R : zLw xs L b G) {x5 : Int32} (hin : ∀ K : Int32, (K = 1 ∨ K = 2 ∨ K = 3) → vp_in (x5 + K) L) {k : Nat} {m : zM} (I : zInv m) (kk : ∀ m', zInv m' → G k 3192 (lwL b x5) [] m') : G (3 + k) 3135 (lwL b x5) [] m := by
  have hct : z_okT 0 code tW46 = true := oT46
  have hcc : z_okC 0 code z_MT tW46 = true := oC46
  obtain ⟨u, m1, m2, hX, hY, I2⟩ := t_save I
  refine zl_st R hct 1 3136 [some (.inl (.ref b)), some (.inr (12, 0)), some (.inr (13, 0)), some (.inr (32, 0)), some (.inr (33, 0)), some (.inl (.int x5)), none, none, none] [.inr (12, 0)] m rfl ⟨trivial, trivial⟩ ?_
  refine zl_call R hcc (d := 3) (k1 := 3) (k2 := k) (by decide) rfl (r_X11_save (Nat.le_of_ble_eq_true rfl)) (w_X11_save 0 3 m (u, m1) hX) ?_
  refine zl_st R hct 1 3140 [some (.inl (.ref b)), some (.inr (12, 0)), some (.inr (13, 0)), some (.inr (32, 0)), some (.inr (33, 0)), some (.inl (.int x5)), none, none, none] [.inr (13, 0), .inl (.int u)] m1 rfl ⟨trivial, trivial⟩ ?_
  refine zl_call0 R hcc (d := 2) (by decide) rfl (r_X12_save (Nat.le_of_ble_eq_true rfl)) (w_X12_save 0 0 m1 (u, m2) hY) ?_
  refine zl_br R hct rfl (fun _ => ?_) (fun cq => absurd rfl cq)
  exact kk m2 I2
theorem lw_c47 {xs : Nat → Int32} {L b : Nat} {G : Nat → Nat → zL → List zA → zM → Prop} (R : zLw xs L b G) {x5 : Int32} (hin : ∀ K : Int32, (K = 1 ∨ K = 2 ∨ K = 3) → vp_in (x5 + K) L) {k : Nat} {m : zM} (I : zInv m) (kk : ∀ m', zInv m' → G k 3192 (lwL b x5) [] m') : G (3 + k) 3148 (lwL b x5) [] m := by
  have hct : z_okT 0 code tW47 = true := oT47
  have hcc : z_okC 0 code z_MT tW47 = true := oC47
  obtain ⟨k0, m1, b0, m2, hX, hY, hk, hb, I2⟩ := t_restore I 
  refine zl_st R hct 1 3149 [some (.inl (.ref b)), some (.inr (12, 0)), some (.inr (13, 0)), some (.inr (32, 0)), some (.inr (33, 0)), some (.inl (.int x5)), none, none, none] [.inr (12, 0)] m rfl ⟨trivial, trivial⟩ ?_
  refine zl_st R hct 1 3150 [some (.inl (.ref b)), some (.inr (12, 0)), some (.inr (13, 0)), some (.inr (32, 0)), some (.inr (33, 0)), some (.inl (.int x5)), none, none, none] [.inr (32, 0), .inr (12, 0)] m rfl ⟨trivial, trivial⟩ ?_
  refine zl_call R hcc (d := 5) (k1 := 3) (k2 := k) (by decide) rfl r_L_restore (w_L_restore 0 2 m (k0, m1) hX) ?_
  refine zl_st R hct 2 3156 [some (.inl (.ref b)), some (.inr (12, 0)), some (.inr (13, 0)), some (.inr (32, 0)), some (.inr (33, 0)), some (.inl (.int x5)), some (.inl (.int k0)), none, none] [.inr (13, 0)] m1 rfl ⟨trivial, trivial, trivial⟩ ?_
  refine zl_call0 R hcc (d := 2) (by decide) rfl (r_X12_restore (Nat.le_of_ble_eq_true rfl)) (w_X12_restore 0 0 m1 (b0, m2) hY) ?_
  refine zl_st R hct 2 3162 [some (.inl (.ref b)), some (.inr (12, 0)), some (.inr (13, 0)), some (.inr (32, 0)), some (.inr (33, 0)), some (.inl (.int x5)), some (.inl (.int k0)), some (.inl (.int b0)), none] [.inr (13, 0)] m2 rfl ⟨trivial, trivial, trivial⟩ ?_
  refine zl_call0 R hcc (d := 1) (by decide) rfl (r_X12_thrown (Nat.le_of_ble_eq_true rfl)) (w_X12_thrown 0 0 m2 (m2.1 13 0 0) rfl) ?_
  refine zl_st R hct 1 3167 [some (.inl (.ref b)), some (.inr (12, 0)), some (.inr (13, 0)), some (.inr (32, 0)), some (.inr (33, 0)), some (.inl (.int x5)), some (.inl (.int k0)), some (.inl (.int b0)), none] [.inl (.int k0), .inl (.int (m2.1 13 0 0))] m2 rfl ⟨trivial, trivial⟩ ?_
  refine zl_br R hct rfl (fun _ => ?_) (fun cq => absurd hk cq)
  refine zl_st R hct 1 3174 [some (.inl (.ref b)), some (.inr (12, 0)), some (.inr (13, 0)), some (.inr (32, 0)), some (.inr (33, 0)), some (.inl (.int x5)), some (.inl (.int k0)), some (.inl (.int b0)), none] [.inl (.int k0)] m2 rfl ⟨trivial, trivial⟩ ?_
  refine zl_br R hct rfl (fun c0 => ?_) (fun _ => ?_)
  · refine zl_st R hct 6 3184 [some (.inl (.ref b)), some (.inr (12, 0)), some (.inr (13, 0)), some (.inr (32, 0)), some (.inr (33, 0)), some (.inl (.int x5)), some (.inl (.int k0)), some (.inl (.int b0)), none] [.inl (.int (lg_cmp (m2.2.1 32 0 0) (Int32.toInt64 b0)))] m2 rfl ⟨trivial, trivial, ⟨(Nat.le_of_ble_eq_true rfl), by unfold vp_in; decide⟩, trivial, trivial, trivial, trivial⟩ ?_
    refine zl_br R hct rfl (fun _ => ?_) (fun cq => absurd (by rw [hb c0]; exact z_cmp_self _) cq)
    refine zl_st R hct 1 3192 [some (.inl (.ref b)), some (.inr (12, 0)), some (.inr (13, 0)), some (.inr (32, 0)), some (.inr (33, 0)), some (.inl (.int x5)), some (.inl (.int k0)), some (.inl (.int b0)), none] [] m2 rfl ⟨trivial, trivial⟩ ?_
    exact zl_mask R [true, true, true, true, true, true, false, false, false] rfl (kk _ I2)
  · refine zl_st R hct 1 3192 [some (.inl (.ref b)), some (.inr (12, 0)), some (.inr (13, 0)), some (.inr (32, 0)), some (.inr (33, 0)), some (.inl (.int x5)), some (.inl (.int k0)), some (.inl (.int b0)), none] [] m2 rfl ⟨trivial, trivial⟩ ?_
    exact zl_mask R [true, true, true, true, true, true, false, false, false] rfl (kk _ I2)
