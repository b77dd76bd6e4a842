/-! The law's cases. -/
theorem z_dc {b : UInt64} (h : z_nan b = true) : FP.dcmp b b = some .eq := by
  refine FP.Core.dcmp_self ((FP.Core.ne_nan b).mpr ?_)
  unfold z_nan at h
  have h := UInt64.le_iff_toNat_le.mp (of_decide_eq_true h)
  rw [UInt64.toNat_and, show (0x7fffffffffffffff : UInt64).toNat = 2 ^ 63 - 1 from rfl, Nat.and_two_pow_sub_one_eq_mod] at h
  exact h
theorem lw_c0 {xs : Nat → Int32} {L b : Nat} {G : Nat → Nat → zL → List zA → zM → Prop} (R : zLw xs L b G) {x5 : Int32} (hin : ∀ K : Int32, (K = 1 ∨ K = 2 ∨ K = 3) → vp_in (x5 + K) L) {k : Nat} {m : zM} (I : zInv m) (kk : ∀ m', zInv m' → G k 3192 (lwL b x5) [] m') : G (3 + k) 252 (lwL b x5) [] m := by
  have hct : z_okT 0 code tW0 = true := oT0
  have hcc : z_okC 0 code z_MT tW0 = true := oC0
  obtain ⟨k0, m1, b0, m2, hX, hY, hk, hb, I2⟩ := t_resize I (xs (x5 + 1).toNatClampNeg) (xs (x5 + 2).toNatClampNeg)
  refine zl_st R hct 1 253 [some (.inl (.ref b)), some (.inr (12, 0)), some (.inr (13, 0)), some (.inr (32, 0)), some (.inr (33, 0)), some (.inl (.int x5)), none, none, none] [.inr (12, 0)] m rfl ⟨trivial, trivial⟩ ?_
  refine zl_arg R hct 1 rfl rfl rfl ⟨trivial, trivial, trivial, trivial⟩ rfl (hin 1 (by decide)) ?_
  refine zl_arg R hct 2 rfl rfl rfl ⟨trivial, trivial, trivial, trivial⟩ rfl (hin 2 (by decide)) ?_
  refine zl_st R hct 1 266 [some (.inl (.ref b)), some (.inr (12, 0)), some (.inr (13, 0)), some (.inr (32, 0)), some (.inr (33, 0)), some (.inl (.int x5)), none, none, none] [.inr (32, 0), .inl (.int (xs (x5 + 2).toNatClampNeg)), .inl (.int (xs (x5 + 1).toNatClampNeg)), .inr (12, 0)] m rfl ⟨trivial, trivial⟩ ?_
  refine zl_call R hcc (d := 5) (k1 := 3) (k2 := k) (by decide) rfl r_L_resize (w_L_resize 0 1 (xs (x5 + 1).toNatClampNeg) (xs (x5 + 2).toNatClampNeg) m (k0, m1) hX) ?_
  refine zl_st R hct 2 272 [some (.inl (.ref b)), some (.inr (12, 0)), some (.inr (13, 0)), some (.inr (32, 0)), some (.inr (33, 0)), some (.inl (.int x5)), some (.inl (.int k0)), none, none] [.inr (13, 0)] m1 rfl ⟨trivial, trivial, trivial⟩ ?_
  refine zl_arg R hct 1 rfl rfl rfl ⟨trivial, trivial, trivial, trivial⟩ rfl (hin 1 (by decide)) ?_
  refine zl_arg R hct 2 rfl rfl rfl ⟨trivial, trivial, trivial, trivial⟩ rfl (hin 2 (by decide)) ?_
  refine zl_call0 R hcc (d := 2) (by decide) rfl (r_X12_resize (Nat.le_of_ble_eq_true rfl)) (w_X12_resize 0 0 (xs (x5 + 1).toNatClampNeg) (xs (x5 + 2).toNatClampNeg) m1 (b0, m2) hY) ?_
  refine zl_st R hct 2 290 [some (.inl (.ref b)), some (.inr (12, 0)), some (.inr (13, 0)), some (.inr (32, 0)), some (.inr (33, 0)), some (.inl (.int x5)), some (.inl (.int k0)), some (.inl (.int b0)), none] [.inr (13, 0)] m2 rfl ⟨trivial, trivial, trivial⟩ ?_
  refine zl_call0 R hcc (d := 1) (by decide) rfl (r_X12_thrown (Nat.le_of_ble_eq_true rfl)) (w_X12_thrown 0 0 m2 (m2.1 13 0 0) rfl) ?_
  refine zl_st R hct 1 295 [some (.inl (.ref b)), some (.inr (12, 0)), some (.inr (13, 0)), some (.inr (32, 0)), some (.inr (33, 0)), some (.inl (.int x5)), some (.inl (.int k0)), some (.inl (.int b0)), none] [.inl (.int k0), .inl (.int (m2.1 13 0 0))] m2 rfl ⟨trivial, trivial⟩ ?_
  refine zl_br R hct rfl (fun _ => ?_) (fun cq => absurd hk cq)
  refine zl_st R hct 1 302 [some (.inl (.ref b)), some (.inr (12, 0)), some (.inr (13, 0)), some (.inr (32, 0)), some (.inr (33, 0)), some (.inl (.int x5)), some (.inl (.int k0)), some (.inl (.int b0)), none] [.inl (.int k0)] m2 rfl ⟨trivial, trivial⟩ ?_
  refine zl_br R hct rfl (fun c0 => ?_) (fun _ => ?_)
  · refine zl_st R hct 6 312 [some (.inl (.ref b)), some (.inr (12, 0)), some (.inr (13, 0)), some (.inr (32, 0)), some (.inr (33, 0)), some (.inl (.int x5)), some (.inl (.int k0)), some (.inl (.int b0)), none] [.inl (.int (lg_cmp (m2.2.1 32 0 0) (Int32.toInt64 b0)))] m2 rfl ⟨trivial, trivial, ⟨(Nat.le_of_ble_eq_true rfl), by unfold vp_in; decide⟩, trivial, trivial, trivial, trivial⟩ ?_
    refine zl_br R hct rfl (fun _ => ?_) (fun cq => absurd (by rw [hb c0]; exact z_cmp_self _) cq)
    refine zl_st R hct 1 3192 [some (.inl (.ref b)), some (.inr (12, 0)), some (.inr (13, 0)), some (.inr (32, 0)), some (.inr (33, 0)), some (.inl (.int x5)), some (.inl (.int k0)), some (.inl (.int b0)), none] [] m2 rfl ⟨trivial, trivial⟩ ?_
    exact zl_mask R [true, true, true, true, true, true, false, false, false] rfl (kk _ I2)
  · refine zl_st R hct 1 3192 [some (.inl (.ref b)), some (.inr (12, 0)), some (.inr (13, 0)), some (.inr (32, 0)), some (.inr (33, 0)), some (.inl (.int x5)), some (.inl (.int k0)), some (.inl (.int b0)), none] [] m2 rfl ⟨trivial, trivial⟩ ?_
    exact zl_mask R [true, true, true, true, true, true, false, false, false] rfl (kk _ I2)
theorem lw_c6 {xs : Nat → Int32} {L b : Nat} {G : Nat → Nat → zL → List zA → zM → Prop} (R : zLw xs L b G) {x5 : Int32} (hin : ∀ K : Int32, (K = 1 ∨ K = 2 ∨ K = 3) → vp_in (x5 + K) L) {k : Nat} {m : zM} (I : zInv m) (kk : ∀ m', zInv m' → G k 3192 (lwL b x5) [] m') : G (3 + k) 672 (lwL b x5) [] m := by
  have hct : z_okT 0 code tW6 = true := oT6
  have hcc : z_okC 0 code z_MT tW6 = true := oC6
  by_cases cu : (xs (x5 + 2).toNatClampNeg) = 0
  · obtain ⟨k0, m1, b0, m2, hX, hY, hk, hb, I2⟩ := t_setOutlet I (xs (x5 + 1).toNatClampNeg) false
    refine zl_st R hct 1 673 [some (.inl (.ref b)), some (.inr (12, 0)), some (.inr (13, 0)), some (.inr (32, 0)), some (.inr (33, 0)), some (.inl (.int x5)), none, none, none] [.inr (12, 0)] m rfl ⟨trivial, trivial⟩ ?_
    refine zl_arg R hct 1 rfl rfl rfl ⟨trivial, trivial, trivial, trivial⟩ rfl (hin 1 (by decide)) ?_
    refine zl_arg R hct 2 rfl rfl rfl ⟨trivial, trivial, trivial, trivial⟩ rfl (hin 2 (by decide)) ?_
    refine zl_br R hct rfl (fun _ => ?_) (fun cq => absurd cu cq)
    refine zl_st R hct 1 693 [some (.inl (.ref b)), some (.inr (12, 0)), some (.inr (13, 0)), some (.inr (32, 0)), some (.inr (33, 0)), some (.inl (.int x5)), none, none, none] [.inl (.int 0), .inl (.int (xs (x5 + 1).toNatClampNeg)), .inr (12, 0)] m rfl ⟨trivial, trivial⟩ ?_
    refine zl_st R hct 1 694 [some (.inl (.ref b)), some (.inr (12, 0)), some (.inr (13, 0)), some (.inr (32, 0)), some (.inr (33, 0)), some (.inl (.int x5)), none, none, none] [.inr (32, 0), .inl (.int 0), .inl (.int (xs (x5 + 1).toNatClampNeg)), .inr (12, 0)] m rfl ⟨trivial, trivial⟩ ?_
    refine zl_call R hcc (d := 5) (k1 := 3) (k2 := k) (by decide) rfl r_L_setOutlet (w_L_setOutlet 0 1 (xs (x5 + 1).toNatClampNeg) 0 m (k0, m1) hX) ?_
    refine zl_st R hct 2 700 [some (.inl (.ref b)), some (.inr (12, 0)), some (.inr (13, 0)), some (.inr (32, 0)), some (.inr (33, 0)), some (.inl (.int x5)), some (.inl (.int k0)), none, none] [.inr (13, 0)] m1 rfl ⟨trivial, trivial, trivial⟩ ?_
    refine zl_arg R hct 1 rfl rfl rfl ⟨trivial, trivial, trivial, trivial⟩ rfl (hin 1 (by decide)) ?_
    refine zl_arg R hct 2 rfl rfl rfl ⟨trivial, trivial, trivial, trivial⟩ rfl (hin 2 (by decide)) ?_
    refine zl_br R hct rfl (fun _ => ?_) (fun cq => absurd cu cq)
    refine zl_st R hct 1 720 [some (.inl (.ref b)), some (.inr (12, 0)), some (.inr (13, 0)), some (.inr (32, 0)), some (.inr (33, 0)), some (.inl (.int x5)), some (.inl (.int k0)), none, none] [.inl (.int 0), .inl (.int (xs (x5 + 1).toNatClampNeg)), .inr (13, 0)] m1 rfl ⟨trivial, trivial⟩ ?_
    refine zl_call0 R hcc (d := 3) (by decide) rfl (r_X12_setOutlet (Nat.le_of_ble_eq_true rfl)) (w_X12_setOutlet 0 0 (xs (x5 + 1).toNatClampNeg) 0 m1 (b0, m2) hY) ?_
    refine zl_st R hct 2 726 [some (.inl (.ref b)), some (.inr (12, 0)), some (.inr (13, 0)), some (.inr (32, 0)), some (.inr (33, 0)), some (.inl (.int x5)), some (.inl (.int k0)), some (.inl (.int (z_bi b0))), none] [.inr (13, 0)] m2 rfl ⟨trivial, trivial, trivial⟩ ?_
    refine zl_call0 R hcc (d := 1) (by decide) rfl (r_X12_thrown (Nat.le_of_ble_eq_true rfl)) (w_X12_thrown 0 0 m2 (m2.1 13 0 0) rfl) ?_
    refine zl_st R hct 1 731 [some (.inl (.ref b)), some (.inr (12, 0)), some (.inr (13, 0)), some (.inr (32, 0)), some (.inr (33, 0)), some (.inl (.int x5)), some (.inl (.int k0)), some (.inl (.int (z_bi b0))), none] [.inl (.int k0), .inl (.int (m2.1 13 0 0))] m2 rfl ⟨trivial, trivial⟩ ?_
    refine zl_br R hct rfl (fun _ => ?_) (fun cq => absurd hk cq)
    refine zl_st R hct 1 738 [some (.inl (.ref b)), some (.inr (12, 0)), some (.inr (13, 0)), some (.inr (32, 0)), some (.inr (33, 0)), some (.inl (.int x5)), some (.inl (.int k0)), some (.inl (.int (z_bi b0))), none] [.inl (.int k0)] m2 rfl ⟨trivial, trivial⟩ ?_
    refine zl_br R hct rfl (fun c0 => ?_) (fun _ => ?_)
    · refine zl_st R hct 4 746 [some (.inl (.ref b)), some (.inr (12, 0)), some (.inr (13, 0)), some (.inr (32, 0)), some (.inr (33, 0)), some (.inl (.int x5)), some (.inl (.int k0)), some (.inl (.int (z_bi b0))), none] [.inl (.int (z_bi b0)), .inl (.long (m2.2.1 32 0 0))] m2 rfl ⟨trivial, trivial, ⟨(Nat.le_of_ble_eq_true rfl), by unfold vp_in; decide⟩, trivial, trivial⟩ ?_
      cases b0 with
      | true =>
        refine zl_br R hct rfl (fun cq => absurd cq (show ¬ z_bi true = 0 by decide)) (fun _ => ?_)
        refine zl_st R hct 3 755 [some (.inl (.ref b)), some (.inr (12, 0)), some (.inr (13, 0)), some (.inr (32, 0)), some (.inr (33, 0)), some (.inl (.int x5)), some (.inl (.int k0)), some (.inl (.int (z_bi true))), none] [.inl (.int (lg_cmp (m2.2.1 32 0 0) 1))] m2 rfl ⟨trivial, trivial, trivial, trivial⟩ ?_
        refine zl_br R hct rfl (fun _ => ?_) (fun cq => absurd (by rw [hb c0]; exact z_cmp_self _) cq)
        refine zl_st R hct 1 3192 [some (.inl (.ref b)), some (.inr (12, 0)), some (.inr (13, 0)), some (.inr (32, 0)), some (.inr (33, 0)), some (.inl (.int x5)), some (.inl (.int k0)), some (.inl (.int (z_bi true))), none] [] m2 rfl ⟨trivial, trivial⟩ ?_
        exact zl_mask R [true, true, true, true, true, true, false, false, false] rfl (kk _ I2)
      | false =>
        refine zl_br R hct rfl (fun _ => ?_) (fun cq => absurd (show z_bi false = 0 from rfl) cq)
        refine zl_st R hct 2 755 [some (.inl (.ref b)), some (.inr (12, 0)), some (.inr (13, 0)), some (.inr (32, 0)), some (.inr (33, 0)), some (.inl (.int x5)), some (.inl (.int k0)), some (.inl (.int (z_bi false))), none] [.inl (.int (lg_cmp (m2.2.1 32 0 0) 0))] m2 rfl ⟨trivial, trivial, trivial⟩ ?_
        refine zl_br R hct rfl (fun _ => ?_) (fun cq => absurd (by rw [hb c0]; exact z_cmp_self _) cq)
        refine zl_st R hct 1 3192 [some (.inl (.ref b)), some (.inr (12, 0)), some (.inr (13, 0)), some (.inr (32, 0)), some (.inr (33, 0)), some (.inl (.int x5)), some (.inl (.int k0)), some (.inl (.int (z_bi false))), none] [] m2 rfl ⟨trivial, trivial⟩ ?_
        exact zl_mask R [true, true, true, true, true, true, false, false, false] rfl (kk _ I2)
    · refine zl_st R hct 1 3192 [some (.inl (.ref b)), some (.inr (12, 0)), some (.inr (13, 0)), some (.inr (32, 0)), some (.inr (33, 0)), some (.inl (.int x5)), some (.inl (.int k0)), some (.inl (.int (z_bi b0))), none] [] m2 rfl ⟨trivial, trivial⟩ ?_
      exact zl_mask R [true, true, true, true, true, true, false, false, false] rfl (kk _ I2)
  · obtain ⟨k0, m1, b0, m2, hX, hY, hk, hb, I2⟩ := t_setOutlet I (xs (x5 + 1).toNatClampNeg) true
    refine zl_st R hct 1 673 [some (.inl (.ref b)), some (.inr (12, 0)), some (.inr (13, 0)), some (.inr (32, 0)), some (.inr (33, 0)), some (.inl (.int x5)), none, none, none] [.inr (12, 0)] m rfl ⟨trivial, trivial⟩ ?_
    refine zl_arg R hct 1 rfl rfl rfl ⟨trivial, trivial, trivial, trivial⟩ rfl (hin 1 (by decide)) ?_
    refine zl_arg R hct 2 rfl rfl rfl ⟨trivial, trivial, trivial, trivial⟩ rfl (hin 2 (by decide)) ?_
    refine zl_br R hct rfl (fun cq => absurd cq cu) (fun _ => ?_)
    refine zl_st R hct 2 693 [some (.inl (.ref b)), some (.inr (12, 0)), some (.inr (13, 0)), some (.inr (32, 0)), some (.inr (33, 0)), some (.inl (.int x5)), none, none, none] [.inl (.int 1), .inl (.int (xs (x5 + 1).toNatClampNeg)), .inr (12, 0)] m rfl ⟨trivial, trivial, trivial⟩ ?_
    refine zl_st R hct 1 694 [some (.inl (.ref b)), some (.inr (12, 0)), some (.inr (13, 0)), some (.inr (32, 0)), some (.inr (33, 0)), some (.inl (.int x5)), none, none, none] [.inr (32, 0), .inl (.int 1), .inl (.int (xs (x5 + 1).toNatClampNeg)), .inr (12, 0)] m rfl ⟨trivial, trivial⟩ ?_
    refine zl_call R hcc (d := 5) (k1 := 3) (k2 := k) (by decide) rfl r_L_setOutlet (w_L_setOutlet 0 1 (xs (x5 + 1).toNatClampNeg) 1 m (k0, m1) hX) ?_
    refine zl_st R hct 2 700 [some (.inl (.ref b)), some (.inr (12, 0)), some (.inr (13, 0)), some (.inr (32, 0)), some (.inr (33, 0)), some (.inl (.int x5)), some (.inl (.int k0)), none, none] [.inr (13, 0)] m1 rfl ⟨trivial, trivial, trivial⟩ ?_
    refine zl_arg R hct 1 rfl rfl rfl ⟨trivial, trivial, trivial, trivial⟩ rfl (hin 1 (by decide)) ?_
    refine zl_arg R hct 2 rfl rfl rfl ⟨trivial, trivial, trivial, trivial⟩ rfl (hin 2 (by decide)) ?_
    refine zl_br R hct rfl (fun cq => absurd cq cu) (fun _ => ?_)
    refine zl_st R hct 2 720 [some (.inl (.ref b)), some (.inr (12, 0)), some (.inr (13, 0)), some (.inr (32, 0)), some (.inr (33, 0)), some (.inl (.int x5)), some (.inl (.int k0)), none, none] [.inl (.int 1), .inl (.int (xs (x5 + 1).toNatClampNeg)), .inr (13, 0)] m1 rfl ⟨trivial, trivial, trivial⟩ ?_
    refine zl_call0 R hcc (d := 3) (by decide) rfl (r_X12_setOutlet (Nat.le_of_ble_eq_true rfl)) (w_X12_setOutlet 0 0 (xs (x5 + 1).toNatClampNeg) 1 m1 (b0, m2) hY) ?_
    refine zl_st R hct 2 726 [some (.inl (.ref b)), some (.inr (12, 0)), some (.inr (13, 0)), some (.inr (32, 0)), some (.inr (33, 0)), some (.inl (.int x5)), some (.inl (.int k0)), some (.inl (.int (z_bi b0))), none] [.inr (13, 0)] m2 rfl ⟨trivial, trivial, trivial⟩ ?_
    refine zl_call0 R hcc (d := 1) (by decide) rfl (r_X12_thrown (Nat.le_of_ble_eq_true rfl)) (w_X12_thrown 0 0 m2 (m2.1 13 0 0) rfl) ?_
    refine zl_st R hct 1 731 [some (.inl (.ref b)), some (.inr (12, 0)), some (.inr (13, 0)), some (.inr (32, 0)), some (.inr (33, 0)), some (.inl (.int x5)), some (.inl (.int k0)), some (.inl (.int (z_bi b0))), none] [.inl (.int k0), .inl (.int (m2.1 13 0 0))] m2 rfl ⟨trivial, trivial⟩ ?_
    refine zl_br R hct rfl (fun _ => ?_) (fun cq => absurd hk cq)
    refine zl_st R hct 1 738 [some (.inl (.ref b)), some (.inr (12, 0)), some (.inr (13, 0)), some (.inr (32, 0)), some (.inr (33, 0)), some (.inl (.int x5)), some (.inl (.int k0)), some (.inl (.int (z_bi b0))), none] [.inl (.int k0)] m2 rfl ⟨trivial, trivial⟩ ?_
    refine zl_br R hct rfl (fun c0 => ?_) (fun _ => ?_)
    · refine zl_st R hct 4 746 [some (.inl (.ref b)), some (.inr (12, 0)), some (.inr (13, 0)), some (.inr (32, 0)), some (.inr (33, 0)), some (.inl (.int x5)), some (.inl (.int k0)), some (.inl (.int (z_bi b0))), none] [.inl (.int (z_bi b0)), .inl (.long (m2.2.1 32 0 0))] m2 rfl ⟨trivial, trivial, ⟨(Nat.le_of_ble_eq_true rfl), by unfold vp_in; decide⟩, trivial, trivial⟩ ?_
      cases b0 with
      | true =>
        refine zl_br R hct rfl (fun cq => absurd cq (show ¬ z_bi true = 0 by decide)) (fun _ => ?_)
        refine zl_st R hct 3 755 [some (.inl (.ref b)), some (.inr (12, 0)), some (.inr (13, 0)), some (.inr (32, 0)), some (.inr (33, 0)), some (.inl (.int x5)), some (.inl (.int k0)), some (.inl (.int (z_bi true))), none] [.inl (.int (lg_cmp (m2.2.1 32 0 0) 1))] m2 rfl ⟨trivial, trivial, trivial, trivial⟩ ?_
        refine zl_br R hct rfl (fun _ => ?_) (fun cq => absurd (by rw [hb c0]; exact z_cmp_self _) cq)
        refine zl_st R hct 1 3192 [some (.inl (.ref b)), some (.inr (12, 0)), some (.inr (13, 0)), some (.inr (32, 0)), some (.inr (33, 0)), some (.inl (.int x5)), some (.inl (.int k0)), some (.inl (.int (z_bi true))), none] [] m2 rfl ⟨trivial, trivial⟩ ?_
        exact zl_mask R [true, true, true, true, true, true, false, false, false] rfl (kk _ I2)
      | false =>
        refine zl_br R hct rfl (fun _ => ?_) (fun cq => absurd (show z_bi false = 0 from rfl) cq)
        refine zl_st R hct 2 755 [some (.inl (.ref b)), some (.inr (12, 0)), some (.inr (13, 0)), some (.inr (32, 0)), some (.inr (33, 0)), some (.inl (.int x5)), some (.inl (.int k0)), some (.inl (.int (z_bi false))), none] [.inl (.int (lg_cmp (m2.2.1 32 0 0) 0))] m2 rfl ⟨trivial, trivial, trivial⟩ ?_
        refine zl_br R hct rfl (fun _ => ?_) (fun cq => absurd (by rw [hb c0]; exact z_cmp_self _) cq)
        refine zl_st R hct 1 3192 [some (.inl (.ref b)), some (.inr (12, 0)), some (.inr (13, 0)), some (.inr (32, 0)), some (.inr (33, 0)), some (.inl (.int x5)), some (.inl (.int k0)), some (.inl (.int (z_bi false))), none] [] m2 rfl ⟨trivial, trivial⟩ ?_
        exact zl_mask R [true, true, true, true, true, true, false, false, false] rfl (kk _ I2)
    · refine zl_st R hct 1 3192 [some (.inl (.ref b)), some (.inr (12, 0)), some (.inr (13, 0)), some (.inr (32, 0)), some (.inr (33, 0)), some (.inl (.int x5)), some (.inl (.int k0)), some (.inl (.int (z_bi b0))), none] [] m2 rfl ⟨trivial, trivial⟩ ?_
      exact zl_mask R [true, true, true, true, true, true, false, false, false] rfl (kk _ I2)
theorem lw_c18 {xs : Nat → Int32} {L b : Nat} {G : Nat → Nat → zL → List zA → zM → Prop} (R : zLw xs L b G) {x5 : Int32} (hin : ∀ K : Int32, (K = 1 ∨ K = 2 ∨ K = 3) → vp_in (x5 + K) L) {k : Nat} {m : zM} (I : zInv m) (kk : ∀ m', zInv m' → G k 3192 (lwL b x5) [] m') : G (3 + k) 1415 (lwL b x5) [] m := by
  have hct : z_okT 0 code tW18 = true := oT18
  have hcc : z_okC 0 code z_MT tW18 = true := oC18
  obtain ⟨k0, m1, b0, m2, hX, hY, hk, hb, I2⟩ := t_meanDepth I 
  refine zl_st R hct 1 1416 [some (.inl (.ref b)), some (.inr (12, 0)), some (.inr (13, 0)), some (.inr (32, 0)), some (.inr (33, 0)), some (.inl (.int x5)), none, none, none] [.inr (12, 0)] m rfl ⟨trivial, trivial⟩ ?_
  refine zl_st R hct 1 1418 [some (.inl (.ref b)), some (.inr (12, 0)), some (.inr (13, 0)), some (.inr (32, 0)), some (.inr (33, 0)), some (.inl (.int x5)), none, none, none] [.inr (33, 0), .inr (12, 0)] m rfl ⟨trivial, trivial⟩ ?_
  refine zl_call R hcc (d := 6) (k1 := 3) (k2 := k) (by decide) rfl r_L_meanDepth (w_L_meanDepth 0 2 m (k0, m1) hX) ?_
  refine zl_st R hct 2 1424 [some (.inl (.ref b)), some (.inr (12, 0)), some (.inr (13, 0)), some (.inr (32, 0)), some (.inr (33, 0)), some (.inl (.int x5)), some (.inl (.int k0)), none, none] [.inr (13, 0)] m1 rfl ⟨trivial, trivial, trivial⟩ ?_
  refine zl_call0 R hcc (d := 3) (by decide) rfl (r_X12_meanDepth (Nat.le_of_ble_eq_true rfl)) (w_X12_meanDepth 0 0 m1 (b0, m2) hY) ?_
  refine zl_st R hct 2 1430 [some (.inl (.ref b)), some (.inr (12, 0)), some (.inr (13, 0)), some (.inr (32, 0)), some (.inr (33, 0)), some (.inl (.int x5)), some (.inl (.int k0)), some (.inl (.double b0)), none] [.inr (13, 0)] m2 rfl ⟨trivial, trivial, trivial⟩ ?_
  refine zl_call0 R hcc (d := 1) (by decide) rfl (r_X12_thrown (Nat.le_of_ble_eq_true rfl)) (w_X12_thrown 0 0 m2 (m2.1 13 0 0) rfl) ?_
  refine zl_st R hct 1 1435 [some (.inl (.ref b)), some (.inr (12, 0)), some (.inr (13, 0)), some (.inr (32, 0)), some (.inr (33, 0)), some (.inl (.int x5)), some (.inl (.int k0)), some (.inl (.double b0)), none] [.inl (.int k0), .inl (.int (m2.1 13 0 0))] m2 rfl ⟨trivial, trivial⟩ ?_
  refine zl_br R hct rfl (fun _ => ?_) (fun cq => absurd hk cq)
  refine zl_st R hct 1 1442 [some (.inl (.ref b)), some (.inr (12, 0)), some (.inr (13, 0)), some (.inr (32, 0)), some (.inr (33, 0)), some (.inl (.int x5)), some (.inl (.int k0)), some (.inl (.double b0)), none] [.inl (.int k0)] m2 rfl ⟨trivial, trivial⟩ ?_
  refine zl_br R hct rfl (fun c0 => ?_) (fun _ => ?_)
  · refine zl_st R hct 5 1452 [some (.inl (.ref b)), some (.inr (12, 0)), some (.inr (13, 0)), some (.inr (32, 0)), some (.inr (33, 0)), some (.inl (.int x5)), some (.inl (.int k0)), some (.inl (.double b0)), none] [.inl (.int (Op.cmpValue (FP.dcmp (m2.2.2 33 0 0) b0) .l))] m2 rfl ⟨trivial, trivial, ⟨(Nat.le_of_ble_eq_true rfl), by unfold vp_in; decide⟩, trivial, trivial, trivial⟩ ?_
    refine zl_br R hct rfl (fun _ => ?_) (fun cq => absurd (by obtain ⟨h1, h2⟩ := hb c0; rw [h1, z_dc h2]; rfl) cq)
    refine zl_st R hct 1 3192 [some (.inl (.ref b)), some (.inr (12, 0)), some (.inr (13, 0)), some (.inr (32, 0)), some (.inr (33, 0)), some (.inl (.int x5)), some (.inl (.int k0)), some (.inl (.double b0)), none] [] m2 rfl ⟨trivial, trivial⟩ ?_
    exact zl_mask R [true, true, true, true, true, true, false, false, false] rfl (kk _ I2)
  · refine zl_st R hct 1 3192 [some (.inl (.ref b)), some (.inr (12, 0)), some (.inr (13, 0)), some (.inr (32, 0)), some (.inr (33, 0)), some (.inl (.int x5)), some (.inl (.int k0)), some (.inl (.double b0)), none] [] m2 rfl ⟨trivial, trivial⟩ ?_
    exact zl_mask R [true, true, true, true, true, true, false, false, false] rfl (kk _ I2)
