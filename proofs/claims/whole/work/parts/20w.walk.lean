theorem r_L_lakeOf {as : List zA} : z_rcv zN (zKD 271) as := by
  rw [show zKD 271 = 0 from rfl]
  trivial
noncomputable def f_L_lakeOf (x1 : Int32) (m : zM) : Option (Int32 × zM) :=
  z_bh (f_X11_lakeOf x1 m) (fun r1 m2 =>
  z_gd (z_inb (0 : Int32) (z_alen 32)) <| some ((0 : Int32), (z_sL m2 32 0 (Int32.toNatClampNeg (0 : Int32)) (Int32.toInt64 r1)))) (z_hf [(0, 9, 12, 21, 1, 1), (0, 9, 15, 61, 3, 2)] 4) id
theorem w_L_lakeOf (d k : Nat) (x1 : Int32) (m : zM) (a : Int32 × zM) (ha : f_L_lakeOf x1 m = some a) : z_Ev z_MT zN zRf (d + 6) (k + 2) 271 [.inr (12, 0), .inl (.int x1), .inr (32, 0)] m ((fun a => (z_cI a.1, a.2) : Int32 × zM → zO) a) := by
  refine zk_top (I := (yL_lakeOf, cL_lakeOf, 4, (some .int), [(0, 9, 12, 21, 1, 1), (0, 9, 15, 61, 3, 2)], tL_lakeOf, 0, 3, 0, 0, 0, 0)) (oc := (fun a => (z_cI a.1, a.2) : Int32 × zM → zO)) (a := a) rfl (Nat.le_of_ble_eq_true rfl) (fun G R => ?_) ha
  unfold f_L_lakeOf
  refine zk_st R 4 4 [some (.inr (12, 0)), some (.inl (.int x1)), some (.inr (32, 0)), none] [.inl (.int x1), .inr (12, 0), .inl (.int (0 : Int32)), .inr (32, 0)] m rfl ⟨trivial, trivial, trivial, trivial, trivial⟩ ?_
  refine zk_callh (cr := id) R (k + 0) 2 (fun r1 => some (.inl (.int r1))) rfl (r_X11_lakeOf (Nat.le_of_ble_eq_true rfl)) (fun b m' hb => w_X11_lakeOf d 0 x1 m _ hb) (fun e m' hb => w_X11_lakeOf d 0 x1 m _ hb) (fun _ _ => rfl) (fun r1 m2 => ?_)
  refine zk_gd fun e3 => ?_
  refine zk_st R 4 19 [some (.inr (12, 0)), some (.inl (.int x1)), some (.inr (32, 0)), none] [.inl (.int (0 : Int32))] (z_sL m2 32 0 (Int32.toNatClampNeg (0 : Int32)) (Int32.toInt64 r1)) rfl ⟨trivial, ⟨(Nat.le_of_ble_eq_true rfl), z_inb_in e3⟩, trivial, trivial, trivial⟩ ?_
  exact zk_ret R rfl trivial rfl
theorem r_L_meanDepth {as : List zA} : z_rcv zN (zKD 276) as := by
  rw [show zKD 276 = 0 from rfl]
  trivial
noncomputable def f_L_meanDepth (m : zM) : Option (Int32 × zM) :=
  z_bh (f_X11_meanDepth m) (fun r1 m2 =>
  z_gd (z_inb (0 : Int32) (z_alen 33)) <| some ((0 : Int32), (z_sD m2 33 0 (Int32.toNatClampNeg (0 : Int32)) r1))) (z_hf [(0, 7, 10, 79, 4, 1)] 3) id
theorem w_L_meanDepth (d k : Nat) (m : zM) (a : Int32 × zM) (ha : f_L_meanDepth m = some a) : z_Ev z_MT zN zRf (d + 6) (k + 1) 276 [.inr (12, 0), .inr (33, 0)] m ((fun a => (z_cI a.1, a.2) : Int32 × zM → zO) a) := by
  refine zk_top (I := (yL_meanDepth, cL_meanDepth, 3, (some .int), [(0, 7, 10, 79, 4, 1)], tL_meanDepth, 0, 2, 0, 0, 0, 0)) (oc := (fun a => (z_cI a.1, a.2) : Int32 × zM → zO)) (a := a) rfl (Nat.le_of_ble_eq_true rfl) (fun G R => ?_) ha
  unfold f_L_meanDepth
  refine zk_st R 3 3 [some (.inr (12, 0)), some (.inr (33, 0)), none] [.inr (12, 0), .inl (.int (0 : Int32)), .inr (33, 0)] m rfl ⟨trivial, trivial, trivial, trivial⟩ ?_
  refine zk_callh (cr := id) R (k + 0) 1 (fun r1 => some (.inl (.double r1))) rfl (r_X11_meanDepth (Nat.le_of_ble_eq_true rfl)) (fun b m' hb => w_X11_meanDepth d 0 m _ hb) (fun e m' hb => w_X11_meanDepth d 0 m _ hb) (fun _ _ => rfl) (fun r1 m2 => ?_)
  refine zk_gd fun e3 => ?_
  refine zk_st R 3 14 [some (.inr (12, 0)), some (.inr (33, 0)), none] [.inl (.int (0 : Int32))] (z_sD m2 33 0 (Int32.toNatClampNeg (0 : Int32)) r1) rfl ⟨⟨(Nat.le_of_ble_eq_true rfl), z_inb_in e3⟩, trivial, trivial, trivial⟩ ?_
  exact zk_ret R rfl trivial rfl
theorem r_L_depression {as : List zA} : z_rcv zN (zKD 287) as := by
  rw [show zKD 287 = 0 from rfl]
  trivial
noncomputable def f_L_depression (x1 : Int32) (x2 : Int32) (m : zM) : Option (Int32 × zM) :=
  z_bh (f_X11_depression x1 x2 m) (fun r1 m2 =>
  z_gd (z_inb (0 : Int32) (z_alen 32)) <| some ((0 : Int32), (z_sL m2 32 0 (Int32.toNatClampNeg (0 : Int32)) (Int32.toInt64 r1)))) (z_hf [(0, 10, 13, 21, 1, 1), (0, 10, 17, 13, 0, 2)] 5) id
theorem w_L_depression (d k : Nat) (x1 : Int32) (x2 : Int32) (m : zM) (a : Int32 × zM) (ha : f_L_depression x1 x2 m = some a) : z_Ev z_MT zN zRf (d + 6) (k + 1) 287 [.inr (12, 0), .inl (.int x1), .inl (.int x2), .inr (32, 0)] m ((fun a => (z_cI a.1, a.2) : Int32 × zM → zO) a) := by
  refine zk_top (I := (yL_depression, cL_depression, 5, (some .int), [(0, 10, 13, 21, 1, 1), (0, 10, 17, 13, 0, 2)], tL_depression, 0, 4, 0, 0, 0, 0)) (oc := (fun a => (z_cI a.1, a.2) : Int32 × zM → zO)) (a := a) rfl (Nat.le_of_ble_eq_true rfl) (fun G R => ?_) ha
  unfold f_L_depression
  refine zk_st R 5 5 [some (.inr (12, 0)), some (.inl (.int x1)), some (.inl (.int x2)), some (.inr (32, 0)), none] [.inl (.int x2), .inl (.int x1), .inr (12, 0), .inl (.int (0 : Int32)), .inr (32, 0)] m rfl ⟨trivial, trivial, trivial, trivial, trivial, trivial⟩ ?_
  refine zk_callh (cr := id) R (k + 0) 1 (fun r1 => some (.inl (.int r1))) rfl (r_X11_depression (Nat.le_of_ble_eq_true rfl)) (fun b m' hb => w_X11_depression d 0 x1 x2 m _ hb) (fun e m' hb => w_X11_depression d 0 x1 x2 m _ hb) (fun _ _ => rfl) (fun r1 m2 => ?_)
  refine zk_gd fun e3 => ?_
  refine zk_st R 4 22 [some (.inr (12, 0)), some (.inl (.int x1)), some (.inl (.int x2)), some (.inr (32, 0)), none] [.inl (.int (0 : Int32))] (z_sL m2 32 0 (Int32.toNatClampNeg (0 : Int32)) (Int32.toInt64 r1)) rfl ⟨trivial, ⟨(Nat.le_of_ble_eq_true rfl), z_inb_in e3⟩, trivial, trivial, trivial⟩ ?_
  exact zk_ret R rfl trivial rfl
theorem r_L_depressionAt {as : List zA} : z_rcv zN (zKD 288) as := by
  rw [show zKD 288 = 0 from rfl]
  trivial
noncomputable def f_L_depressionAt (x1 : Int32) (x2 : Int32) (m : zM) : Option (Int32 × zM) :=
  z_bh (f_X11_depressionAt x1 x2 m) (fun r1 m2 =>
  z_gd (z_inb (0 : Int32) (z_alen 32)) <| some ((0 : Int32), (z_sL m2 32 0 (Int32.toNatClampNeg (0 : Int32)) (Int32.toInt64 r1)))) (z_hf [(0, 10, 13, 21, 1, 1), (0, 10, 17, 13, 0, 2), (0, 10, 21, 61, 3, 3)] 5) id
theorem w_L_depressionAt (d k : Nat) (x1 : Int32) (x2 : Int32) (m : zM) (a : Int32 × zM) (ha : f_L_depressionAt x1 x2 m = some a) : z_Ev z_MT zN zRf (d + 6) (k + 3) 288 [.inr (12, 0), .inl (.int x1), .inl (.int x2), .inr (32, 0)] m ((fun a => (z_cI a.1, a.2) : Int32 × zM → zO) a) := by
  refine zk_top (I := (yL_depressionAt, cL_depressionAt, 5, (some .int), [(0, 10, 13, 21, 1, 1), (0, 10, 17, 13, 0, 2), (0, 10, 21, 61, 3, 3)], tL_depressionAt, 0, 4, 0, 0, 0, 0)) (oc := (fun a => (z_cI a.1, a.2) : Int32 × zM → zO)) (a := a) rfl (Nat.le_of_ble_eq_true rfl) (fun G R => ?_) ha
  unfold f_L_depressionAt
  refine zk_st R 5 5 [some (.inr (12, 0)), some (.inl (.int x1)), some (.inl (.int x2)), some (.inr (32, 0)), none] [.inl (.int x2), .inl (.int x1), .inr (12, 0), .inl (.int (0 : Int32)), .inr (32, 0)] m rfl ⟨trivial, trivial, trivial, trivial, trivial, trivial⟩ ?_
  refine zk_callh (cr := id) R (k + 0) 3 (fun r1 => some (.inl (.int r1))) rfl (r_X11_depressionAt (Nat.le_of_ble_eq_true rfl)) (fun b m' hb => w_X11_depressionAt d 0 x1 x2 m _ hb) (fun e m' hb => w_X11_depressionAt d 0 x1 x2 m _ hb) (fun _ _ => rfl) (fun r1 m2 => ?_)
  refine zk_gd fun e3 => ?_
  refine zk_st R 4 26 [some (.inr (12, 0)), some (.inl (.int x1)), some (.inl (.int x2)), some (.inr (32, 0)), none] [.inl (.int (0 : Int32))] (z_sL m2 32 0 (Int32.toNatClampNeg (0 : Int32)) (Int32.toInt64 r1)) rfl ⟨trivial, ⟨(Nat.le_of_ble_eq_true rfl), z_inb_in e3⟩, trivial, trivial, trivial⟩ ?_
  exact zk_ret R rfl trivial rfl
theorem r_L_depthsIf {as : List zA} : z_rcv zN (zKD 295) as := by
  rw [show zKD 295 = 0 from rfl]
  trivial
noncomputable def f_L_depthsIf (x1 : Int32) (x2 : Int32) (m : zM) : Option (Int32 × zM) :=
  z_bh (f_X11_depthsIf x1 x2 m) (fun r1 m2 =>
  z_gd (z_inb (0 : Int32) (z_alen 32)) <| some ((0 : Int32), (z_sL m2 32 0 (Int32.toNatClampNeg (0 : Int32)) (Int32.toInt64 r1)))) (z_hf [(0, 10, 13, 21, 1, 1), (0, 10, 17, 13, 0, 2)] 5) id
theorem w_L_depthsIf (d k : Nat) (x1 : Int32) (x2 : Int32) (m : zM) (a : Int32 × zM) (ha : f_L_depthsIf x1 x2 m = some a) : z_Ev z_MT zN zRf (d + 6) (k + 2) 295 [.inr (12, 0), .inl (.int x1), .inl (.int x2), .inr (32, 0)] m ((fun a => (z_cI a.1, a.2) : Int32 × zM → zO) a) := by
  refine zk_top (I := (yL_depthsIf, cL_depthsIf, 5, (some .int), [(0, 10, 13, 21, 1, 1), (0, 10, 17, 13, 0, 2)], tL_depthsIf, 0, 4, 0, 0, 0, 0)) (oc := (fun a => (z_cI a.1, a.2) : Int32 × zM → zO)) (a := a) rfl (Nat.le_of_ble_eq_true rfl) (fun G R => ?_) ha
  unfold f_L_depthsIf
  refine zk_st R 5 5 [some (.inr (12, 0)), some (.inl (.int x1)), some (.inl (.int x2)), some (.inr (32, 0)), none] [.inl (.int x2), .inl (.int x1), .inr (12, 0), .inl (.int (0 : Int32)), .inr (32, 0)] m rfl ⟨trivial, trivial, trivial, trivial, trivial, trivial⟩ ?_
  refine zk_callh (cr := id) R (k + 0) 2 (fun r1 => some (.inl (.int r1))) rfl (r_X11_depthsIf (Nat.le_of_ble_eq_true rfl)) (fun b m' hb => w_X11_depthsIf d 0 x1 x2 m _ hb) (fun e m' hb => w_X11_depthsIf d 0 x1 x2 m _ hb) (fun _ _ => rfl) (fun r1 m2 => ?_)
  refine zk_gd fun e3 => ?_
  refine zk_st R 4 22 [some (.inr (12, 0)), some (.inl (.int x1)), some (.inl (.int x2)), some (.inr (32, 0)), none] [.inl (.int (0 : Int32))] (z_sL m2 32 0 (Int32.toNatClampNeg (0 : Int32)) (Int32.toInt64 r1)) rfl ⟨trivial, ⟨(Nat.le_of_ble_eq_true rfl), z_inb_in e3⟩, trivial, trivial, trivial⟩ ?_
  exact zk_ret R rfl trivial rfl
theorem r_X11_count {i : Nat} {t : List zA} (h : i < zN 12) : z_rcv zN (zKD 112) (.inr (12, i) :: t) := by
  rw [show zKD 112 = 12 from rfl]
  exact ⟨rfl, h⟩
noncomputable def f_X11_count (x1 : Int32) (m : zM) : Option ((Int32 ⊕ Nat) × zM) :=
  z_bx (f_X11_requireRange x1 (0 : Int32) (10 : Int32) m) (fun r1 m2 =>
  if x1 = (0 : Int32) then
    some (.inl (m2.1 6 0 0), m2)
  else if x1 = (1 : Int32) then
    some (.inl (m2.1 6 0 1), m2)
  else if x1 = (2 : Int32) then
    Option.bind (f_J13_bitCount_95d88 (m2.2.1 6 0 3) m2) fun r6 =>
    some (.inl r6, m2)
  else if x1 = (3 : Int32) then
    some (.inl (m2.1 6 0 2), m2)
  else if x1 = (4 : Int32) then
    Option.bind (f_X2_fill 0 m2) fun r9 =>
    some (.inl (r9.1 4 0 4), r9)
  else if x1 = (5 : Int32) then
    Option.bind (f_X11_surveyStreams m2) fun r11 =>
    Option.bind (f_J13_bitCount_95d88 (r11.2.1 9 0 0) r11) fun r12 =>
    some (.inl r12, r11)
  else if x1 = (6 : Int32) then
    Option.bind (f_X11_surveyStreams m2) fun r14 =>
    some (.inl (r14.1 9 0 6), r14)
  else if x1 = (7 : Int32) then
    Option.bind (f_X1_find 0 m2) fun r16 =>
    some (.inl (r16.1 3 0 0), r16)
  else if x1 = (8 : Int32) then
    Option.bind (f_X11_surveyFlows 0 m2) fun r18 =>
    Option.bind (f_J13_bitCount_95d88 (r18.2.1 5 0 1) r18) fun r19 =>
    some (.inl r19, r18)
  else if x1 = (9 : Int32) then
    some (.inl (m2.1 10 0 1), m2)
  else
    some (.inl (m2.1 7 0 2), m2)) id
theorem w_X11_count (d k : Nat) (x1 : Int32) (m : zM) (a : (Int32 ⊕ Nat) × zM) (ha : f_X11_count x1 m = some a) : z_Ev z_MT zN zRf (d + 7) (k + 1) 112 [.inr (12, 0), .inl (.int x1)] m ((fun a => (z_cX z_cI a.1, a.2) : (Int32 ⊕ Nat) × zM → zO) a) := by
  refine zk_top (I := (yX11_count, cX11_count, 2, (some .int), [], tX11_count, 12, 1, 12, 0, 0, 0)) (oc := (fun a => (z_cX z_cI a.1, a.2) : (Int32 ⊕ Nat) × zM → zO)) (a := a) rfl (Nat.le_of_ble_eq_true rfl) (fun G R => ?_) ha
  unfold f_X11_count
  refine zk_st R 3 4 [some (.inr (12, 0)), some (.inl (.int x1))] [.inl (.int (10 : Int32)), .inl (.int (0 : Int32)), .inl (.int x1)] m rfl ⟨trivial, trivial, trivial, trivial⟩ ?_
  refine zk_callz R (k + 0) 1 (fun _ => none) rfl (r_X11_requireRange) (fun b m' hb => w_X11_requireRange (d + 5) 0 x1 (0 : Int32) (10 : Int32) m _ hb) (fun e m' hb => w_X11_requireRange (d + 5) 0 x1 (0 : Int32) (10 : Int32) m _ hb) (fun _ => rfl) (fun _ _ => rfl) (fun r1 m2 => ?_)
  refine zk_st R 1 8 [some (.inr (12, 0)), some (.inl (.int x1))] [.inl (.int x1)] m2 rfl ⟨trivial, trivial⟩ ?_
  refine zk_if (fun e3 => ?_) (fun e3 => ?_)
  · refine zk_tsw R rfl (z_swv e3 (by decide +kernel : _ = 64)) ?_
    refine zk_st R 3 71 [some (.inr (12, 0)), some (.inl (.int x1))] [.inl (.int (m2.1 6 0 0))] m2 rfl ⟨trivial, (Nat.le_of_ble_eq_true rfl), (Nat.le_of_ble_eq_true rfl), trivial⟩ ?_
    exact zk_ret R rfl trivial rfl
  refine zk_if (fun e4 => ?_) (fun e4 => ?_)
  · refine zk_tsw R rfl (z_swv e4 (by decide +kernel : _ = 72)) ?_
    refine zk_st R 3 79 [some (.inr (12, 0)), some (.inl (.int x1))] [.inl (.int (m2.1 6 0 1))] m2 rfl ⟨trivial, (Nat.le_of_ble_eq_true rfl), (Nat.le_of_ble_eq_true rfl), trivial⟩ ?_
    exact zk_ret R rfl trivial rfl
  refine zk_if (fun e5 => ?_) (fun e5 => ?_)
  · refine zk_tsw R rfl (z_swv e5 (by decide +kernel : _ = 80)) ?_
    refine zk_st R 3 87 [some (.inr (12, 0)), some (.inl (.int x1))] [.inl (.long (m2.2.1 6 0 3))] m2 rfl ⟨trivial, (Nat.le_of_ble_eq_true rfl), (Nat.le_of_ble_eq_true rfl), trivial⟩ ?_
    refine zk_call R (fun b => some (.inl (.int b))) (fun _ => m2) rfl (r_J13_bitCount_95d88) (fun b hb => w_J13_bitCount_95d88 (d + 5) 0 (m2.2.1 6 0 3) m2 b hb) (fun r6 => ?_)
    exact zk_ret R rfl trivial rfl
  refine zk_if (fun e7 => ?_) (fun e7 => ?_)
  · refine zk_tsw R rfl (z_swv e7 (by decide +kernel : _ = 91)) ?_
    refine zk_st R 3 98 [some (.inr (12, 0)), some (.inl (.int x1))] [.inl (.int (m2.1 6 0 2))] m2 rfl ⟨trivial, (Nat.le_of_ble_eq_true rfl), (Nat.le_of_ble_eq_true rfl), trivial⟩ ?_
    exact zk_ret R rfl trivial rfl
  refine zk_if (fun e8 => ?_) (fun e8 => ?_)
  · refine zk_tsw R rfl (z_swv e8 (by decide +kernel : _ = 99)) ?_
    refine zk_st R 4 107 [some (.inr (12, 0)), some (.inl (.int x1))] [.inr (6, 0), .inr (4, 0)] m2 rfl ⟨trivial, (Nat.le_of_ble_eq_true rfl), trivial, (Nat.le_of_ble_eq_true rfl), trivial⟩ ?_
    refine zk_call R (fun _ => none) id rfl (r_X2_fill (Nat.le_of_ble_eq_true rfl)) (fun b hb => w_X2_fill (d + 2) 0 0 (Nat.le_of_ble_eq_true rfl) m2 b hb) (fun r9 => ?_)
    refine zk_st R 3 117 [some (.inr (12, 0)), some (.inl (.int x1))] [.inl (.int (r9.1 4 0 4))] r9 rfl ⟨trivial, (Nat.le_of_ble_eq_true rfl), (Nat.le_of_ble_eq_true rfl), trivial⟩ ?_
    exact zk_ret R rfl trivial rfl
  refine zk_if (fun e10 => ?_) (fun e10 => ?_)
  · refine zk_tsw R rfl (z_swv e10 (by decide +kernel : _ = 118)) ?_
    refine zk_st R 1 119 [some (.inr (12, 0)), some (.inl (.int x1))] [.inr (12, 0)] m2 rfl ⟨trivial, trivial⟩ ?_
    refine zk_call R (fun _ => none) id rfl (r_X11_surveyStreams (Nat.le_of_ble_eq_true rfl)) (fun b hb => w_X11_surveyStreams d 0 m2 b hb) (fun r11 => ?_)
    refine zk_st R 3 129 [some (.inr (12, 0)), some (.inl (.int x1))] [.inl (.long (r11.2.1 9 0 0))] r11 rfl ⟨trivial, (Nat.le_of_ble_eq_true rfl), (Nat.le_of_ble_eq_true rfl), trivial⟩ ?_
    refine zk_call R (fun b => some (.inl (.int b))) (fun _ => r11) rfl (r_J13_bitCount_95d88) (fun b hb => w_J13_bitCount_95d88 (d + 5) 0 (r11.2.1 9 0 0) r11 b hb) (fun r12 => ?_)
    exact zk_ret R rfl trivial rfl
  refine zk_if (fun e13 => ?_) (fun e13 => ?_)
  · refine zk_tsw R rfl (z_swv e13 (by decide +kernel : _ = 133)) ?_
    refine zk_st R 1 134 [some (.inr (12, 0)), some (.inl (.int x1))] [.inr (12, 0)] m2 rfl ⟨trivial, trivial⟩ ?_
    refine zk_call R (fun _ => none) id rfl (r_X11_surveyStreams (Nat.le_of_ble_eq_true rfl)) (fun b hb => w_X11_surveyStreams d 0 m2 b hb) (fun r14 => ?_)
    refine zk_st R 3 144 [some (.inr (12, 0)), some (.inl (.int x1))] [.inl (.int (r14.1 9 0 6))] r14 rfl ⟨trivial, (Nat.le_of_ble_eq_true rfl), (Nat.le_of_ble_eq_true rfl), trivial⟩ ?_
    exact zk_ret R rfl trivial rfl
  refine zk_if (fun e15 => ?_) (fun e15 => ?_)
  · refine zk_tsw R rfl (z_swv e15 (by decide +kernel : _ = 145)) ?_
    refine zk_st R 4 153 [some (.inr (12, 0)), some (.inl (.int x1))] [.inr (6, 0), .inr (3, 0)] m2 rfl ⟨trivial, (Nat.le_of_ble_eq_true rfl), trivial, (Nat.le_of_ble_eq_true rfl), trivial⟩ ?_
    refine zk_call R (fun _ => none) id rfl (r_X1_find (Nat.le_of_ble_eq_true rfl)) (fun b hb => w_X1_find (d + 2) 0 0 (Nat.le_of_ble_eq_true rfl) m2 b hb) (fun r16 => ?_)
    refine zk_st R 3 163 [some (.inr (12, 0)), some (.inl (.int x1))] [.inl (.int (r16.1 3 0 0))] r16 rfl ⟨trivial, (Nat.le_of_ble_eq_true rfl), (Nat.le_of_ble_eq_true rfl), trivial⟩ ?_
    exact zk_ret R rfl trivial rfl
  refine zk_if (fun e17 => ?_) (fun e17 => ?_)
  · refine zk_tsw R rfl (z_swv e17 (by decide +kernel : _ = 164)) ?_
    refine zk_st R 3 169 [some (.inr (12, 0)), some (.inl (.int x1))] [.inr (6, 0), .inr (12, 0)] m2 rfl ⟨trivial, trivial, (Nat.le_of_ble_eq_true rfl), trivial⟩ ?_
    refine zk_call R (fun _ => none) id rfl (r_X11_surveyFlows (Nat.le_of_ble_eq_true rfl)) (fun b hb => w_X11_surveyFlows d 0 0 (Nat.le_of_ble_eq_true rfl) m2 b hb) (fun r18 => ?_)
    refine zk_st R 3 179 [some (.inr (12, 0)), some (.inl (.int x1))] [.inl (.long (r18.2.1 5 0 1))] r18 rfl ⟨trivial, (Nat.le_of_ble_eq_true rfl), (Nat.le_of_ble_eq_true rfl), trivial⟩ ?_
    refine zk_call R (fun b => some (.inl (.int b))) (fun _ => r18) rfl (r_J13_bitCount_95d88) (fun b hb => w_J13_bitCount_95d88 (d + 5) 0 (r18.2.1 5 0 1) r18 b hb) (fun r19 => ?_)
    exact zk_ret R rfl trivial rfl
  refine zk_if (fun e20 => ?_) (fun e20 => ?_)
  · refine zk_tsw R rfl (z_swv e20 (by decide +kernel : _ = 183)) ?_
    refine zk_st R 3 190 [some (.inr (12, 0)), some (.inl (.int x1))] [.inl (.int (m2.1 10 0 1))] m2 rfl ⟨trivial, (Nat.le_of_ble_eq_true rfl), (Nat.le_of_ble_eq_true rfl), trivial⟩ ?_
    exact zk_ret R rfl trivial rfl
  refine zk_tsw R rfl (z_swd 10 (by decide) (fun i hi => ?_) (by decide : _ = 191)) ?_
  · have hi' : i = 0 ∨ i = 1 ∨ i = 2 ∨ i = 3 ∨ i = 4 ∨ i = 5 ∨ i = 6 ∨ i = 7 ∨ i = 8 ∨ i = 9 := by omega
    rcases hi' with rfl | rfl | rfl | rfl | rfl | rfl | rfl | rfl | rfl | rfl
    · exact e3
    · exact e4
    · exact e5
    · exact e7
    · exact e8
    · exact e10
    · exact e13
    · exact e15
    · exact e17
    · exact e20
  · refine zk_st R 3 198 [some (.inr (12, 0)), some (.inl (.int x1))] [.inl (.int (m2.1 7 0 2))] m2 rfl ⟨trivial, (Nat.le_of_ble_eq_true rfl), (Nat.le_of_ble_eq_true rfl), trivial⟩ ?_
    exact zk_ret R rfl trivial rfl
theorem r_X11_flow {i : Nat} {t : List zA} (h : i < zN 12) : z_rcv zN (zKD 122) (.inr (12, i) :: t) := by
  rw [show zKD 122 = 12 from rfl]
  exact ⟨rfl, h⟩
noncomputable def f_X11_flow (x1 : Int32) (m : zM) : Option ((Int32 ⊕ Nat) × zM) :=
  z_bx (f_X11_requireCell x1 m) (fun r1 m2 =>
  Option.bind (f_X11_surveyFlows 0 m2) fun r3 =>
  Option.bind (f_X7_at 20 37 x1 r3) fun r4 =>
  if r4 = (-1 : Int32) then
    some (.inr 3, r3)
  else
    some (.inl r4, r3)) id
theorem w_X11_flow (d k : Nat) (x1 : Int32) (m : zM) (a : (Int32 ⊕ Nat) × zM) (ha : f_X11_flow x1 m = some a) : z_Ev z_MT zN zRf (d + 7) (k + 2) 122 [.inr (12, 0), .inl (.int x1)] m ((fun a => (z_cX z_cI a.1, a.2) : (Int32 ⊕ Nat) × zM → zO) a) := by
  refine zk_top (I := (yX11_flow, cX11_flow, 3, (some .int), [], tX11_flow, 12, 1, 12, 0, 0, 0)) (oc := (fun a => (z_cX z_cI a.1, a.2) : (Int32 ⊕ Nat) × zM → zO)) (a := a) rfl (Nat.le_of_ble_eq_true rfl) (fun G R => ?_) ha
  unfold f_X11_flow
  refine zk_st R 2 2 [some (.inr (12, 0)), some (.inl (.int x1)), none] [.inl (.int x1), .inr (12, 0)] m rfl ⟨trivial, trivial, trivial⟩ ?_
  refine zk_callz R (k + 1) 1 (fun _ => none) rfl (r_X11_requireCell (Nat.le_of_ble_eq_true rfl)) (fun b m' hb => w_X11_requireCell (d + 4) 0 x1 m _ hb) (fun e m' hb => w_X11_requireCell (d + 4) 0 x1 m _ hb) (fun _ => rfl) (fun _ _ => rfl) (fun r1 m2 => ?_)
  refine zk_st R 3 10 [some (.inr (12, 0)), some (.inl (.int x1)), none] [.inr (6, 0), .inr (12, 0)] m2 rfl ⟨trivial, trivial, (Nat.le_of_ble_eq_true rfl), trivial⟩ ?_
  refine zk_call R (fun _ => none) id rfl (r_X11_surveyFlows (Nat.le_of_ble_eq_true rfl)) (fun b hb => w_X11_surveyFlows d 0 0 (Nat.le_of_ble_eq_true rfl) m2 b hb) (fun r3 => ?_)
  refine zk_st R 4 21 [some (.inr (12, 0)), some (.inl (.int x1)), none] [.inl (.int x1), .inr (20, 37)] r3 rfl ⟨trivial, (Nat.le_of_ble_eq_true rfl), (Nat.le_of_ble_eq_true rfl), trivial, trivial⟩ ?_
  refine zk_call R (fun b => some (.inl (.int b))) (fun _ => r3) rfl (r_X7_at) (fun b hb => w_X7_at_k20 (d + 5) 0 37 (Nat.le_of_ble_eq_true rfl) x1 r3 b hb) (fun r4 => ?_)
  refine zk_st R 3 27 [some (.inr (12, 0)), some (.inl (.int x1)), some (.inl (.int r4))] [.inl (.int (-1 : Int32)), .inl (.int r4)] r3 rfl ⟨trivial, trivial, trivial, trivial⟩ ?_
  refine zk_br R rfl (fun _ => ?_) (fun _ => ?_)
  · exact zk_thr R (k := k + 0) rfl rfl
  · refine zk_st R 1 42 [some (.inr (12, 0)), some (.inl (.int x1)), some (.inl (.int r4))] [.inl (.int r4)] r3 rfl ⟨trivial, trivial⟩ ?_
    exact zk_ret R rfl trivial rfl
theorem r_X11_why {i : Nat} {t : List zA} (h : i < zN 12) : z_rcv zN (zKD 123) (.inr (12, i) :: t) := by
  rw [show zKD 123 = 12 from rfl]
  exact ⟨rfl, h⟩
noncomputable def f_X11_why (x1 : Int32) (x2 : Int32) (m : zM) : Option ((Int32 ⊕ Nat) × zM) :=
  z_bx (f_X11_requireCell x1 m) (fun r1 m2 =>
  z_bx (f_X11_requireRange x2 (0 : Int32) (2 : Int32) m2) (fun r3 m4 =>
  Option.bind (f_X11_surveyFlows 0 m4) fun r5 =>
  if x2 = (0 : Int32) then
    Option.bind (f_X7_has (r5.2.1 5 0 1) x1 r5) fun r7 =>
    if (z_bi r7) = 0 then
      Option.bind (f_X4_isOutlet 0 x1 r5) fun r9 =>
      if (z_bi r9) = 0 then
        some (.inl (1 : Int32), r5)
      else
        some (.inl (0 : Int32), r5)
    else
      some (.inl (2 : Int32), r5)
  else if x2 = (1 : Int32) then
    Option.bind (f_X7_at 20 38 x1 r5) fun r12 =>
    some (.inl r12, r5)
  else
    Option.bind (f_X7_at 20 36 x1 r5) fun r13 =>
    some (.inl r13, r5)) id) id
theorem w_X11_why (d k : Nat) (x1 : Int32) (x2 : Int32) (m : zM) (a : (Int32 ⊕ Nat) × zM) (ha : f_X11_why x1 x2 m = some a) : z_Ev z_MT zN zRf (d + 7) (k + 2) 123 [.inr (12, 0), .inl (.int x1), .inl (.int x2)] m ((fun a => (z_cX z_cI a.1, a.2) : (Int32 ⊕ Nat) × zM → zO) a) := by
  refine zk_top (I := (yX11_why, cX11_why, 3, (some .int), [], tX11_why, 12, 2, 12, 0, 0, 0)) (oc := (fun a => (z_cX z_cI a.1, a.2) : (Int32 ⊕ Nat) × zM → zO)) (a := a) rfl (Nat.le_of_ble_eq_true rfl) (fun G R => ?_) ha
  unfold f_X11_why
  refine zk_st R 2 2 [some (.inr (12, 0)), some (.inl (.int x1)), some (.inl (.int x2))] [.inl (.int x1), .inr (12, 0)] m rfl ⟨trivial, trivial, trivial⟩ ?_
  refine zk_callz R (k + 1) 1 (fun _ => none) rfl (r_X11_requireCell (Nat.le_of_ble_eq_true rfl)) (fun b m' hb => w_X11_requireCell (d + 4) 0 x1 m _ hb) (fun e m' hb => w_X11_requireCell (d + 4) 0 x1 m _ hb) (fun _ => rfl) (fun _ _ => rfl) (fun r1 m2 => ?_)
  refine zk_st R 3 8 [some (.inr (12, 0)), some (.inl (.int x1)), some (.inl (.int x2))] [.inl (.int (2 : Int32)), .inl (.int (0 : Int32)), .inl (.int x2)] m2 rfl ⟨trivial, trivial, trivial, trivial⟩ ?_
  refine zk_callz R (k + 0) 1 (fun _ => none) rfl (r_X11_requireRange) (fun b m' hb => w_X11_requireRange (d + 5) 0 x2 (0 : Int32) (2 : Int32) m2 _ hb) (fun e m' hb => w_X11_requireRange (d + 5) 0 x2 (0 : Int32) (2 : Int32) m2 _ hb) (fun _ => rfl) (fun _ _ => rfl) (fun r3 m4 => ?_)
  refine zk_st R 3 16 [some (.inr (12, 0)), some (.inl (.int x1)), some (.inl (.int x2))] [.inr (6, 0), .inr (12, 0)] m4 rfl ⟨trivial, trivial, (Nat.le_of_ble_eq_true rfl), trivial⟩ ?_
  refine zk_call R (fun _ => none) id rfl (r_X11_surveyFlows (Nat.le_of_ble_eq_true rfl)) (fun b hb => w_X11_surveyFlows d 0 0 (Nat.le_of_ble_eq_true rfl) m4 b hb) (fun r5 => ?_)
  refine zk_st R 1 20 [some (.inr (12, 0)), some (.inl (.int x1)), some (.inl (.int x2))] [.inl (.int x2)] r5 rfl ⟨trivial, trivial⟩ ?_
  refine zk_if (fun e6 => ?_) (fun e6 => ?_)
  · refine zk_lsw R rfl (z_swv e6 (by decide +kernel : _ = 48)) ?_
    refine zk_st R 4 56 [some (.inr (12, 0)), some (.inl (.int x1)), some (.inl (.int x2))] [.inl (.int x1), .inl (.long (r5.2.1 5 0 1))] r5 rfl ⟨trivial, (Nat.le_of_ble_eq_true rfl), (Nat.le_of_ble_eq_true rfl), trivial, trivial⟩ ?_
    refine zk_call R (fun b => some (.inl (.int (z_bi b)))) (fun _ => r5) rfl (r_X7_has) (fun b hb => w_X7_has (d + 5) 0 (r5.2.1 5 0 1) x1 r5 b hb) (fun r7 => ?_)
    refine zk_br R rfl (fun _ => ?_) (fun _ => ?_)
    · refine zk_st R 3 71 [some (.inr (12, 0)), some (.inl (.int x1)), some (.inl (.int x2))] [.inl (.int x1), .inr (6, 0)] r5 rfl ⟨trivial, (Nat.le_of_ble_eq_true rfl), trivial, trivial⟩ ?_
      refine zk_call R (fun b => some (.inl (.int (z_bi b)))) (fun _ => r5) rfl (r_X4_isOutlet (Nat.le_of_ble_eq_true rfl)) (fun b hb => w_X4_isOutlet (d + 4) 0 0 (Nat.le_of_ble_eq_true rfl) x1 r5 b hb) (fun r9 => ?_)
      refine zk_br R rfl (fun _ => ?_) (fun _ => ?_)
      · refine zk_st R 1 82 [some (.inr (12, 0)), some (.inl (.int x1)), some (.inl (.int x2))] [.inl (.int (1 : Int32))] r5 rfl ⟨trivial, trivial⟩ ?_
        exact zk_ret R rfl trivial rfl
      · refine zk_st R 2 82 [some (.inr (12, 0)), some (.inl (.int x1)), some (.inl (.int x2))] [.inl (.int (0 : Int32))] r5 rfl ⟨trivial, trivial, trivial⟩ ?_
        exact zk_ret R rfl trivial rfl
    · refine zk_st R 2 82 [some (.inr (12, 0)), some (.inl (.int x1)), some (.inl (.int x2))] [.inl (.int (2 : Int32))] r5 rfl ⟨trivial, trivial, trivial⟩ ?_
      exact zk_ret R rfl trivial rfl
  refine zk_if (fun e11 => ?_) (fun e11 => ?_)
  · refine zk_lsw R rfl (z_swv e11 (by decide +kernel : _ = 83)) ?_
    refine zk_st R 4 91 [some (.inr (12, 0)), some (.inl (.int x1)), some (.inl (.int x2))] [.inl (.int x1), .inr (20, 38)] r5 rfl ⟨trivial, (Nat.le_of_ble_eq_true rfl), (Nat.le_of_ble_eq_true rfl), trivial, trivial⟩ ?_
    refine zk_call R (fun b => some (.inl (.int b))) (fun _ => r5) rfl (r_X7_at) (fun b hb => w_X7_at_k20 (d + 5) 0 38 (Nat.le_of_ble_eq_true rfl) x1 r5 b hb) (fun r12 => ?_)
    exact zk_ret R rfl trivial rfl
  refine zk_lsw R rfl (t := 95) (by unfold z_swL; rw [z_swm (by intro q hq; simp at hq; rcases hq with rfl | rfl <;> assumption)]; decide) ?_
  · refine zk_st R 4 103 [some (.inr (12, 0)), some (.inl (.int x1)), some (.inl (.int x2))] [.inl (.int x1), .inr (20, 36)] r5 rfl ⟨trivial, (Nat.le_of_ble_eq_true rfl), (Nat.le_of_ble_eq_true rfl), trivial, trivial⟩ ?_
    refine zk_call R (fun b => some (.inl (.int b))) (fun _ => r5) rfl (r_X7_at) (fun b hb => w_X7_at_k20 (d + 5) 0 36 (Nat.le_of_ble_eq_true rfl) x1 r5 b hb) (fun r13 => ?_)
    exact zk_ret R rfl trivial rfl
theorem r_X11_route {i : Nat} {t : List zA} (h : i < zN 12) : z_rcv zN (zKD 124) (.inr (12, i) :: t) := by
  rw [show zKD 124 = 12 from rfl]
  exact ⟨rfl, h⟩
noncomputable def f_X11_route (x1 : Int32) (x2 : Int32) (m : zM) : Option ((Int32 ⊕ Nat) × zM) :=
  z_bx (f_X11_requireCell x1 m) (fun r1 m2 =>
  Option.bind (f_X11_surveyFlows 0 m2) fun r3 =>
  if x2 < (-1 : Int32) then
    some (.inr 3, r3)
  else
    Option.bind (f_X7_at 20 43 x1 r3) fun r5 =>
    if x2 ≤ r5 then
      if x2 = (-1 : Int32) then
        Option.bind (f_X7_at 20 42 x1 r3) fun r8 =>
        some (.inl r8, r3)
      else
        Option.bind (f_X3_downstream x1 x2 r3) fun r9 =>
        some (.inl r9, r3)
    else
      some (.inr 3, r3)) id
theorem w_X11_route (d k : Nat) (x1 : Int32) (x2 : Int32) (m : zM) (a : (Int32 ⊕ Nat) × zM) (ha : f_X11_route x1 x2 m = some a) : z_Ev z_MT zN zRf (d + 7) (k + 2) 124 [.inr (12, 0), .inl (.int x1), .inl (.int x2)] m ((fun a => (z_cX z_cI a.1, a.2) : (Int32 ⊕ Nat) × zM → zO) a) := by
  refine zk_top (I := (yX11_route, cX11_route, 3, (some .int), [], tX11_route, 12, 2, 12, 0, 0, 0)) (oc := (fun a => (z_cX z_cI a.1, a.2) : (Int32 ⊕ Nat) × zM → zO)) (a := a) rfl (Nat.le_of_ble_eq_true rfl) (fun G R => ?_) ha
  unfold f_X11_route
  refine zk_st R 2 2 [some (.inr (12, 0)), some (.inl (.int x1)), some (.inl (.int x2))] [.inl (.int x1), .inr (12, 0)] m rfl ⟨trivial, trivial, trivial⟩ ?_
  refine zk_callz R (k + 1) 1 (fun _ => none) rfl (r_X11_requireCell (Nat.le_of_ble_eq_true rfl)) (fun b m' hb => w_X11_requireCell (d + 4) 0 x1 m _ hb) (fun e m' hb => w_X11_requireCell (d + 4) 0 x1 m _ hb) (fun _ => rfl) (fun _ _ => rfl) (fun r1 m2 => ?_)
  refine zk_st R 3 10 [some (.inr (12, 0)), some (.inl (.int x1)), some (.inl (.int x2))] [.inr (6, 0), .inr (12, 0)] m2 rfl ⟨trivial, trivial, (Nat.le_of_ble_eq_true rfl), trivial⟩ ?_
  refine zk_call R (fun _ => none) id rfl (r_X11_surveyFlows (Nat.le_of_ble_eq_true rfl)) (fun b hb => w_X11_surveyFlows d 0 0 (Nat.le_of_ble_eq_true rfl) m2 b hb) (fun r3 => ?_)
  refine zk_st R 2 15 [some (.inr (12, 0)), some (.inl (.int x1)), some (.inl (.int x2))] [.inl (.int (-1 : Int32)), .inl (.int x2)] r3 rfl ⟨trivial, trivial, trivial⟩ ?_
  refine zk_br R rfl (fun _ => ?_) (fun _ => ?_)
  · exact zk_thr R (k := k + 0) rfl rfl
  · refine zk_st R 5 27 [some (.inr (12, 0)), some (.inl (.int x1)), some (.inl (.int x2))] [.inl (.int x1), .inr (20, 43), .inl (.int x2)] r3 rfl ⟨trivial, trivial, (Nat.le_of_ble_eq_true rfl), (Nat.le_of_ble_eq_true rfl), trivial, trivial⟩ ?_
    refine zk_call R (fun b => some (.inl (.int b))) (fun _ => r3) rfl (r_X7_at) (fun b hb => w_X7_at_k20 (d + 5) 0 43 (Nat.le_of_ble_eq_true rfl) x1 r3 b hb) (fun r5 => ?_)
    refine zk_br R rfl (fun _ => ?_) (fun _ => ?_)
    · refine zk_st R 2 46 [some (.inr (12, 0)), some (.inl (.int x1)), some (.inl (.int x2))] [.inl (.int (-1 : Int32)), .inl (.int x2)] r3 rfl ⟨trivial, trivial, trivial⟩ ?_
      refine zk_br R rfl (fun _ => ?_) (fun _ => ?_)
      · refine zk_st R 4 57 [some (.inr (12, 0)), some (.inl (.int x1)), some (.inl (.int x2))] [.inl (.int x1), .inr (20, 42)] r3 rfl ⟨trivial, (Nat.le_of_ble_eq_true rfl), (Nat.le_of_ble_eq_true rfl), trivial, trivial⟩ ?_
        refine zk_call R (fun b => some (.inl (.int b))) (fun _ => r3) rfl (r_X7_at) (fun b hb => w_X7_at_k20 (d + 5) 0 42 (Nat.le_of_ble_eq_true rfl) x1 r3 b hb) (fun r8 => ?_)
        refine zk_st R 1 72 [some (.inr (12, 0)), some (.inl (.int x1)), some (.inl (.int x2))] [.inl (.int r8)] r3 rfl ⟨trivial, trivial⟩ ?_
        exact zk_ret R rfl trivial rfl
      · refine zk_st R 4 69 [some (.inr (12, 0)), some (.inl (.int x1)), some (.inl (.int x2))] [.inl (.int x2), .inl (.int x1), .inr (5, 0)] r3 rfl ⟨trivial, (Nat.le_of_ble_eq_true rfl), trivial, trivial, trivial⟩ ?_
        refine zk_call R (fun b => some (.inl (.int b))) (fun _ => r3) rfl (r_X3_downstream (Nat.le_of_ble_eq_true rfl)) (fun b hb => w_X3_downstream (d + 4) 0 x1 x2 r3 b hb) (fun r9 => ?_)
        exact zk_ret R rfl trivial rfl
    · exact zk_thr R (k := k + 0) rfl rfl
theorem r_X11_upstream {i : Nat} {t : List zA} (h : i < zN 12) : z_rcv zN (zKD 125) (.inr (12, i) :: t) := by
  rw [show zKD 125 = 12 from rfl]
  exact ⟨rfl, h⟩
noncomputable def f_X11_upstream (x1 : Int32) (m : zM) : Option ((Int64 ⊕ Nat) × zM) :=
  z_bx (f_X11_requireCell x1 m) (fun r1 m2 =>
  Option.bind (f_X11_surveyFlows 0 m2) fun r3 =>
  Option.bind (f_X3_above x1 r3) fun r4 =>
  some (.inl r4, r3)) id
theorem w_X11_upstream (d k : Nat) (x1 : Int32) (m : zM) (a : (Int64 ⊕ Nat) × zM) (ha : f_X11_upstream x1 m = some a) : z_Ev z_MT zN zRf (d + 7) (k + 1) 125 [.inr (12, 0), .inl (.int x1)] m ((fun a => (z_cX z_cL a.1, a.2) : (Int64 ⊕ Nat) × zM → zO) a) := by
  refine zk_top (I := (yX11_upstream, cX11_upstream, 2, (some .long), [], tX11_upstream, 12, 1, 12, 0, 0, 0)) (oc := (fun a => (z_cX z_cL a.1, a.2) : (Int64 ⊕ Nat) × zM → zO)) (a := a) rfl (Nat.le_of_ble_eq_true rfl) (fun G R => ?_) ha
  unfold f_X11_upstream
  refine zk_st R 2 2 [some (.inr (12, 0)), some (.inl (.int x1))] [.inl (.int x1), .inr (12, 0)] m rfl ⟨trivial, trivial, trivial⟩ ?_
  refine zk_callz R (k + 0) 1 (fun _ => none) rfl (r_X11_requireCell (Nat.le_of_ble_eq_true rfl)) (fun b m' hb => w_X11_requireCell (d + 4) 0 x1 m _ hb) (fun e m' hb => w_X11_requireCell (d + 4) 0 x1 m _ hb) (fun _ => rfl) (fun _ _ => rfl) (fun r1 m2 => ?_)
  refine zk_st R 3 10 [some (.inr (12, 0)), some (.inl (.int x1))] [.inr (6, 0), .inr (12, 0)] m2 rfl ⟨trivial, trivial, (Nat.le_of_ble_eq_true rfl), trivial⟩ ?_
  refine zk_call R (fun _ => none) id rfl (r_X11_surveyFlows (Nat.le_of_ble_eq_true rfl)) (fun b hb => w_X11_surveyFlows d 0 0 (Nat.le_of_ble_eq_true rfl) m2 b hb) (fun r3 => ?_)
  refine zk_st R 3 18 [some (.inr (12, 0)), some (.inl (.int x1))] [.inl (.int x1), .inr (5, 0)] r3 rfl ⟨trivial, (Nat.le_of_ble_eq_true rfl), trivial, trivial⟩ ?_
  refine zk_call R (fun b => some (.inl (.long b))) (fun _ => r3) rfl (r_X3_above (Nat.le_of_ble_eq_true rfl)) (fun b hb => w_X3_above (d + 4) 0 x1 r3 b hb) (fun r4 => ?_)
  exact zk_ret R rfl trivial rfl
theorem r_X11_water {i : Nat} {t : List zA} (h : i < zN 12) : z_rcv zN (zKD 126) (.inr (12, i) :: t) := by
  rw [show zKD 126 = 12 from rfl]
  exact ⟨rfl, h⟩
noncomputable def f_X11_water (x1 : Int32) (x2 : Int32) (m : zM) : Option ((Int32 ⊕ Nat) × zM) :=
  z_bx (f_X11_requireCell x1 m) (fun r1 m2 =>
  z_bx (f_X11_requireRange x2 (0 : Int32) (3 : Int32) m2) (fun r3 m4 =>
  Option.bind (f_X11_surveyWaters 0 m4) fun r5 =>
  if x2 = (0 : Int32) then
    Option.bind (f_X7_at 20 44 x1 r5) fun r7 =>
    some (.inl r7, r5)
  else if x2 = (1 : Int32) then
    Option.bind (f_X7_at 20 45 x1 r5) fun r9 =>
    some (.inl r9, r5)
  else if x2 = (2 : Int32) then
    Option.bind (f_X7_at 20 46 x1 r5) fun r11 =>
    some (.inl r11, r5)
  else
    Option.bind (f_X7_at 20 47 x1 r5) fun r12 =>
    some (.inl r12, r5)) id) id
theorem w_X11_water (d k : Nat) (x1 : Int32) (x2 : Int32) (m : zM) (a : (Int32 ⊕ Nat) × zM) (ha : f_X11_water x1 x2 m = some a) : z_Ev z_MT zN zRf (d + 7) (k + 2) 126 [.inr (12, 0), .inl (.int x1), .inl (.int x2)] m ((fun a => (z_cX z_cI a.1, a.2) : (Int32 ⊕ Nat) × zM → zO) a) := by
  refine zk_top (I := (yX11_water, cX11_water, 3, (some .int), [], tX11_water, 12, 2, 12, 0, 0, 0)) (oc := (fun a => (z_cX z_cI a.1, a.2) : (Int32 ⊕ Nat) × zM → zO)) (a := a) rfl (Nat.le_of_ble_eq_true rfl) (fun G R => ?_) ha
  unfold f_X11_water
  refine zk_st R 2 2 [some (.inr (12, 0)), some (.inl (.int x1)), some (.inl (.int x2))] [.inl (.int x1), .inr (12, 0)] m rfl ⟨trivial, trivial, trivial⟩ ?_
  refine zk_callz R (k + 1) 1 (fun _ => none) rfl (r_X11_requireCell (Nat.le_of_ble_eq_true rfl)) (fun b m' hb => w_X11_requireCell (d + 4) 0 x1 m _ hb) (fun e m' hb => w_X11_requireCell (d + 4) 0 x1 m _ hb) (fun _ => rfl) (fun _ _ => rfl) (fun r1 m2 => ?_)
  refine zk_st R 3 8 [some (.inr (12, 0)), some (.inl (.int x1)), some (.inl (.int x2))] [.inl (.int (3 : Int32)), .inl (.int (0 : Int32)), .inl (.int x2)] m2 rfl ⟨trivial, trivial, trivial, trivial⟩ ?_
  refine zk_callz R (k + 0) 1 (fun _ => none) rfl (r_X11_requireRange) (fun b m' hb => w_X11_requireRange (d + 5) 0 x2 (0 : Int32) (3 : Int32) m2 _ hb) (fun e m' hb => w_X11_requireRange (d + 5) 0 x2 (0 : Int32) (3 : Int32) m2 _ hb) (fun _ => rfl) (fun _ _ => rfl) (fun r3 m4 => ?_)
  refine zk_st R 3 16 [some (.inr (12, 0)), some (.inl (.int x1)), some (.inl (.int x2))] [.inr (6, 0), .inr (12, 0)] m4 rfl ⟨trivial, trivial, (Nat.le_of_ble_eq_true rfl), trivial⟩ ?_
  refine zk_call R (fun _ => none) id rfl (r_X11_surveyWaters (Nat.le_of_ble_eq_true rfl)) (fun b hb => w_X11_surveyWaters d 0 0 (Nat.le_of_ble_eq_true rfl) m4 b hb) (fun r5 => ?_)
  refine zk_st R 1 20 [some (.inr (12, 0)), some (.inl (.int x1)), some (.inl (.int x2))] [.inl (.int x2)] r5 rfl ⟨trivial, trivial⟩ ?_
  refine zk_if (fun e6 => ?_) (fun e6 => ?_)
  · refine zk_tsw R rfl (z_swv e6 (by decide +kernel : _ = 48)) ?_
    refine zk_st R 4 56 [some (.inr (12, 0)), some (.inl (.int x1)), some (.inl (.int x2))] [.inl (.int x1), .inr (20, 44)] r5 rfl ⟨trivial, (Nat.le_of_ble_eq_true rfl), (Nat.le_of_ble_eq_true rfl), trivial, trivial⟩ ?_
    refine zk_call R (fun b => some (.inl (.int b))) (fun _ => r5) rfl (r_X7_at) (fun b hb => w_X7_at_k20 (d + 5) 0 44 (Nat.le_of_ble_eq_true rfl) x1 r5 b hb) (fun r7 => ?_)
    exact zk_ret R rfl trivial rfl
  refine zk_if (fun e8 => ?_) (fun e8 => ?_)
  · refine zk_tsw R rfl (z_swv e8 (by decide +kernel : _ = 60)) ?_
    refine zk_st R 4 68 [some (.inr (12, 0)), some (.inl (.int x1)), some (.inl (.int x2))] [.inl (.int x1), .inr (20, 45)] r5 rfl ⟨trivial, (Nat.le_of_ble_eq_true rfl), (Nat.le_of_ble_eq_true rfl), trivial, trivial⟩ ?_
    refine zk_call R (fun b => some (.inl (.int b))) (fun _ => r5) rfl (r_X7_at) (fun b hb => w_X7_at_k20 (d + 5) 0 45 (Nat.le_of_ble_eq_true rfl) x1 r5 b hb) (fun r9 => ?_)
    exact zk_ret R rfl trivial rfl
  refine zk_if (fun e10 => ?_) (fun e10 => ?_)
  · refine zk_tsw R rfl (z_swv e10 (by decide +kernel : _ = 72)) ?_
    refine zk_st R 4 80 [some (.inr (12, 0)), some (.inl (.int x1)), some (.inl (.int x2))] [.inl (.int x1), .inr (20, 46)] r5 rfl ⟨trivial, (Nat.le_of_ble_eq_true rfl), (Nat.le_of_ble_eq_true rfl), trivial, trivial⟩ ?_
    refine zk_call R (fun b => some (.inl (.int b))) (fun _ => r5) rfl (r_X7_at) (fun b hb => w_X7_at_k20 (d + 5) 0 46 (Nat.le_of_ble_eq_true rfl) x1 r5 b hb) (fun r11 => ?_)
    exact zk_ret R rfl trivial rfl
  refine zk_tsw R rfl (z_swd 3 (by decide) (fun i hi => ?_) (by decide : _ = 84)) ?_
  · have hi' : i = 0 ∨ i = 1 ∨ i = 2 := by omega
    rcases hi' with rfl | rfl | rfl
    · exact e6
    · exact e8
    · exact e10
  · refine zk_st R 4 92 [some (.inr (12, 0)), some (.inl (.int x1)), some (.inl (.int x2))] [.inl (.int x1), .inr (20, 47)] r5 rfl ⟨trivial, (Nat.le_of_ble_eq_true rfl), (Nat.le_of_ble_eq_true rfl), trivial, trivial⟩ ?_
    refine zk_call R (fun b => some (.inl (.int b))) (fun _ => r5) rfl (r_X7_at) (fun b hb => w_X7_at_k20 (d + 5) 0 47 (Nat.le_of_ble_eq_true rfl) x1 r5 b hb) (fun r12 => ?_)
    exact zk_ret R rfl trivial rfl
theorem r_X11_account {i : Nat} {t : List zA} (h : i < zN 12) : z_rcv zN (zKD 127) (.inr (12, i) :: t) := by
  rw [show zKD 127 = 12 from rfl]
  exact ⟨rfl, h⟩
noncomputable def f_X11_account (x1 : Int32) (m : zM) : Option ((Int32 ⊕ Nat) × zM) :=
  z_bx (f_X11_requireRange x1 (0 : Int32) (5 : Int32) m) (fun r1 m2 =>
  Option.bind (f_X11_surveyWaters 0 m2) fun r3 =>
  Option.bind (f_X4_all 0 r3) fun r4 =>
  if x1 = (0 : Int32) then
    Option.bind (f_X7_sum 20 1 r4 r3) fun r6 =>
    some (.inl r6, r3)
  else if x1 = (1 : Int32) then
    Option.bind (f_X7_sum 20 47 (r3.2.1 6 0 3) r3) fun r8 =>
    some (.inl r8, r3)
  else if x1 = (2 : Int32) then
    Option.bind (f_X7_sum 20 46 r4 r3) fun r10 =>
    some (.inl r10, r3)
  else if x1 = (3 : Int32) then
    Option.bind (f_X7_sum 20 34 r4 r3) fun r12 =>
    some (.inl r12, r3)
  else if x1 = (4 : Int32) then
    Option.bind (f_X7_sum 20 0 r4 r3) fun r14 =>
    some (.inl r14, r3)
  else
    Option.bind (f_X7_greatest 20 45 r4 r3) fun r15 =>
    some (.inl r15, r3)) id
theorem w_X11_account (d k : Nat) (x1 : Int32) (m : zM) (a : (Int32 ⊕ Nat) × zM) (ha : f_X11_account x1 m = some a) : z_Ev z_MT zN zRf (d + 7) (k + 1) 127 [.inr (12, 0), .inl (.int x1)] m ((fun a => (z_cX z_cI a.1, a.2) : (Int32 ⊕ Nat) × zM → zO) a) := by
  refine zk_top (I := (yX11_account, cX11_account, 4, (some .int), [], tX11_account, 12, 1, 12, 0, 0, 0)) (oc := (fun a => (z_cX z_cI a.1, a.2) : (Int32 ⊕ Nat) × zM → zO)) (a := a) rfl (Nat.le_of_ble_eq_true rfl) (fun G R => ?_) ha
  unfold f_X11_account
  refine zk_st R 3 3 [some (.inr (12, 0)), some (.inl (.int x1)), none, none] [.inl (.int (5 : Int32)), .inl (.int (0 : Int32)), .inl (.int x1)] m rfl ⟨trivial, trivial, trivial, trivial⟩ ?_
  refine zk_callz R (k + 0) 1 (fun _ => none) rfl (r_X11_requireRange) (fun b m' hb => w_X11_requireRange (d + 5) 0 x1 (0 : Int32) (5 : Int32) m _ hb) (fun e m' hb => w_X11_requireRange (d + 5) 0 x1 (0 : Int32) (5 : Int32) m _ hb) (fun _ => rfl) (fun _ _ => rfl) (fun r1 m2 => ?_)
  refine zk_st R 3 11 [some (.inr (12, 0)), some (.inl (.int x1)), none, none] [.inr (6, 0), .inr (12, 0)] m2 rfl ⟨trivial, trivial, (Nat.le_of_ble_eq_true rfl), trivial⟩ ?_
  refine zk_call R (fun _ => none) id rfl (r_X11_surveyWaters (Nat.le_of_ble_eq_true rfl)) (fun b hb => w_X11_surveyWaters d 0 0 (Nat.le_of_ble_eq_true rfl) m2 b hb) (fun r3 => ?_)
  refine zk_st R 2 18 [some (.inr (12, 0)), some (.inl (.int x1)), none, none] [.inr (6, 0)] r3 rfl ⟨trivial, (Nat.le_of_ble_eq_true rfl), trivial⟩ ?_
  refine zk_call R (fun b => some (.inl (.long b))) (fun _ => r3) rfl (r_X4_all (Nat.le_of_ble_eq_true rfl)) (fun b hb => w_X4_all (d + 4) 0 0 (Nat.le_of_ble_eq_true rfl) r3 b hb) (fun r4 => ?_)
  refine zk_st R 2 23 [some (.inr (12, 0)), some (.inl (.int x1)), some (.inl (.long r4)), none] [.inl (.int x1)] r3 rfl ⟨trivial, trivial, trivial⟩ ?_
  refine zk_if (fun e5 => ?_) (fun e5 => ?_)
  · refine zk_tsw R rfl (z_swv e5 (by decide +kernel : _ = 56)) ?_
    refine zk_st R 4 64 [some (.inr (12, 0)), some (.inl (.int x1)), some (.inl (.long r4)), none] [.inl (.long r4), .inr (20, 1)] r3 rfl ⟨trivial, (Nat.le_of_ble_eq_true rfl), (Nat.le_of_ble_eq_true rfl), trivial, trivial⟩ ?_
    refine zk_call R (fun b => some (.inl (.int b))) (fun _ => r3) rfl (r_X7_sum) (fun b hb => w_X7_sum_k20 (d + 4) 0 1 (Nat.le_of_ble_eq_true rfl) r4 r3 b hb) (fun r6 => ?_)
    exact zk_ret R rfl trivial rfl
  refine zk_if (fun e7 => ?_) (fun e7 => ?_)
  · refine zk_tsw R rfl (z_swv e7 (by decide +kernel : _ = 68)) ?_
    refine zk_st R 6 82 [some (.inr (12, 0)), some (.inl (.int x1)), some (.inl (.long r4)), none] [.inl (.long (r3.2.1 6 0 3)), .inr (20, 47)] r3 rfl ⟨trivial, (Nat.le_of_ble_eq_true rfl), (Nat.le_of_ble_eq_true rfl), trivial, (Nat.le_of_ble_eq_true rfl), (Nat.le_of_ble_eq_true rfl), trivial⟩ ?_
    refine zk_call R (fun b => some (.inl (.int b))) (fun _ => r3) rfl (r_X7_sum) (fun b hb => w_X7_sum_k20 (d + 4) 0 47 (Nat.le_of_ble_eq_true rfl) (r3.2.1 6 0 3) r3 b hb) (fun r8 => ?_)
    exact zk_ret R rfl trivial rfl
  refine zk_if (fun e9 => ?_) (fun e9 => ?_)
  · refine zk_tsw R rfl (z_swv e9 (by decide +kernel : _ = 86)) ?_
    refine zk_st R 4 94 [some (.inr (12, 0)), some (.inl (.int x1)), some (.inl (.long r4)), none] [.inl (.long r4), .inr (20, 46)] r3 rfl ⟨trivial, (Nat.le_of_ble_eq_true rfl), (Nat.le_of_ble_eq_true rfl), trivial, trivial⟩ ?_
    refine zk_call R (fun b => some (.inl (.int b))) (fun _ => r3) rfl (r_X7_sum) (fun b hb => w_X7_sum_k20 (d + 4) 0 46 (Nat.le_of_ble_eq_true rfl) r4 r3 b hb) (fun r10 => ?_)
    exact zk_ret R rfl trivial rfl
  refine zk_if (fun e11 => ?_) (fun e11 => ?_)
  · refine zk_tsw R rfl (z_swv e11 (by decide +kernel : _ = 98)) ?_
    refine zk_st R 4 106 [some (.inr (12, 0)), some (.inl (.int x1)), some (.inl (.long r4)), none] [.inl (.long r4), .inr (20, 34)] r3 rfl ⟨trivial, (Nat.le_of_ble_eq_true rfl), (Nat.le_of_ble_eq_true rfl), trivial, trivial⟩ ?_
    refine zk_call R (fun b => some (.inl (.int b))) (fun _ => r3) rfl (r_X7_sum) (fun b hb => w_X7_sum_k20 (d + 4) 0 34 (Nat.le_of_ble_eq_true rfl) r4 r3 b hb) (fun r12 => ?_)
    exact zk_ret R rfl trivial rfl
  refine zk_if (fun e13 => ?_) (fun e13 => ?_)
  · refine zk_tsw R rfl (z_swv e13 (by decide +kernel : _ = 110)) ?_
    refine zk_st R 4 118 [some (.inr (12, 0)), some (.inl (.int x1)), some (.inl (.long r4)), none] [.inl (.long r4), .inr (20, 0)] r3 rfl ⟨trivial, (Nat.le_of_ble_eq_true rfl), (Nat.le_of_ble_eq_true rfl), trivial, trivial⟩ ?_
    refine zk_call R (fun b => some (.inl (.int b))) (fun _ => r3) rfl (r_X7_sum) (fun b hb => w_X7_sum_k20 (d + 4) 0 0 (Nat.le_of_ble_eq_true rfl) r4 r3 b hb) (fun r14 => ?_)
    exact zk_ret R rfl trivial rfl
  refine zk_tsw R rfl (z_swd 5 (by decide) (fun i hi => ?_) (by decide : _ = 122)) ?_
  · have hi' : i = 0 ∨ i = 1 ∨ i = 2 ∨ i = 3 ∨ i = 4 := by omega
    rcases hi' with rfl | rfl | rfl | rfl | rfl
    · exact e5
    · exact e7
    · exact e9
    · exact e11
    · exact e13
  · refine zk_st R 4 130 [some (.inr (12, 0)), some (.inl (.int x1)), some (.inl (.long r4)), none] [.inl (.long r4), .inr (20, 45)] r3 rfl ⟨trivial, (Nat.le_of_ble_eq_true rfl), (Nat.le_of_ble_eq_true rfl), trivial, trivial⟩ ?_
    refine zk_call R (fun b => some (.inl (.int b))) (fun _ => r3) rfl (r_X7_greatest) (fun b hb => w_X7_greatest_k20 (d + 4) 0 45 (Nat.le_of_ble_eq_true rfl) r4 r3 b hb) (fun r15 => ?_)
    exact zk_ret R rfl trivial rfl
theorem r_X11_order {i : Nat} {t : List zA} (h : i < zN 12) : z_rcv zN (zKD 128) (.inr (12, i) :: t) := by
  rw [show zKD 128 = 12 from rfl]
  exact ⟨rfl, h⟩
noncomputable def f_X11_order (x1 : Int32) (m : zM) : Option ((Int32 ⊕ Nat) × zM) :=
  z_bx (f_X11_requireCell x1 m) (fun r1 m2 =>
  Option.bind (f_X11_surveyStreams m2) fun r3 =>
  Option.bind (f_X7_at 20 48 x1 r3) fun r4 =>
  some (.inl r4, r3)) id
theorem w_X11_order (d k : Nat) (x1 : Int32) (m : zM) (a : (Int32 ⊕ Nat) × zM) (ha : f_X11_order x1 m = some a) : z_Ev z_MT zN zRf (d + 7) (k + 1) 128 [.inr (12, 0), .inl (.int x1)] m ((fun a => (z_cX z_cI a.1, a.2) : (Int32 ⊕ Nat) × zM → zO) a) := by
  refine zk_top (I := (yX11_order, cX11_order, 2, (some .int), [], tX11_order, 12, 1, 12, 0, 0, 0)) (oc := (fun a => (z_cX z_cI a.1, a.2) : (Int32 ⊕ Nat) × zM → zO)) (a := a) rfl (Nat.le_of_ble_eq_true rfl) (fun G R => ?_) ha
  unfold f_X11_order
  refine zk_st R 2 2 [some (.inr (12, 0)), some (.inl (.int x1))] [.inl (.int x1), .inr (12, 0)] m rfl ⟨trivial, trivial, trivial⟩ ?_
  refine zk_callz R (k + 0) 1 (fun _ => none) rfl (r_X11_requireCell (Nat.le_of_ble_eq_true rfl)) (fun b m' hb => w_X11_requireCell (d + 4) 0 x1 m _ hb) (fun e m' hb => w_X11_requireCell (d + 4) 0 x1 m _ hb) (fun _ => rfl) (fun _ _ => rfl) (fun r1 m2 => ?_)
  refine zk_st R 1 6 [some (.inr (12, 0)), some (.inl (.int x1))] [.inr (12, 0)] m2 rfl ⟨trivial, trivial⟩ ?_
  refine zk_call R (fun _ => none) id rfl (r_X11_surveyStreams (Nat.le_of_ble_eq_true rfl)) (fun b hb => w_X11_surveyStreams d 0 m2 b hb) (fun r3 => ?_)
  refine zk_st R 4 17 [some (.inr (12, 0)), some (.inl (.int x1))] [.inl (.int x1), .inr (20, 48)] r3 rfl ⟨trivial, (Nat.le_of_ble_eq_true rfl), (Nat.le_of_ble_eq_true rfl), trivial, trivial⟩ ?_
  refine zk_call R (fun b => some (.inl (.int b))) (fun _ => r3) rfl (r_X7_at) (fun b hb => w_X7_at_k20 (d + 5) 0 48 (Nat.le_of_ble_eq_true rfl) x1 r3 b hb) (fun r4 => ?_)
  exact zk_ret R rfl trivial rfl
theorem r_X11_reach {i : Nat} {t : List zA} (h : i < zN 12) : z_rcv zN (zKD 129) (.inr (12, i) :: t) := by
  rw [show zKD 129 = 12 from rfl]
  exact ⟨rfl, h⟩
noncomputable def f_X11_reach (x1 : Int32) (x2 : Int32) (m : zM) : Option ((Int32 ⊕ Nat) × zM) :=
  Option.bind (f_X11_surveyStreams m) fun r1 =>
  if x1 < 0 then
    some (.inr 1, r1)
  else
    if x1 < (r1.1 9 0 6) then
      z_bx (f_X11_requireRange x2 (0 : Int32) (4 : Int32) r1) (fun r4 m5 =>
      Option.bind (f_X7_at 20 53 x1 m5) fun r6 =>
      if x2 = (0 : Int32) then
        some (.inl r6, m5)
      else if x2 = (1 : Int32) then
        Option.bind (f_X7_at 20 54 x1 m5) fun r9 =>
        some (.inl r9, m5)
      else if x2 = (2 : Int32) then
        Option.bind (f_X7_at 20 55 x1 m5) fun r11 =>
        some (.inl r11, m5)
      else if x2 = (3 : Int32) then
        Option.bind (f_X7_at 20 48 r6 m5) fun r13 =>
        some (.inl r13, m5)
      else
        Option.bind (f_X8_reachBehind x1 m5) fun r14 =>
        some (.inl r14, m5)) id
    else
      some (.inr 1, r1)
theorem w_X11_reach (d k : Nat) (x1 : Int32) (x2 : Int32) (m : zM) (a : (Int32 ⊕ Nat) × zM) (ha : f_X11_reach x1 x2 m = some a) : z_Ev z_MT zN zRf (d + 7) (k + 1) 129 [.inr (12, 0), .inl (.int x1), .inl (.int x2)] m ((fun a => (z_cX z_cI a.1, a.2) : (Int32 ⊕ Nat) × zM → zO) a) := by
  refine zk_top (I := (yX11_reach, cX11_reach, 4, (some .int), [], tX11_reach, 12, 2, 12, 0, 0, 0)) (oc := (fun a => (z_cX z_cI a.1, a.2) : (Int32 ⊕ Nat) × zM → zO)) (a := a) rfl (Nat.le_of_ble_eq_true rfl) (fun G R => ?_) ha
  unfold f_X11_reach
  refine zk_st R 1 1 [some (.inr (12, 0)), some (.inl (.int x1)), some (.inl (.int x2)), none] [.inr (12, 0)] m rfl ⟨trivial, trivial⟩ ?_
  refine zk_call R (fun _ => none) id rfl (r_X11_surveyStreams (Nat.le_of_ble_eq_true rfl)) (fun b hb => w_X11_surveyStreams d 0 m b hb) (fun r1 => ?_)
  refine zk_st R 1 5 [some (.inr (12, 0)), some (.inl (.int x1)), some (.inl (.int x2)), none] [.inl (.int x1)] r1 rfl ⟨trivial, trivial⟩ ?_
  refine zk_br R rfl (fun _ => ?_) (fun _ => ?_)
  · exact zk_thr R (k := k + 0) rfl rfl
  · refine zk_st R 4 16 [some (.inr (12, 0)), some (.inl (.int x1)), some (.inl (.int x2)), none] [.inl (.int (r1.1 9 0 6)), .inl (.int x1)] r1 rfl ⟨trivial, trivial, (Nat.le_of_ble_eq_true rfl), (Nat.le_of_ble_eq_true rfl), trivial⟩ ?_
    refine zk_br R rfl (fun _ => ?_) (fun _ => ?_)
    · refine zk_st R 3 33 [some (.inr (12, 0)), some (.inl (.int x1)), some (.inl (.int x2)), none] [.inl (.int (4 : Int32)), .inl (.int (0 : Int32)), .inl (.int x2)] r1 rfl ⟨trivial, trivial, trivial, trivial⟩ ?_
      refine zk_callz R (k + 0) 1 (fun _ => none) rfl (r_X11_requireRange) (fun b m' hb => w_X11_requireRange (d + 5) 0 x2 (0 : Int32) (4 : Int32) r1 _ hb) (fun e m' hb => w_X11_requireRange (d + 5) 0 x2 (0 : Int32) (4 : Int32) r1 _ hb) (fun _ => rfl) (fun _ _ => rfl) (fun r4 m5 => ?_)
      refine zk_st R 4 44 [some (.inr (12, 0)), some (.inl (.int x1)), some (.inl (.int x2)), none] [.inl (.int x1), .inr (20, 53)] m5 rfl ⟨trivial, (Nat.le_of_ble_eq_true rfl), (Nat.le_of_ble_eq_true rfl), trivial, trivial⟩ ?_
      refine zk_call R (fun b => some (.inl (.int b))) (fun _ => m5) rfl (r_X7_at) (fun b hb => w_X7_at_k20 (d + 5) 0 53 (Nat.le_of_ble_eq_true rfl) x1 m5 b hb) (fun r6 => ?_)
      refine zk_st R 2 49 [some (.inr (12, 0)), some (.inl (.int x1)), some (.inl (.int x2)), some (.inl (.int r6))] [.inl (.int x2)] m5 rfl ⟨trivial, trivial, trivial⟩ ?_
      refine zk_if (fun e7 => ?_) (fun e7 => ?_)
      · refine zk_tsw R rfl (z_swv e7 (by decide +kernel : _ = 80)) ?_
        refine zk_st R 1 81 [some (.inr (12, 0)), some (.inl (.int x1)), some (.inl (.int x2)), some (.inl (.int r6))] [.inl (.int r6)] m5 rfl ⟨trivial, trivial⟩ ?_
        exact zk_ret R rfl trivial rfl
      refine zk_if (fun e8 => ?_) (fun e8 => ?_)
      · refine zk_tsw R rfl (z_swv e8 (by decide +kernel : _ = 82)) ?_
        refine zk_st R 4 90 [some (.inr (12, 0)), some (.inl (.int x1)), some (.inl (.int x2)), some (.inl (.int r6))] [.inl (.int x1), .inr (20, 54)] m5 rfl ⟨trivial, (Nat.le_of_ble_eq_true rfl), (Nat.le_of_ble_eq_true rfl), trivial, trivial⟩ ?_
        refine zk_call R (fun b => some (.inl (.int b))) (fun _ => m5) rfl (r_X7_at) (fun b hb => w_X7_at_k20 (d + 5) 0 54 (Nat.le_of_ble_eq_true rfl) x1 m5 b hb) (fun r9 => ?_)
        exact zk_ret R rfl trivial rfl
      refine zk_if (fun e10 => ?_) (fun e10 => ?_)
      · refine zk_tsw R rfl (z_swv e10 (by decide +kernel : _ = 94)) ?_
        refine zk_st R 4 102 [some (.inr (12, 0)), some (.inl (.int x1)), some (.inl (.int x2)), some (.inl (.int r6))] [.inl (.int x1), .inr (20, 55)] m5 rfl ⟨trivial, (Nat.le_of_ble_eq_true rfl), (Nat.le_of_ble_eq_true rfl), trivial, trivial⟩ ?_
        refine zk_call R (fun b => some (.inl (.int b))) (fun _ => m5) rfl (r_X7_at) (fun b hb => w_X7_at_k20 (d + 5) 0 55 (Nat.le_of_ble_eq_true rfl) x1 m5 b hb) (fun r11 => ?_)
        exact zk_ret R rfl trivial rfl
      refine zk_if (fun e12 => ?_) (fun e12 => ?_)
      · refine zk_tsw R rfl (z_swv e12 (by decide +kernel : _ = 106)) ?_
        refine zk_st R 4 114 [some (.inr (12, 0)), some (.inl (.int x1)), some (.inl (.int x2)), some (.inl (.int r6))] [.inl (.int r6), .inr (20, 48)] m5 rfl ⟨trivial, (Nat.le_of_ble_eq_true rfl), (Nat.le_of_ble_eq_true rfl), trivial, trivial⟩ ?_
        refine zk_call R (fun b => some (.inl (.int b))) (fun _ => m5) rfl (r_X7_at) (fun b hb => w_X7_at_k20 (d + 5) 0 48 (Nat.le_of_ble_eq_true rfl) r6 m5 b hb) (fun r13 => ?_)
        exact zk_ret R rfl trivial rfl
      refine zk_tsw R rfl (z_swd 4 (by decide) (fun i hi => ?_) (by decide : _ = 118)) ?_
      · have hi' : i = 0 ∨ i = 1 ∨ i = 2 ∨ i = 3 := by omega
        rcases hi' with rfl | rfl | rfl | rfl
        · exact e7
        · exact e8
        · exact e10
        · exact e12
      · refine zk_st R 5 127 [some (.inr (12, 0)), some (.inl (.int x1)), some (.inl (.int x2)), some (.inl (.int r6))] [.inl (.int x1), .inr (5, 0), .inr (9, 0)] m5 rfl ⟨trivial, (Nat.le_of_ble_eq_true rfl), trivial, (Nat.le_of_ble_eq_true rfl), trivial, trivial⟩ ?_
        refine zk_call R (fun b => some (.inl (.int b))) (fun _ => m5) rfl (r_X8_reachBehind (Nat.le_of_ble_eq_true rfl)) (fun b hb => w_X8_reachBehind (d + 3) 0 x1 m5 b hb) (fun r14 => ?_)
        exact zk_ret R rfl trivial rfl
    · exact zk_thr R (k := k + 0) rfl rfl
theorem r_X11_reachOf {i : Nat} {t : List zA} (h : i < zN 12) : z_rcv zN (zKD 130) (.inr (12, i) :: t) := by
  rw [show zKD 130 = 12 from rfl]
  exact ⟨rfl, h⟩
noncomputable def f_X11_reachOf (x1 : Int32) (m : zM) : Option ((Int32 ⊕ Nat) × zM) :=
  z_bx (f_X11_requireCell x1 m) (fun r1 m2 =>
  Option.bind (f_X11_surveyStreams m2) fun r3 =>
  Option.bind (f_X7_has (r3.2.1 9 0 0) x1 r3) fun r4 =>
  if (z_bi r4) = 0 then
    some (.inr 3, r3)
  else
    Option.bind (f_X7_at 20 52 x1 r3) fun r6 =>
    some (.inl r6, r3)) id
theorem w_X11_reachOf (d k : Nat) (x1 : Int32) (m : zM) (a : (Int32 ⊕ Nat) × zM) (ha : f_X11_reachOf x1 m = some a) : z_Ev z_MT zN zRf (d + 7) (k + 2) 130 [.inr (12, 0), .inl (.int x1)] m ((fun a => (z_cX z_cI a.1, a.2) : (Int32 ⊕ Nat) × zM → zO) a) := by
  refine zk_top (I := (yX11_reachOf, cX11_reachOf, 2, (some .int), [], tX11_reachOf, 12, 1, 12, 0, 0, 0)) (oc := (fun a => (z_cX z_cI a.1, a.2) : (Int32 ⊕ Nat) × zM → zO)) (a := a) rfl (Nat.le_of_ble_eq_true rfl) (fun G R => ?_) ha
  unfold f_X11_reachOf
  refine zk_st R 2 2 [some (.inr (12, 0)), some (.inl (.int x1))] [.inl (.int x1), .inr (12, 0)] m rfl ⟨trivial, trivial, trivial⟩ ?_
  refine zk_callz R (k + 1) 1 (fun _ => none) rfl (r_X11_requireCell (Nat.le_of_ble_eq_true rfl)) (fun b m' hb => w_X11_requireCell (d + 4) 0 x1 m _ hb) (fun e m' hb => w_X11_requireCell (d + 4) 0 x1 m _ hb) (fun _ => rfl) (fun _ _ => rfl) (fun r1 m2 => ?_)
  refine zk_st R 1 6 [some (.inr (12, 0)), some (.inl (.int x1))] [.inr (12, 0)] m2 rfl ⟨trivial, trivial⟩ ?_
  refine zk_call R (fun _ => none) id rfl (r_X11_surveyStreams (Nat.le_of_ble_eq_true rfl)) (fun b hb => w_X11_surveyStreams d 0 m2 b hb) (fun r3 => ?_)
  refine zk_st R 4 17 [some (.inr (12, 0)), some (.inl (.int x1))] [.inl (.int x1), .inl (.long (r3.2.1 9 0 0))] r3 rfl ⟨trivial, (Nat.le_of_ble_eq_true rfl), (Nat.le_of_ble_eq_true rfl), trivial, trivial⟩ ?_
  refine zk_call R (fun b => some (.inl (.int (z_bi b)))) (fun _ => r3) rfl (r_X7_has) (fun b hb => w_X7_has (d + 5) 0 (r3.2.1 9 0 0) x1 r3 b hb) (fun r4 => ?_)
  refine zk_br R rfl (fun _ => ?_) (fun _ => ?_)
  · exact zk_thr R (k := k + 0) rfl rfl
  · refine zk_st R 4 42 [some (.inr (12, 0)), some (.inl (.int x1))] [.inl (.int x1), .inr (20, 52)] r3 rfl ⟨trivial, (Nat.le_of_ble_eq_true rfl), (Nat.le_of_ble_eq_true rfl), trivial, trivial⟩ ?_
    refine zk_call R (fun b => some (.inl (.int b))) (fun _ => r3) rfl (r_X7_at) (fun b hb => w_X7_at_k20 (d + 5) 0 52 (Nat.le_of_ble_eq_true rfl) x1 r3 b hb) (fun r6 => ?_)
    exact zk_ret R rfl trivial rfl
theorem r_X11_basin {i : Nat} {t : List zA} (h : i < zN 12) : z_rcv zN (zKD 131) (.inr (12, i) :: t) := by
  rw [show zKD 131 = 12 from rfl]
  exact ⟨rfl, h⟩
noncomputable def f_X11_basin (x1 : Int32) (x2 : Int32) (m : zM) : Option ((Int32 ⊕ Nat) × zM) :=
  z_bx (f_X11_requireCell x1 m) (fun r1 m2 =>
  Option.bind (f_X4_isOutlet 0 x1 m2) fun r3 =>
  if (z_bi r3) = 0 then
    some (.inr 2, m2)
  else
    z_bx (f_X11_requireRange x2 (0 : Int32) (3 : Int32) m2) (fun r5 m6 =>
    Option.bind (f_X11_surveyWaters 0 m6) fun r7 =>
    Option.bind (f_X3_above x1 r7) fun r8 =>
    if x2 = (0 : Int32) then
      Option.bind (f_J13_bitCount_95d88 r8 r7) fun r10 =>
      some (.inl r10, r7)
    else if x2 = (1 : Int32) then
      Option.bind (f_X7_sum 20 1 r8 r7) fun r12 =>
      some (.inl r12, r7)
    else if x2 = (2 : Int32) then
      Option.bind (f_X7_at 20 47 x1 r7) fun r14 =>
      some (.inl r14, r7)
    else
      Option.bind (f_X7_greatest 20 43 r8 r7) fun r15 =>
      some (.inl r15, r7)) id) id
theorem w_X11_basin (d k : Nat) (x1 : Int32) (x2 : Int32) (m : zM) (a : (Int32 ⊕ Nat) × zM) (ha : f_X11_basin x1 x2 m = some a) : z_Ev z_MT zN zRf (d + 7) (k + 2) 131 [.inr (12, 0), .inl (.int x1), .inl (.int x2)] m ((fun a => (z_cX z_cI a.1, a.2) : (Int32 ⊕ Nat) × zM → zO) a) := by
  refine zk_top (I := (yX11_basin, cX11_basin, 5, (some .int), [], tX11_basin, 12, 2, 12, 0, 0, 0)) (oc := (fun a => (z_cX z_cI a.1, a.2) : (Int32 ⊕ Nat) × zM → zO)) (a := a) rfl (Nat.le_of_ble_eq_true rfl) (fun G R => ?_) ha
  unfold f_X11_basin
  refine zk_st R 2 2 [some (.inr (12, 0)), some (.inl (.int x1)), some (.inl (.int x2)), none, none] [.inl (.int x1), .inr (12, 0)] m rfl ⟨trivial, trivial, trivial⟩ ?_
  refine zk_callz R (k + 1) 1 (fun _ => none) rfl (r_X11_requireCell (Nat.le_of_ble_eq_true rfl)) (fun b m' hb => w_X11_requireCell (d + 4) 0 x1 m _ hb) (fun e m' hb => w_X11_requireCell (d + 4) 0 x1 m _ hb) (fun _ => rfl) (fun _ _ => rfl) (fun r1 m2 => ?_)
  refine zk_st R 3 10 [some (.inr (12, 0)), some (.inl (.int x1)), some (.inl (.int x2)), none, none] [.inl (.int x1), .inr (6, 0)] m2 rfl ⟨trivial, (Nat.le_of_ble_eq_true rfl), trivial, trivial⟩ ?_
  refine zk_call R (fun b => some (.inl (.int (z_bi b)))) (fun _ => m2) rfl (r_X4_isOutlet (Nat.le_of_ble_eq_true rfl)) (fun b hb => w_X4_isOutlet (d + 4) 0 0 (Nat.le_of_ble_eq_true rfl) x1 m2 b hb) (fun r3 => ?_)
  refine zk_br R rfl (fun _ => ?_) (fun _ => ?_)
  · exact zk_thr R (k := k + 0) rfl rfl
  · refine zk_st R 3 30 [some (.inr (12, 0)), some (.inl (.int x1)), some (.inl (.int x2)), none, none] [.inl (.int (3 : Int32)), .inl (.int (0 : Int32)), .inl (.int x2)] m2 rfl ⟨trivial, trivial, trivial, trivial⟩ ?_
    refine zk_callz R (k + 0) 1 (fun _ => none) rfl (r_X11_requireRange) (fun b m' hb => w_X11_requireRange (d + 5) 0 x2 (0 : Int32) (3 : Int32) m2 _ hb) (fun e m' hb => w_X11_requireRange (d + 5) 0 x2 (0 : Int32) (3 : Int32) m2 _ hb) (fun _ => rfl) (fun _ _ => rfl) (fun r5 m6 => ?_)
    refine zk_st R 3 38 [some (.inr (12, 0)), some (.inl (.int x1)), some (.inl (.int x2)), none, none] [.inr (6, 0), .inr (12, 0)] m6 rfl ⟨trivial, trivial, (Nat.le_of_ble_eq_true rfl), trivial⟩ ?_
    refine zk_call R (fun _ => none) id rfl (r_X11_surveyWaters (Nat.le_of_ble_eq_true rfl)) (fun b hb => w_X11_surveyWaters d 0 0 (Nat.le_of_ble_eq_true rfl) m6 b hb) (fun r7 => ?_)
    refine zk_st R 3 46 [some (.inr (12, 0)), some (.inl (.int x1)), some (.inl (.int x2)), none, none] [.inl (.int x1), .inr (5, 0)] r7 rfl ⟨trivial, (Nat.le_of_ble_eq_true rfl), trivial, trivial⟩ ?_
    refine zk_call R (fun b => some (.inl (.long b))) (fun _ => r7) rfl (r_X3_above (Nat.le_of_ble_eq_true rfl)) (fun b hb => w_X3_above (d + 4) 0 x1 r7 b hb) (fun r8 => ?_)
    refine zk_st R 2 51 [some (.inr (12, 0)), some (.inl (.int x1)), some (.inl (.int x2)), some (.inl (.long r8)), none] [.inl (.int x2)] r7 rfl ⟨trivial, trivial, trivial⟩ ?_
    refine zk_if (fun e9 => ?_) (fun e9 => ?_)
    · refine zk_tsw R rfl (z_swv e9 (by decide +kernel : _ = 76)) ?_
      refine zk_st R 1 77 [some (.inr (12, 0)), some (.inl (.int x1)), some (.inl (.int x2)), some (.inl (.long r8)), none] [.inl (.long r8)] r7 rfl ⟨trivial, trivial⟩ ?_
      refine zk_call R (fun b => some (.inl (.int b))) (fun _ => r7) rfl (r_J13_bitCount_95d88) (fun b hb => w_J13_bitCount_95d88 (d + 5) 0 r8 r7 b hb) (fun r10 => ?_)
      exact zk_ret R rfl trivial rfl
    refine zk_if (fun e11 => ?_) (fun e11 => ?_)
    · refine zk_tsw R rfl (z_swv e11 (by decide +kernel : _ = 81)) ?_
      refine zk_st R 4 89 [some (.inr (12, 0)), some (.inl (.int x1)), some (.inl (.int x2)), some (.inl (.long r8)), none] [.inl (.long r8), .inr (20, 1)] r7 rfl ⟨trivial, (Nat.le_of_ble_eq_true rfl), (Nat.le_of_ble_eq_true rfl), trivial, trivial⟩ ?_
      refine zk_call R (fun b => some (.inl (.int b))) (fun _ => r7) rfl (r_X7_sum) (fun b hb => w_X7_sum_k20 (d + 4) 0 1 (Nat.le_of_ble_eq_true rfl) r8 r7 b hb) (fun r12 => ?_)
      exact zk_ret R rfl trivial rfl
    refine zk_if (fun e13 => ?_) (fun e13 => ?_)
    · refine zk_tsw R rfl (z_swv e13 (by decide +kernel : _ = 93)) ?_
      refine zk_st R 4 101 [some (.inr (12, 0)), some (.inl (.int x1)), some (.inl (.int x2)), some (.inl (.long r8)), none] [.inl (.int x1), .inr (20, 47)] r7 rfl ⟨trivial, (Nat.le_of_ble_eq_true rfl), (Nat.le_of_ble_eq_true rfl), trivial, trivial⟩ ?_
      refine zk_call R (fun b => some (.inl (.int b))) (fun _ => r7) rfl (r_X7_at) (fun b hb => w_X7_at_k20 (d + 5) 0 47 (Nat.le_of_ble_eq_true rfl) x1 r7 b hb) (fun r14 => ?_)
      exact zk_ret R rfl trivial rfl
    refine zk_tsw R rfl (z_swd 3 (by decide) (fun i hi => ?_) (by decide : _ = 105)) ?_
    · have hi' : i = 0 ∨ i = 1 ∨ i = 2 := by omega
      rcases hi' with rfl | rfl | rfl
      · exact e9
      · exact e11
      · exact e13
    · refine zk_st R 4 113 [some (.inr (12, 0)), some (.inl (.int x1)), some (.inl (.int x2)), some (.inl (.long r8)), none] [.inl (.long r8), .inr (20, 43)] r7 rfl ⟨trivial, (Nat.le_of_ble_eq_true rfl), (Nat.le_of_ble_eq_true rfl), trivial, trivial⟩ ?_
      refine zk_call R (fun b => some (.inl (.int b))) (fun _ => r7) rfl (r_X7_greatest) (fun b hb => w_X7_greatest_k20 (d + 4) 0 43 (Nat.le_of_ble_eq_true rfl) r8 r7 b hb) (fun r15 => ?_)
      exact zk_ret R rfl trivial rfl
theorem r_X11_divides {i : Nat} {t : List zA} (h : i < zN 12) : z_rcv zN (zKD 132) (.inr (12, i) :: t) := by
  rw [show zKD 132 = 12 from rfl]
  exact ⟨rfl, h⟩
noncomputable def f_X11_divides_28 (c20 : Int32 → Int32 → Int32 → zM → Option (Int32 × zM)) : Nat → Int32 → Int32 → Int32 → Int32 → zM → Option (Int32 × zM)
  | 0, _, _, _, _, _ => none
  | j + 1, x1, x2, x3, x4, m =>
    if (2 : Int32) < x4 then
      c20 x1 x2 (x3 + (1 : Int32)) m
    else
      Option.bind (f_X4_neighbor 0 x3 x4 m) fun r2 =>
      if r2 = (-1 : Int32) then
        f_X11_divides_28 c20 j x1 x2 x3 (x4 + (1 : Int32)) m
      else
        Option.bind (f_X7_at 20 42 x3 m) fun r4 =>
        Option.bind (f_X7_at 20 42 r2 m) fun r5 =>
        if r4 = r5 then
          f_X11_divides_28 c20 j x1 x2 x3 (x4 + (1 : Int32)) m
        else
          f_X11_divides_28 c20 j (x1 + (1 : Int32)) x2 x3 (x4 + (1 : Int32)) m
noncomputable def f_X11_divides_20 : Nat → Int32 → Int32 → Int32 → zM → Option (Int32 × zM)
  | 0, _, _, _, _ => none
  | j + 1, x1, x2, x3, m =>
    if x2 ≤ x3 then
      some (x1, m)
    else
      f_X11_divides_28 (f_X11_divides_20 j) zF x1 x2 x3 (1 : Int32) m
noncomputable def f_X11_divides (m : zM) : Option (Int32 × zM) :=
  Option.bind (f_X11_surveyFlows 0 m) fun r1 =>
  Option.bind (f_X4_size 0 r1) fun r2 =>
  f_X11_divides_20 zF (0 : Int32) r2 (0 : Int32) r1
theorem w_X11_divides_28 (d k : Nat) {o : zO} {G : Nat → Nat → zL → List zA → zM → Prop} (R : zRu (d + 6) tX11_divides 0 (z_hf []) o G) (c20 : Int32 → Int32 → Int32 → zM → Option (Int32 × zM)) (hc20 : ∀ (x1 : Int32) (x2 : Int32) (x3 : Int32) (m : zM), zLK G (fun a => (z_cI a.1, a.2) : Int32 × zM → zO) o (c20 x1 x2 x3 m) some (k + 0) 20 [some (.inr (12, 0)), some (.inl (.int x1)), some (.inl (.int x2)), some (.inl (.int x3)), none, none] [] m) : ∀ (j : Nat) (x1 : Int32) (x2 : Int32) (x3 : Int32) (x4 : Int32) (m : zM), zLK G (fun a => (z_cI a.1, a.2) : Int32 × zM → zO) o (f_X11_divides_28 c20 j x1 x2 x3 x4 m) some (k + 0) 28 [some (.inr (12, 0)), some (.inl (.int x1)), some (.inl (.int x2)), some (.inl (.int x3)), some (.inl (.int x4)), none] [] m := by
  intro j
  induction j with
  | zero =>
    intro _ _ _ _ _
    exact zk_none
  | succ j ih =>
    intro x1 x2 x3 x4 m
    unfold f_X11_divides_28
    refine zk_st R 2 31 [some (.inr (12, 0)), some (.inl (.int x1)), some (.inl (.int x2)), some (.inl (.int x3)), some (.inl (.int x4)), none] [.inl (.int (2 : Int32)), .inl (.int x4)] m rfl ⟨trivial, trivial, trivial⟩ ?_
    refine zk_br R rfl (fun _ => ?_) (fun _ => ?_)
    · refine zk_st R 2 20 [some (.inr (12, 0)), some (.inl (.int x1)), some (.inl (.int x2)), some (.inl (.int (x3 + (1 : Int32)))), some (.inl (.int x4)), none] [] m rfl ⟨trivial, trivial, trivial⟩ ?_
      refine zk_mask R [true, true, true, true, false, false] rfl ?_
      exact hc20 x1 x2 (x3 + (1 : Int32)) m
    · refine zk_st R 4 41 [some (.inr (12, 0)), some (.inl (.int x1)), some (.inl (.int x2)), some (.inl (.int x3)), some (.inl (.int x4)), none] [.inl (.int x4), .inl (.int x3), .inr (6, 0)] m rfl ⟨trivial, (Nat.le_of_ble_eq_true rfl), trivial, trivial, trivial⟩ ?_
      refine zk_call R (fun b => some (.inl (.int b))) (fun _ => m) rfl (r_X4_neighbor (Nat.le_of_ble_eq_true rfl)) (fun b hb => w_X4_neighbor (d + 4) 0 0 (Nat.le_of_ble_eq_true rfl) x3 x4 m b hb) (fun r2 => ?_)
      refine zk_st R 3 49 [some (.inr (12, 0)), some (.inl (.int x1)), some (.inl (.int x2)), some (.inl (.int x3)), some (.inl (.int x4)), some (.inl (.int r2))] [.inl (.int (-1 : Int32)), .inl (.int r2)] m rfl ⟨trivial, trivial, trivial, trivial⟩ ?_
      refine zk_br R rfl (fun _ => ?_) (fun _ => ?_)
      · refine zk_st R 2 28 [some (.inr (12, 0)), some (.inl (.int x1)), some (.inl (.int x2)), some (.inl (.int x3)), some (.inl (.int (x4 + (1 : Int32)))), some (.inl (.int r2))] [] m rfl ⟨trivial, trivial, trivial⟩ ?_
        refine zk_mask R [true, true, true, true, true, false] rfl ?_
        exact ih x1 x2 x3 (x4 + (1 : Int32)) m
      · refine zk_st R 4 60 [some (.inr (12, 0)), some (.inl (.int x1)), some (.inl (.int x2)), some (.inl (.int x3)), some (.inl (.int x4)), some (.inl (.int r2))] [.inl (.int x3), .inr (20, 42)] m rfl ⟨trivial, (Nat.le_of_ble_eq_true rfl), (Nat.le_of_ble_eq_true rfl), trivial, trivial⟩ ?_
        refine zk_call R (fun b => some (.inl (.int b))) (fun _ => m) rfl (r_X7_at) (fun b hb => w_X7_at_k20 (d + 5) 0 42 (Nat.le_of_ble_eq_true rfl) x3 m b hb) (fun r4 => ?_)
        refine zk_st R 4 72 [some (.inr (12, 0)), some (.inl (.int x1)), some (.inl (.int x2)), some (.inl (.int x3)), some (.inl (.int x4)), some (.inl (.int r2))] [.inl (.int r2), .inr (20, 42), .inl (.int r4)] m rfl ⟨trivial, (Nat.le_of_ble_eq_true rfl), (Nat.le_of_ble_eq_true rfl), trivial, trivial⟩ ?_
        refine zk_call R (fun b => some (.inl (.int b))) (fun _ => m) rfl (r_X7_at) (fun b hb => w_X7_at_k20 (d + 5) 0 42 (Nat.le_of_ble_eq_true rfl) r2 m b hb) (fun r5 => ?_)
        refine zk_br R rfl (fun _ => ?_) (fun _ => ?_)
        · refine zk_st R 2 28 [some (.inr (12, 0)), some (.inl (.int x1)), some (.inl (.int x2)), some (.inl (.int x3)), some (.inl (.int (x4 + (1 : Int32)))), some (.inl (.int r2))] [] m rfl ⟨trivial, trivial, trivial⟩ ?_
          refine zk_mask R [true, true, true, true, true, false] rfl ?_
          exact ih x1 x2 x3 (x4 + (1 : Int32)) m
        · refine zk_st R 3 28 [some (.inr (12, 0)), some (.inl (.int (x1 + (1 : Int32)))), some (.inl (.int x2)), some (.inl (.int x3)), some (.inl (.int (x4 + (1 : Int32)))), some (.inl (.int r2))] [] m rfl ⟨trivial, trivial, trivial, trivial⟩ ?_
          refine zk_mask R [true, true, true, true, true, false] rfl ?_
          exact ih (x1 + (1 : Int32)) x2 x3 (x4 + (1 : Int32)) m
theorem w_X11_divides_20 (d k : Nat) {o : zO} {G : Nat → Nat → zL → List zA → zM → Prop} (R : zRu (d + 6) tX11_divides 0 (z_hf []) o G) : ∀ (j : Nat) (x1 : Int32) (x2 : Int32) (x3 : Int32) (m : zM), zLK G (fun a => (z_cI a.1, a.2) : Int32 × zM → zO) o (f_X11_divides_20 j x1 x2 x3 m) some (k + 0) 20 [some (.inr (12, 0)), some (.inl (.int x1)), some (.inl (.int x2)), some (.inl (.int x3)), none, none] [] m := by
  intro j
  induction j with
  | zero =>
    intro _ _ _ _
    exact zk_none
  | succ j ih =>
    intro x1 x2 x3 m
    unfold f_X11_divides_20
    refine zk_st R 2 22 [some (.inr (12, 0)), some (.inl (.int x1)), some (.inl (.int x2)), some (.inl (.int x3)), none, none] [.inl (.int x2), .inl (.int x3)] m rfl ⟨trivial, trivial, trivial⟩ ?_
    refine zk_br R rfl (fun _ => ?_) (fun _ => ?_)
    · refine zk_st R 1 94 [some (.inr (12, 0)), some (.inl (.int x1)), some (.inl (.int x2)), some (.inl (.int x3)), none, none] [.inl (.int x1)] m rfl ⟨trivial, trivial⟩ ?_
      exact zk_ret R rfl trivial rfl
    · refine zk_st R 2 28 [some (.inr (12, 0)), some (.inl (.int x1)), some (.inl (.int x2)), some (.inl (.int x3)), some (.inl (.int (1 : Int32))), none] [] m rfl ⟨trivial, trivial, trivial⟩ ?_
      refine zk_mask R [true, true, true, true, true, false] rfl ?_
      exact w_X11_divides_28 d k R (f_X11_divides_20 j) ih zF x1 x2 x3 (1 : Int32) m
theorem w_X11_divides (d k : Nat) (m : zM) (a : Int32 × zM) (ha : f_X11_divides m = some a) : z_Ev z_MT zN zRf (d + 7) (k + 0) 132 [.inr (12, 0)] m ((fun a => (z_cI a.1, a.2) : Int32 × zM → zO) a) := by
  refine zk_top (I := (yX11_divides, cX11_divides, 6, (some .int), [], tX11_divides, 12, 0, 12, 0, 0, 0)) (oc := (fun a => (z_cI a.1, a.2) : Int32 × zM → zO)) (a := a) rfl (Nat.le_of_ble_eq_true rfl) (fun G R => ?_) ha
  unfold f_X11_divides
  refine zk_st R 3 5 [some (.inr (12, 0)), none, none, none, none, none] [.inr (6, 0), .inr (12, 0)] m rfl ⟨trivial, trivial, (Nat.le_of_ble_eq_true rfl), trivial⟩ ?_
  refine zk_call R (fun _ => none) id rfl (r_X11_surveyFlows (Nat.le_of_ble_eq_true rfl)) (fun b hb => w_X11_surveyFlows d 0 0 (Nat.le_of_ble_eq_true rfl) m b hb) (fun r1 => ?_)
  refine zk_st R 4 14 [some (.inr (12, 0)), some (.inl (.int (0 : Int32))), none, none, none, none] [.inr (6, 0)] r1 rfl ⟨trivial, trivial, trivial, (Nat.le_of_ble_eq_true rfl), trivial⟩ ?_
  refine zk_call R (fun b => some (.inl (.int b))) (fun _ => r1) rfl (r_X4_size (Nat.le_of_ble_eq_true rfl)) (fun b hb => w_X4_size (d + 5) 0 0 (Nat.le_of_ble_eq_true rfl) r1 b hb) (fun r2 => ?_)
  refine zk_st R 3 20 [some (.inr (12, 0)), some (.inl (.int (0 : Int32))), some (.inl (.int r2)), some (.inl (.int (0 : Int32))), none, none] [] r1 rfl ⟨trivial, trivial, trivial, trivial⟩ ?_
  refine zk_mask R [true, true, true, true, false, false] rfl ?_
  exact w_X11_divides_20 d k R zF (0 : Int32) r2 (0 : Int32) r1
