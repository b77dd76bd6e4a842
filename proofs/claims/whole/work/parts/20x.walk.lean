theorem r_X11_section {i : Nat} {t : List zA} (h : i < zN 12) : z_rcv zN (zKD 137) (.inr (12, i) :: t) := by
  rw [show zKD 137 = 12 from rfl]
  exact ⟨rfl, h⟩
noncomputable def f_X11_section (x1 : Int32) (x2 : Int32) (x3 : Int32) (m : zM) : Option ((Int32 ⊕ Nat) × zM) :=
  z_bx (f_X11_requireCell x1 m) (fun r1 m2 =>
  z_bx (f_X11_requireCell x2 m2) (fun r3 m4 =>
  z_bx (f_X11_requireRange x3 (0 : Int32) (5 : Int32) m4) (fun r5 m6 =>
  Option.bind (f_X6_draw 0 x1 x2 m6) fun r7 =>
  if x3 = (0 : Int32) then
    some (.inl (r7.1 8 0 1), r7)
  else if x3 = (1 : Int32) then
    Option.bind (f_X6_rises 0 (1 : Int32) r7) fun r10 =>
    some (.inl r10, r7)
  else if x3 = (2 : Int32) then
    Option.bind (f_X6_rises 0 (-1 : Int32) r7) fun r12 =>
    some (.inl r12, r7)
  else if x3 = (3 : Int32) then
    Option.bind (f_X6_cellSet r7) fun r14 =>
    Option.bind (f_X7_greatest 20 0 r14 r7) fun r15 =>
    some (.inl r15, r7)
  else if x3 = (4 : Int32) then
    Option.bind (f_X6_cellSet r7) fun r17 =>
    Option.bind (f_X4_lowestPlace 0 r17 r7) fun r18 =>
    Option.bind (f_X7_at 20 0 r18 r7) fun r19 =>
    some (.inl r19, r7)
  else
    Option.bind (f_X11_surveyStreams r7) fun r20 =>
    Option.bind (f_X6_cellSet r20) fun r21 =>
    Option.bind (f_J13_bitCount_95d88 (r21 &&& (r20.2.1 9 0 0)) r20) fun r22 =>
    some (.inl r22, r20)) id) id) id
theorem w_X11_section (d k : Nat) (x1 : Int32) (x2 : Int32) (x3 : Int32) (m : zM) (a : (Int32 ⊕ Nat) × zM) (ha : f_X11_section x1 x2 x3 m = some a) : z_Ev z_MT zN zRf (d + 7) (k + 3) 137 [.inr (12, 0), .inl (.int x1), .inl (.int x2), .inl (.int x3)] m ((fun a => (z_cX z_cI a.1, a.2) : (Int32 ⊕ Nat) × zM → zO) a) := by
  refine zk_top (I := (yX11_section, cX11_section, 4, (some .int), [], tX11_section, 12, 3, 12, 0, 0, 0)) (oc := (fun a => (z_cX z_cI a.1, a.2) : (Int32 ⊕ Nat) × zM → zO)) (a := a) rfl (Nat.le_of_ble_eq_true rfl) (fun G R => ?_) ha
  unfold f_X11_section
  refine zk_st R 2 2 [some (.inr (12, 0)), some (.inl (.int x1)), some (.inl (.int x2)), some (.inl (.int x3))] [.inl (.int x1), .inr (12, 0)] m rfl ⟨trivial, trivial, trivial⟩ ?_
  refine zk_callz R (k + 2) 1 (fun _ => none) rfl (r_X11_requireCell (Nat.le_of_ble_eq_true rfl)) (fun b m' hb => w_X11_requireCell (d + 4) 0 x1 m _ hb) (fun e m' hb => w_X11_requireCell (d + 4) 0 x1 m _ hb) (fun _ => rfl) (fun _ _ => rfl) (fun r1 m2 => ?_)
  refine zk_st R 2 7 [some (.inr (12, 0)), some (.inl (.int x1)), some (.inl (.int x2)), some (.inl (.int x3))] [.inl (.int x2), .inr (12, 0)] m2 rfl ⟨trivial, trivial, trivial⟩ ?_
  refine zk_callz R (k + 1) 1 (fun _ => none) rfl (r_X11_requireCell (Nat.le_of_ble_eq_true rfl)) (fun b m' hb => w_X11_requireCell (d + 4) 0 x2 m2 _ hb) (fun e m' hb => w_X11_requireCell (d + 4) 0 x2 m2 _ hb) (fun _ => rfl) (fun _ _ => rfl) (fun r3 m4 => ?_)
  refine zk_st R 3 13 [some (.inr (12, 0)), some (.inl (.int x1)), some (.inl (.int x2)), some (.inl (.int x3))] [.inl (.int (5 : Int32)), .inl (.int (0 : Int32)), .inl (.int x3)] m4 rfl ⟨trivial, trivial, trivial, trivial⟩ ?_
  refine zk_callz R (k + 0) 1 (fun _ => none) rfl (r_X11_requireRange) (fun b m' hb => w_X11_requireRange (d + 5) 0 x3 (0 : Int32) (5 : Int32) m4 _ hb) (fun e m' hb => w_X11_requireRange (d + 5) 0 x3 (0 : Int32) (5 : Int32) m4 _ hb) (fun _ => rfl) (fun _ _ => rfl) (fun r5 m6 => ?_)
  refine zk_st R 6 26 [some (.inr (12, 0)), some (.inl (.int x1)), some (.inl (.int x2)), some (.inl (.int x3))] [.inl (.int x2), .inl (.int x1), .inr (6, 0), .inr (8, 0)] m6 rfl ⟨trivial, (Nat.le_of_ble_eq_true rfl), trivial, (Nat.le_of_ble_eq_true rfl), trivial, trivial, trivial⟩ ?_
  refine zk_call R (fun _ => none) id rfl (r_X6_draw (Nat.le_of_ble_eq_true rfl)) (fun b hb => w_X6_draw (d + 3) 0 0 (Nat.le_of_ble_eq_true rfl) x1 x2 m6 b hb) (fun r7 => ?_)
  refine zk_st R 1 30 [some (.inr (12, 0)), some (.inl (.int x1)), some (.inl (.int x2)), some (.inl (.int x3))] [.inl (.int x3)] r7 rfl ⟨trivial, trivial⟩ ?_
  refine zk_if (fun e8 => ?_) (fun e8 => ?_)
  · refine zk_tsw R rfl (z_swv e8 (by decide +kernel : _ = 64)) ?_
    refine zk_st R 3 71 [some (.inr (12, 0)), some (.inl (.int x1)), some (.inl (.int x2)), some (.inl (.int x3))] [.inl (.int (r7.1 8 0 1))] r7 rfl ⟨trivial, (Nat.le_of_ble_eq_true rfl), (Nat.le_of_ble_eq_true rfl), trivial⟩ ?_
    exact zk_ret R rfl trivial rfl
  refine zk_if (fun e9 => ?_) (fun e9 => ?_)
  · refine zk_tsw R rfl (z_swv e9 (by decide +kernel : _ = 72)) ?_
    refine zk_st R 5 81 [some (.inr (12, 0)), some (.inl (.int x1)), some (.inl (.int x2)), some (.inl (.int x3))] [.inl (.int (1 : Int32)), .inr (6, 0), .inr (8, 0)] r7 rfl ⟨trivial, (Nat.le_of_ble_eq_true rfl), trivial, (Nat.le_of_ble_eq_true rfl), trivial, trivial⟩ ?_
    refine zk_call R (fun b => some (.inl (.int b))) (fun _ => r7) rfl (r_X6_rises (Nat.le_of_ble_eq_true rfl)) (fun b hb => w_X6_rises (d + 3) 0 0 (Nat.le_of_ble_eq_true rfl) (1 : Int32) r7 b hb) (fun r10 => ?_)
    exact zk_ret R rfl trivial rfl
  refine zk_if (fun e11 => ?_) (fun e11 => ?_)
  · refine zk_tsw R rfl (z_swv e11 (by decide +kernel : _ = 85)) ?_
    refine zk_st R 5 94 [some (.inr (12, 0)), some (.inl (.int x1)), some (.inl (.int x2)), some (.inl (.int x3))] [.inl (.int (-1 : Int32)), .inr (6, 0), .inr (8, 0)] r7 rfl ⟨trivial, (Nat.le_of_ble_eq_true rfl), trivial, (Nat.le_of_ble_eq_true rfl), trivial, trivial⟩ ?_
    refine zk_call R (fun b => some (.inl (.int b))) (fun _ => r7) rfl (r_X6_rises (Nat.le_of_ble_eq_true rfl)) (fun b hb => w_X6_rises (d + 3) 0 0 (Nat.le_of_ble_eq_true rfl) (-1 : Int32) r7 b hb) (fun r12 => ?_)
    exact zk_ret R rfl trivial rfl
  refine zk_if (fun e13 => ?_) (fun e13 => ?_)
  · refine zk_tsw R rfl (z_swv e13 (by decide +kernel : _ = 98)) ?_
    refine zk_st R 5 109 [some (.inr (12, 0)), some (.inl (.int x1)), some (.inl (.int x2)), some (.inl (.int x3))] [.inr (8, 0), .inr (20, 0)] r7 rfl ⟨trivial, (Nat.le_of_ble_eq_true rfl), (Nat.le_of_ble_eq_true rfl), trivial, (Nat.le_of_ble_eq_true rfl), trivial⟩ ?_
    refine zk_call R (fun b => some (.inl (.long b))) (fun _ => r7) rfl (r_X6_cellSet (Nat.le_of_ble_eq_true rfl)) (fun b hb => w_X6_cellSet (d + 4) 0 r7 b hb) (fun r14 => ?_)
    refine zk_call R (fun b => some (.inl (.int b))) (fun _ => r7) rfl (r_X7_greatest) (fun b hb => w_X7_greatest_k20 (d + 4) 0 0 (Nat.le_of_ble_eq_true rfl) r14 r7 b hb) (fun r15 => ?_)
    exact zk_ret R rfl trivial rfl
  refine zk_if (fun e16 => ?_) (fun e16 => ?_)
  · refine zk_tsw R rfl (z_swv e16 (by decide +kernel : _ = 116)) ?_
    refine zk_st R 7 131 [some (.inr (12, 0)), some (.inl (.int x1)), some (.inl (.int x2)), some (.inl (.int x3))] [.inr (8, 0), .inr (6, 0), .inr (20, 0)] r7 rfl ⟨trivial, (Nat.le_of_ble_eq_true rfl), (Nat.le_of_ble_eq_true rfl), trivial, (Nat.le_of_ble_eq_true rfl), trivial, (Nat.le_of_ble_eq_true rfl), trivial⟩ ?_
    refine zk_call R (fun b => some (.inl (.long b))) (fun _ => r7) rfl (r_X6_cellSet (Nat.le_of_ble_eq_true rfl)) (fun b hb => w_X6_cellSet (d + 4) 0 r7 b hb) (fun r17 => ?_)
    refine zk_call R (fun b => some (.inl (.int b))) (fun _ => r7) rfl (r_X4_lowestPlace (Nat.le_of_ble_eq_true rfl)) (fun b hb => w_X4_lowestPlace (d + 3) 0 0 (Nat.le_of_ble_eq_true rfl) r17 r7 b hb) (fun r18 => ?_)
    refine zk_call R (fun b => some (.inl (.int b))) (fun _ => r7) rfl (r_X7_at) (fun b hb => w_X7_at_k20 (d + 5) 0 0 (Nat.le_of_ble_eq_true rfl) r18 r7 b hb) (fun r19 => ?_)
    exact zk_ret R rfl trivial rfl
  refine zk_tsw R rfl (z_swd 5 (by decide) (fun i hi => ?_) (by decide : _ = 141)) ?_
  · have hi' : i = 0 ∨ i = 1 ∨ i = 2 ∨ i = 3 ∨ i = 4 := by omega
    rcases hi' with rfl | rfl | rfl | rfl | rfl
    · exact e8
    · exact e9
    · exact e11
    · exact e13
    · exact e16
  · refine zk_st R 1 142 [some (.inr (12, 0)), some (.inl (.int x1)), some (.inl (.int x2)), some (.inl (.int x3))] [.inr (12, 0)] r7 rfl ⟨trivial, trivial⟩ ?_
    refine zk_call R (fun _ => none) id rfl (r_X11_surveyStreams (Nat.le_of_ble_eq_true rfl)) (fun b hb => w_X11_surveyStreams d 0 r7 b hb) (fun r20 => ?_)
    refine zk_st R 2 149 [some (.inr (12, 0)), some (.inl (.int x1)), some (.inl (.int x2)), some (.inl (.int x3))] [.inr (8, 0)] r20 rfl ⟨trivial, (Nat.le_of_ble_eq_true rfl), trivial⟩ ?_
    refine zk_call R (fun b => some (.inl (.long b))) (fun _ => r20) rfl (r_X6_cellSet (Nat.le_of_ble_eq_true rfl)) (fun b hb => w_X6_cellSet (d + 4) 0 r20 b hb) (fun r21 => ?_)
    refine zk_st R 4 160 [some (.inr (12, 0)), some (.inl (.int x1)), some (.inl (.int x2)), some (.inl (.int x3))] [.inl (.long (r21 &&& (r20.2.1 9 0 0)))] r20 rfl ⟨trivial, (Nat.le_of_ble_eq_true rfl), (Nat.le_of_ble_eq_true rfl), trivial, trivial⟩ ?_
    refine zk_call R (fun b => some (.inl (.int b))) (fun _ => r20) rfl (r_J13_bitCount_95d88) (fun b hb => w_J13_bitCount_95d88 (d + 5) 0 (r21 &&& (r20.2.1 9 0 0)) r20 b hb) (fun r22 => ?_)
    exact zk_ret R rfl trivial rfl
theorem r_X11_leavingIf {i : Nat} {t : List zA} (h : i < zN 12) : z_rcv zN (zKD 142) (.inr (12, i) :: t) := by
  rw [show zKD 142 = 12 from rfl]
  exact ⟨rfl, h⟩
noncomputable def f_X11_leavingIf (x1 : Int32) (x2 : Int32) (m : zM) : Option ((Int32 ⊕ Nat) × zM) :=
  z_bx (f_X11_requireCell x1 m) (fun r1 m2 =>
  z_bx (f_X11_requireRange x2 (0 : Int32) (9 : Int32) m2) (fun r3 m4 =>
  Option.bind (f_X4_copyFrom 1 0 m4) fun r5 =>
  Option.bind (f_X7_put 20 5 x1 x2 r5) fun r6 =>
  Option.bind (f_X11_surveyWaters 1 r6) fun r7 =>
  Option.bind (f_X7_sum 20 47 (r7.2.1 6 1 3) r7) fun r8 =>
  some (.inl r8, r7)) id) id
theorem w_X11_leavingIf (d k : Nat) (x1 : Int32) (x2 : Int32) (m : zM) (a : (Int32 ⊕ Nat) × zM) (ha : f_X11_leavingIf x1 x2 m = some a) : z_Ev z_MT zN zRf (d + 7) (k + 2) 142 [.inr (12, 0), .inl (.int x1), .inl (.int x2)] m ((fun a => (z_cX z_cI a.1, a.2) : (Int32 ⊕ Nat) × zM → zO) a) := by
  refine zk_top (I := (yX11_leavingIf, cX11_leavingIf, 3, (some .int), [], tX11_leavingIf, 12, 2, 12, 0, 0, 0)) (oc := (fun a => (z_cX z_cI a.1, a.2) : (Int32 ⊕ Nat) × zM → zO)) (a := a) rfl (Nat.le_of_ble_eq_true rfl) (fun G R => ?_) ha
  unfold f_X11_leavingIf
  refine zk_st R 2 2 [some (.inr (12, 0)), some (.inl (.int x1)), some (.inl (.int x2))] [.inl (.int x1), .inr (12, 0)] m rfl ⟨trivial, trivial, trivial⟩ ?_
  refine zk_callz R (k + 1) 1 (fun _ => none) rfl (r_X11_requireCell (Nat.le_of_ble_eq_true rfl)) (fun b m' hb => w_X11_requireCell (d + 4) 0 x1 m _ hb) (fun e m' hb => w_X11_requireCell (d + 4) 0 x1 m _ hb) (fun _ => rfl) (fun _ _ => rfl) (fun r1 m2 => ?_)
  refine zk_st R 3 9 [some (.inr (12, 0)), some (.inl (.int x1)), some (.inl (.int x2))] [.inl (.int (9 : Int32)), .inl (.int (0 : Int32)), .inl (.int x2)] m2 rfl ⟨trivial, trivial, trivial, trivial⟩ ?_
  refine zk_callz R (k + 0) 1 (fun _ => none) rfl (r_X11_requireRange) (fun b m' hb => w_X11_requireRange (d + 5) 0 x2 (0 : Int32) (9 : Int32) m2 _ hb) (fun e m' hb => w_X11_requireRange (d + 5) 0 x2 (0 : Int32) (9 : Int32) m2 _ hb) (fun _ => rfl) (fun _ _ => rfl) (fun r3 m4 => ?_)
  refine zk_st R 4 20 [some (.inr (12, 0)), some (.inl (.int x1)), some (.inl (.int x2))] [.inr (6, 0), .inr (6, 1)] m4 rfl ⟨trivial, (Nat.le_of_ble_eq_true rfl), trivial, (Nat.le_of_ble_eq_true rfl), trivial⟩ ?_
  refine zk_call R (fun _ => none) id rfl (r_X4_copyFrom (Nat.le_of_ble_eq_true rfl)) (fun b hb => w_X4_copyFrom (d + 4) 0 1 0 (Nat.le_of_ble_eq_true rfl) (Nat.le_of_ble_eq_true rfl) m4 b hb) (fun r5 => ?_)
  refine zk_st R 5 32 [some (.inr (12, 0)), some (.inl (.int x1)), some (.inl (.int x2))] [.inl (.int x2), .inl (.int x1), .inr (20, 5)] r5 rfl ⟨trivial, (Nat.le_of_ble_eq_true rfl), (Nat.le_of_ble_eq_true rfl), trivial, trivial, trivial⟩ ?_
  refine zk_call R (fun _ => none) id rfl (r_X7_put) (fun b hb => w_X7_put_k20 (d + 5) 0 5 (Nat.le_of_ble_eq_true rfl) x1 x2 r5 b hb) (fun r6 => ?_)
  refine zk_st R 3 40 [some (.inr (12, 0)), some (.inl (.int x1)), some (.inl (.int x2))] [.inr (6, 1), .inr (12, 0)] r6 rfl ⟨trivial, trivial, (Nat.le_of_ble_eq_true rfl), trivial⟩ ?_
  refine zk_call R (fun _ => none) id rfl (r_X11_surveyWaters (Nat.le_of_ble_eq_true rfl)) (fun b hb => w_X11_surveyWaters d 0 1 (Nat.le_of_ble_eq_true rfl) r6 b hb) (fun r7 => ?_)
  refine zk_st R 6 57 [some (.inr (12, 0)), some (.inl (.int x1)), some (.inl (.int x2))] [.inl (.long (r7.2.1 6 1 3)), .inr (20, 47)] r7 rfl ⟨trivial, (Nat.le_of_ble_eq_true rfl), (Nat.le_of_ble_eq_true rfl), trivial, (Nat.le_of_ble_eq_true rfl), (Nat.le_of_ble_eq_true rfl), trivial⟩ ?_
  refine zk_call R (fun b => some (.inl (.int b))) (fun _ => r7) rfl (r_X7_sum) (fun b hb => w_X7_sum_k20 (d + 4) 0 47 (Nat.le_of_ble_eq_true rfl) (r7.2.1 6 1 3) r7 b hb) (fun r8 => ?_)
  exact zk_ret R rfl trivial rfl
theorem r_X11_mouthIf {i : Nat} {t : List zA} (h : i < zN 12) : z_rcv zN (zKD 143) (.inr (12, i) :: t) := by
  rw [show zKD 143 = 12 from rfl]
  exact ⟨rfl, h⟩
noncomputable def f_X11_mouthIf (x1 : Int32) (x2 : Int32) (m : zM) : Option ((Int32 ⊕ Nat) × zM) :=
  z_bx (f_X11_requireCell x1 m) (fun r1 m2 =>
  z_bx (f_X11_requireCell x2 m2) (fun r3 m4 =>
  Option.bind (f_X4_copyFrom 1 0 m4) fun r5 =>
  Option.bind (f_X4_markOutlet 1 x2 (1 : Int32) r5) fun r6 =>
  Option.bind (f_X11_surveyFlows 1 r6) fun r7 =>
  Option.bind (f_X7_at 20 42 x1 r7) fun r8 =>
  some (.inl r8, r7)) id) id
theorem w_X11_mouthIf (d k : Nat) (x1 : Int32) (x2 : Int32) (m : zM) (a : (Int32 ⊕ Nat) × zM) (ha : f_X11_mouthIf x1 x2 m = some a) : z_Ev z_MT zN zRf (d + 7) (k + 2) 143 [.inr (12, 0), .inl (.int x1), .inl (.int x2)] m ((fun a => (z_cX z_cI a.1, a.2) : (Int32 ⊕ Nat) × zM → zO) a) := by
  refine zk_top (I := (yX11_mouthIf, cX11_mouthIf, 3, (some .int), [], tX11_mouthIf, 12, 2, 12, 0, 0, 0)) (oc := (fun a => (z_cX z_cI a.1, a.2) : (Int32 ⊕ Nat) × zM → zO)) (a := a) rfl (Nat.le_of_ble_eq_true rfl) (fun G R => ?_) ha
  unfold f_X11_mouthIf
  refine zk_st R 2 2 [some (.inr (12, 0)), some (.inl (.int x1)), some (.inl (.int x2))] [.inl (.int x1), .inr (12, 0)] m rfl ⟨trivial, trivial, trivial⟩ ?_
  refine zk_callz R (k + 1) 1 (fun _ => none) rfl (r_X11_requireCell (Nat.le_of_ble_eq_true rfl)) (fun b m' hb => w_X11_requireCell (d + 4) 0 x1 m _ hb) (fun e m' hb => w_X11_requireCell (d + 4) 0 x1 m _ hb) (fun _ => rfl) (fun _ _ => rfl) (fun r1 m2 => ?_)
  refine zk_st R 2 7 [some (.inr (12, 0)), some (.inl (.int x1)), some (.inl (.int x2))] [.inl (.int x2), .inr (12, 0)] m2 rfl ⟨trivial, trivial, trivial⟩ ?_
  refine zk_callz R (k + 0) 1 (fun _ => none) rfl (r_X11_requireCell (Nat.le_of_ble_eq_true rfl)) (fun b m' hb => w_X11_requireCell (d + 4) 0 x2 m2 _ hb) (fun e m' hb => w_X11_requireCell (d + 4) 0 x2 m2 _ hb) (fun _ => rfl) (fun _ _ => rfl) (fun r3 m4 => ?_)
  refine zk_st R 4 18 [some (.inr (12, 0)), some (.inl (.int x1)), some (.inl (.int x2))] [.inr (6, 0), .inr (6, 1)] m4 rfl ⟨trivial, (Nat.le_of_ble_eq_true rfl), trivial, (Nat.le_of_ble_eq_true rfl), trivial⟩ ?_
  refine zk_call R (fun _ => none) id rfl (r_X4_copyFrom (Nat.le_of_ble_eq_true rfl)) (fun b hb => w_X4_copyFrom (d + 4) 0 1 0 (Nat.le_of_ble_eq_true rfl) (Nat.le_of_ble_eq_true rfl) m4 b hb) (fun r5 => ?_)
  refine zk_st R 4 27 [some (.inr (12, 0)), some (.inl (.int x1)), some (.inl (.int x2))] [.inl (.int (1 : Int32)), .inl (.int x2), .inr (6, 1)] r5 rfl ⟨trivial, (Nat.le_of_ble_eq_true rfl), trivial, trivial, trivial⟩ ?_
  refine zk_call R (fun _ => none) id rfl (r_X4_markOutlet (Nat.le_of_ble_eq_true rfl)) (fun b hb => w_X4_markOutlet (d + 5) 0 1 (Nat.le_of_ble_eq_true rfl) x2 (1 : Int32) r5 b hb) (fun r6 => ?_)
  refine zk_st R 3 35 [some (.inr (12, 0)), some (.inl (.int x1)), some (.inl (.int x2))] [.inr (6, 1), .inr (12, 0)] r6 rfl ⟨trivial, trivial, (Nat.le_of_ble_eq_true rfl), trivial⟩ ?_
  refine zk_call R (fun _ => none) id rfl (r_X11_surveyFlows (Nat.le_of_ble_eq_true rfl)) (fun b hb => w_X11_surveyFlows d 0 1 (Nat.le_of_ble_eq_true rfl) r6 b hb) (fun r7 => ?_)
  refine zk_st R 4 46 [some (.inr (12, 0)), some (.inl (.int x1)), some (.inl (.int x2))] [.inl (.int x1), .inr (20, 42)] r7 rfl ⟨trivial, (Nat.le_of_ble_eq_true rfl), (Nat.le_of_ble_eq_true rfl), trivial, trivial⟩ ?_
  refine zk_call R (fun b => some (.inl (.int b))) (fun _ => r7) rfl (r_X7_at) (fun b hb => w_X7_at_k20 (d + 5) 0 42 (Nat.le_of_ble_eq_true rfl) x1 r7 b hb) (fun r8 => ?_)
  exact zk_ret R rfl trivial rfl
theorem r_X11_execute {i : Nat} {t : List zA} (h : i < zN 12) : z_rcv zN (zKD 145) (.inr (12, i) :: t) := by
  rw [show zKD 145 = 12 from rfl]
  exact ⟨rfl, h⟩
noncomputable def f_X11_execute (m : zM) : Option ((Int32 ⊕ Nat) × zM) :=
  Option.bind (f_X4_size 0 m) fun r1 =>
  Option.bind (f_X9_countCommands r1 m) fun r2 =>
  if r2.1 = (-1 : Int32) then
    some (.inr 0, (z_sI (z_sI r2.2 12 0 6 (r2.2.1 10 0 2)) 10 0 1 (0 : Int32)))
  else
    Option.bind (f_X4_copyFrom 1 0 r2.2) fun r4 =>
    Option.bind (f_X9_carryOut 1 r4) fun r5 =>
    if (z_bi r5.1) = 0 then
      some (.inr 2, (z_sI r5.2 10 0 1 (0 : Int32)))
    else
      Option.bind (f_X5_remember 0 (z_sI r5.2 10 0 1 (0 : Int32))) fun r7 =>
      Option.bind (f_X4_copyFrom 0 1 r7) fun r8 =>
      some (.inl r2.1, r8)
theorem w_X11_execute (d k : Nat) (m : zM) (a : (Int32 ⊕ Nat) × zM) (ha : f_X11_execute m = some a) : z_Ev z_MT zN zRf (d + 7) (k + 1) 145 [.inr (12, 0)] m ((fun a => (z_cX z_cI a.1, a.2) : (Int32 ⊕ Nat) × zM → zO) a) := by
  refine zk_top (I := (yX11_execute, cX11_execute, 3, (some .int), [], tX11_execute, 12, 0, 12, 0, 0, 0)) (oc := (fun a => (z_cX z_cI a.1, a.2) : (Int32 ⊕ Nat) × zM → zO)) (a := a) rfl (Nat.le_of_ble_eq_true rfl) (fun G R => ?_) ha
  unfold f_X11_execute
  refine zk_st R 4 8 [some (.inr (12, 0)), none, none] [.inr (6, 0), .inr (10, 0)] m rfl ⟨trivial, (Nat.le_of_ble_eq_true rfl), trivial, (Nat.le_of_ble_eq_true rfl), trivial⟩ ?_
  refine zk_call R (fun b => some (.inl (.int b))) (fun _ => m) rfl (r_X4_size (Nat.le_of_ble_eq_true rfl)) (fun b hb => w_X4_size (d + 5) 0 0 (Nat.le_of_ble_eq_true rfl) m b hb) (fun r1 => ?_)
  refine zk_call R (fun b => some (.inl (.int b.1))) (fun b => b.2) rfl (r_X9_countCommands (Nat.le_of_ble_eq_true rfl)) (fun b hb => w_X9_countCommands d 0 r1 m b hb) (fun r2 => ?_)
  refine zk_st R 3 17 [some (.inr (12, 0)), some (.inl (.int r2.1)), none] [.inl (.int (-1 : Int32)), .inl (.int r2.1)] r2.2 rfl ⟨trivial, trivial, trivial, trivial⟩ ?_
  refine zk_br R rfl (fun _ => ?_) (fun _ => ?_)
  · refine zk_st R 9 39 [some (.inr (12, 0)), some (.inl (.int r2.1)), none] [] (z_sI (z_sI r2.2 12 0 6 (r2.2.1 10 0 2)) 10 0 1 (0 : Int32)) rfl ⟨trivial, trivial, (Nat.le_of_ble_eq_true rfl), (Nat.le_of_ble_eq_true rfl), (Nat.le_of_ble_eq_true rfl), trivial, (Nat.le_of_ble_eq_true rfl), trivial, (Nat.le_of_ble_eq_true rfl), trivial⟩ ?_
    exact zk_thr R (k := k + 0) rfl rfl
  · refine zk_st R 4 58 [some (.inr (12, 0)), some (.inl (.int r2.1)), none] [.inr (6, 0), .inr (6, 1)] r2.2 rfl ⟨trivial, (Nat.le_of_ble_eq_true rfl), trivial, (Nat.le_of_ble_eq_true rfl), trivial⟩ ?_
    refine zk_call R (fun _ => none) id rfl (r_X4_copyFrom (Nat.le_of_ble_eq_true rfl)) (fun b hb => w_X4_copyFrom (d + 4) 0 1 0 (Nat.le_of_ble_eq_true rfl) (Nat.le_of_ble_eq_true rfl) r2.2 b hb) (fun r4 => ?_)
    refine zk_st R 4 69 [some (.inr (12, 0)), some (.inl (.int r2.1)), none] [.inr (6, 1), .inr (10, 0)] r4 rfl ⟨trivial, (Nat.le_of_ble_eq_true rfl), trivial, (Nat.le_of_ble_eq_true rfl), trivial⟩ ?_
    refine zk_call R (fun b => some (.inl (.int (z_bi b.1)))) (fun b => b.2) rfl (r_X9_carryOut (Nat.le_of_ble_eq_true rfl)) (fun b hb => w_X9_carryOut d 0 1 (Nat.le_of_ble_eq_true rfl) r4 b hb) (fun r5 => ?_)
    refine zk_st R 6 82 [some (.inr (12, 0)), some (.inl (.int r2.1)), some (.inl (.int (z_bi r5.1)))] [.inl (.int (z_bi r5.1))] (z_sI r5.2 10 0 1 (0 : Int32)) rfl ⟨trivial, trivial, (Nat.le_of_ble_eq_true rfl), trivial, (Nat.le_of_ble_eq_true rfl), trivial, trivial⟩ ?_
    refine zk_br R rfl (fun _ => ?_) (fun _ => ?_)
    · exact zk_thr R (k := k + 0) rfl rfl
    · refine zk_st R 4 103 [some (.inr (12, 0)), some (.inl (.int r2.1)), some (.inl (.int (z_bi r5.1)))] [.inr (6, 0), .inr (7, 0)] (z_sI r5.2 10 0 1 (0 : Int32)) rfl ⟨trivial, (Nat.le_of_ble_eq_true rfl), trivial, (Nat.le_of_ble_eq_true rfl), trivial⟩ ?_
      refine zk_call R (fun _ => none) id rfl (r_X5_remember (Nat.le_of_ble_eq_true rfl)) (fun b hb => w_X5_remember (d + 3) 0 0 (Nat.le_of_ble_eq_true rfl) (z_sI r5.2 10 0 1 (0 : Int32)) b hb) (fun r7 => ?_)
      refine zk_st R 4 114 [some (.inr (12, 0)), some (.inl (.int r2.1)), some (.inl (.int (z_bi r5.1)))] [.inr (6, 1), .inr (6, 0)] r7 rfl ⟨trivial, (Nat.le_of_ble_eq_true rfl), trivial, (Nat.le_of_ble_eq_true rfl), trivial⟩ ?_
      refine zk_call R (fun _ => none) id rfl (r_X4_copyFrom (Nat.le_of_ble_eq_true rfl)) (fun b hb => w_X4_copyFrom (d + 4) 0 0 1 (Nat.le_of_ble_eq_true rfl) (Nat.le_of_ble_eq_true rfl) r7 b hb) (fun r8 => ?_)
      refine zk_st R 1 118 [some (.inr (12, 0)), some (.inl (.int r2.1)), some (.inl (.int (z_bi r5.1)))] [.inl (.int r2.1)] r8 rfl ⟨trivial, trivial⟩ ?_
      exact zk_ret R rfl trivial rfl
theorem r_X11_map {i : Nat} {t : List zA} (h : i < zN 12) : z_rcv zN (zKD 147) (.inr (12, i) :: t) := by
  rw [show zKD 147 = 12 from rfl]
  exact ⟨rfl, h⟩
noncomputable def f_X11_map (x1 : Int32) (m : zM) : Option ((Int32 ⊕ Nat) × zM) :=
  if x1 < 0 then
    some (.inr 1, m)
  else
    if ((((m.1 6 0 0) + (1 : Int32)) * (m.1 6 0 1)) - (1 : Int32)) ≤ x1 then
      some (.inr 1, m)
    else
      if 0 < ((m.1 6 0 0) + (1 : Int32)) then
        z_gd (z_nz ((m.1 6 0 0) + (1 : Int32))) <| if (z_irem x1 ((m.1 6 0 0) + (1 : Int32))) = (m.1 6 0 0) then
          z_gd (z_bC (47 : Int32)) <| some (.inl (47 : Int32), m)
        else
          Option.bind (f_X11_surveyFlows 0 m) fun r7 =>
          z_gd (z_nz ((m.1 6 0 0) + (1 : Int32))) <| Option.bind (f_X7_at 20 37 (((x1 / ((m.1 6 0 0) + (1 : Int32))) * (r7.1 6 0 0)) + (z_irem x1 ((m.1 6 0 0) + (1 : Int32)))) r7) fun r9 =>
          if r9 = (0 : Int32) then
            z_gd (z_bC (94 : Int32)) <| some (.inl (94 : Int32), r7)
          else if r9 = (1 : Int32) then
            z_gd (z_bC (62 : Int32)) <| some (.inl (62 : Int32), r7)
          else if r9 = (2 : Int32) then
            z_gd (z_bC (118 : Int32)) <| some (.inl (118 : Int32), r7)
          else if r9 = (3 : Int32) then
            z_gd (z_bC (60 : Int32)) <| some (.inl (60 : Int32), r7)
          else
            z_gd (z_bC (111 : Int32)) <| some (.inl (111 : Int32), r7)
      else
        some (.inr 1, m)
theorem w_X11_map (d k : Nat) (x1 : Int32) (m : zM) (a : (Int32 ⊕ Nat) × zM) (ha : f_X11_map x1 m = some a) : z_Ev z_MT zN zRf (d + 7) (k + 1) 147 [.inr (12, 0), .inl (.int x1)] m ((fun a => (z_cX z_cI a.1, a.2) : (Int32 ⊕ Nat) × zM → zO) a) := by
  refine zk_top (I := (yX11_map, cX11_map, 4, (some .char), [], tX11_map, 12, 1, 12, 0, 0, 0)) (oc := (fun a => (z_cX z_cI a.1, a.2) : (Int32 ⊕ Nat) × zM → zO)) (a := a) rfl (Nat.le_of_ble_eq_true rfl) (fun G R => ?_) ha
  unfold f_X11_map
  refine zk_st R 7 11 [some (.inr (12, 0)), some (.inl (.int x1)), some (.inl (.int ((m.1 6 0 0) + (1 : Int32)))), none] [.inl (.int x1)] m rfl ⟨trivial, (Nat.le_of_ble_eq_true rfl), (Nat.le_of_ble_eq_true rfl), trivial, trivial, trivial, trivial, trivial⟩ ?_
  refine zk_br R rfl (fun _ => ?_) (fun _ => ?_)
  · exact zk_thr R (k := k + 0) rfl rfl
  · refine zk_st R 8 26 [some (.inr (12, 0)), some (.inl (.int x1)), some (.inl (.int ((m.1 6 0 0) + (1 : Int32)))), none] [.inl (.int ((((m.1 6 0 0) + (1 : Int32)) * (m.1 6 0 1)) - (1 : Int32))), .inl (.int x1)] m rfl ⟨trivial, trivial, trivial, (Nat.le_of_ble_eq_true rfl), (Nat.le_of_ble_eq_true rfl), trivial, trivial, trivial, trivial⟩ ?_
    refine zk_br R rfl (fun _ => ?_) (fun _ => ?_)
    · exact zk_thr R (k := k + 0) rfl rfl
    · refine zk_st R 1 30 [some (.inr (12, 0)), some (.inl (.int x1)), some (.inl (.int ((m.1 6 0 0) + (1 : Int32)))), none] [.inl (.int ((m.1 6 0 0) + (1 : Int32)))] m rfl ⟨trivial, trivial⟩ ?_
      refine zk_br R rfl (fun _ => ?_) (fun _ => ?_)
      · refine zk_gd fun e4 => ?_
        refine zk_st R 8 56 [some (.inr (12, 0)), some (.inl (.int x1)), some (.inl (.int ((m.1 6 0 0) + (1 : Int32)))), some (.inl (.int (z_irem x1 ((m.1 6 0 0) + (1 : Int32)))))] [.inl (.int (m.1 6 0 0)), .inl (.int (z_irem x1 ((m.1 6 0 0) + (1 : Int32))))] m rfl ⟨trivial, trivial, (z_nz_ne e4), trivial, trivial, trivial, (Nat.le_of_ble_eq_true rfl), (Nat.le_of_ble_eq_true rfl), trivial⟩ ?_
        refine zk_br R rfl (fun _ => ?_) (fun _ => ?_)
        · refine zk_gd fun e6 => ?_
          refine zk_st R 1 61 [some (.inr (12, 0)), some (.inl (.int x1)), some (.inl (.int ((m.1 6 0 0) + (1 : Int32)))), some (.inl (.int (z_irem x1 ((m.1 6 0 0) + (1 : Int32)))))] [.inl (.int (47 : Int32))] m rfl ⟨trivial, trivial⟩ ?_
          exact zk_ret R rfl (z_bC_of e6) rfl
        · refine zk_st R 3 67 [some (.inr (12, 0)), some (.inl (.int x1)), some (.inl (.int ((m.1 6 0 0) + (1 : Int32)))), some (.inl (.int (z_irem x1 ((m.1 6 0 0) + (1 : Int32)))))] [.inr (6, 0), .inr (12, 0)] m rfl ⟨trivial, trivial, (Nat.le_of_ble_eq_true rfl), trivial⟩ ?_
          refine zk_call R (fun _ => none) id rfl (r_X11_surveyFlows (Nat.le_of_ble_eq_true rfl)) (fun b hb => w_X11_surveyFlows d 0 0 (Nat.le_of_ble_eq_true rfl) m b hb) (fun r7 => ?_)
          refine zk_gd fun e8 => ?_
          refine zk_st R 12 90 [some (.inr (12, 0)), some (.inl (.int x1)), some (.inl (.int ((m.1 6 0 0) + (1 : Int32)))), some (.inl (.int (z_irem x1 ((m.1 6 0 0) + (1 : Int32)))))] [.inl (.int (((x1 / ((m.1 6 0 0) + (1 : Int32))) * (r7.1 6 0 0)) + (z_irem x1 ((m.1 6 0 0) + (1 : Int32))))), .inr (20, 37)] r7 rfl ⟨trivial, (Nat.le_of_ble_eq_true rfl), (Nat.le_of_ble_eq_true rfl), trivial, trivial, (z_nz_ne e8), trivial, (Nat.le_of_ble_eq_true rfl), (Nat.le_of_ble_eq_true rfl), trivial, trivial, trivial, trivial⟩ ?_
          refine zk_call R (fun b => some (.inl (.int b))) (fun _ => r7) rfl (r_X7_at) (fun b hb => w_X7_at_k20 (d + 5) 0 37 (Nat.le_of_ble_eq_true rfl) (((x1 / ((m.1 6 0 0) + (1 : Int32))) * (r7.1 6 0 0)) + (z_irem x1 ((m.1 6 0 0) + (1 : Int32)))) r7 b hb) (fun r9 => ?_)
          refine zk_if (fun e10 => ?_) (fun e10 => ?_)
          · refine zk_tsw R rfl (z_swv e10 (by decide +kernel : _ = 124)) ?_
            refine zk_gd fun e11 => ?_
            refine zk_st R 1 126 [some (.inr (12, 0)), some (.inl (.int x1)), some (.inl (.int ((m.1 6 0 0) + (1 : Int32)))), some (.inl (.int (z_irem x1 ((m.1 6 0 0) + (1 : Int32)))))] [.inl (.int (94 : Int32))] r7 rfl ⟨trivial, trivial⟩ ?_
            exact zk_ret R rfl (z_bC_of e11) rfl
          refine zk_if (fun e12 => ?_) (fun e12 => ?_)
          · refine zk_tsw R rfl (z_swv e12 (by decide +kernel : _ = 127)) ?_
            refine zk_gd fun e13 => ?_
            refine zk_st R 1 129 [some (.inr (12, 0)), some (.inl (.int x1)), some (.inl (.int ((m.1 6 0 0) + (1 : Int32)))), some (.inl (.int (z_irem x1 ((m.1 6 0 0) + (1 : Int32)))))] [.inl (.int (62 : Int32))] r7 rfl ⟨trivial, trivial⟩ ?_
            exact zk_ret R rfl (z_bC_of e13) rfl
          refine zk_if (fun e14 => ?_) (fun e14 => ?_)
          · refine zk_tsw R rfl (z_swv e14 (by decide +kernel : _ = 130)) ?_
            refine zk_gd fun e15 => ?_
            refine zk_st R 1 132 [some (.inr (12, 0)), some (.inl (.int x1)), some (.inl (.int ((m.1 6 0 0) + (1 : Int32)))), some (.inl (.int (z_irem x1 ((m.1 6 0 0) + (1 : Int32)))))] [.inl (.int (118 : Int32))] r7 rfl ⟨trivial, trivial⟩ ?_
            exact zk_ret R rfl (z_bC_of e15) rfl
          refine zk_if (fun e16 => ?_) (fun e16 => ?_)
          · refine zk_tsw R rfl (z_swv e16 (by decide +kernel : _ = 133)) ?_
            refine zk_gd fun e17 => ?_
            refine zk_st R 1 135 [some (.inr (12, 0)), some (.inl (.int x1)), some (.inl (.int ((m.1 6 0 0) + (1 : Int32)))), some (.inl (.int (z_irem x1 ((m.1 6 0 0) + (1 : Int32)))))] [.inl (.int (60 : Int32))] r7 rfl ⟨trivial, trivial⟩ ?_
            exact zk_ret R rfl (z_bC_of e17) rfl
          refine zk_tsw R rfl (z_swd 4 (by decide) (fun i hi => ?_) (by decide : _ = 136)) ?_
          · have hi' : i = 0 ∨ i = 1 ∨ i = 2 ∨ i = 3 := by omega
            rcases hi' with rfl | rfl | rfl | rfl
            · exact e10
            · exact e12
            · exact e14
            · exact e16
          · refine zk_gd fun e18 => ?_
            refine zk_st R 1 138 [some (.inr (12, 0)), some (.inl (.int x1)), some (.inl (.int ((m.1 6 0 0) + (1 : Int32)))), some (.inl (.int (z_irem x1 ((m.1 6 0 0) + (1 : Int32)))))] [.inl (.int (111 : Int32))] r7 rfl ⟨trivial, trivial⟩ ?_
            exact zk_ret R rfl (z_bC_of e18) rfl
      · exact zk_thr R (k := k + 0) rfl rfl
theorem r_L_lake {as : List zA} : z_rcv zN (zKD 270) as := by
  rw [show zKD 270 = 0 from rfl]
  trivial
noncomputable def f_L_lake (x1 : Int32) (x2 : Int32) (m : zM) : Option (Int32 × zM) :=
  z_bh (f_X11_lake x1 x2 m) (fun r1 m2 =>
  z_gd (z_inb (0 : Int32) (z_alen 32)) <| some ((0 : Int32), (z_sL m2 32 0 (Int32.toNatClampNeg (0 : Int32)) (Int32.toInt64 r1)))) (z_hf [(0, 10, 13, 21, 1, 1), (0, 10, 17, 13, 0, 2)] 5) id
theorem w_L_lake (d k : Nat) (x1 : Int32) (x2 : Int32) (m : zM) (a : Int32 × zM) (ha : f_L_lake x1 x2 m = some a) : z_Ev z_MT zN zRf (d + 7) (k + 2) 270 [.inr (12, 0), .inl (.int x1), .inl (.int x2), .inr (32, 0)] m ((fun a => (z_cI a.1, a.2) : Int32 × zM → zO) a) := by
  refine zk_top (I := (yL_lake, cL_lake, 5, (some .int), [(0, 10, 13, 21, 1, 1), (0, 10, 17, 13, 0, 2)], tL_lake, 0, 4, 0, 0, 0, 0)) (oc := (fun a => (z_cI a.1, a.2) : Int32 × zM → zO)) (a := a) rfl (Nat.le_of_ble_eq_true rfl) (fun G R => ?_) ha
  unfold f_L_lake
  refine zk_st R 5 5 [some (.inr (12, 0)), some (.inl (.int x1)), some (.inl (.int x2)), some (.inr (32, 0)), none] [.inl (.int x2), .inl (.int x1), .inr (12, 0), .inl (.int (0 : Int32)), .inr (32, 0)] m rfl ⟨trivial, trivial, trivial, trivial, trivial, trivial⟩ ?_
  refine zk_callh (cr := id) R (k + 0) 2 (fun r1 => some (.inl (.int r1))) rfl (r_X11_lake (Nat.le_of_ble_eq_true rfl)) (fun b m' hb => w_X11_lake d 0 x1 x2 m _ hb) (fun e m' hb => w_X11_lake d 0 x1 x2 m _ hb) (fun _ _ => rfl) (fun r1 m2 => ?_)
  refine zk_gd fun e3 => ?_
  refine zk_st R 4 22 [some (.inr (12, 0)), some (.inl (.int x1)), some (.inl (.int x2)), some (.inr (32, 0)), none] [.inl (.int (0 : Int32))] (z_sL m2 32 0 (Int32.toNatClampNeg (0 : Int32)) (Int32.toInt64 r1)) rfl ⟨trivial, ⟨(Nat.le_of_ble_eq_true rfl), z_inb_in e3⟩, trivial, trivial, trivial⟩ ?_
  exact zk_ret R rfl trivial rfl
theorem r_L_remedy {as : List zA} : z_rcv zN (zKD 272) as := by
  rw [show zKD 272 = 0 from rfl]
  trivial
noncomputable def f_L_remedy (x1 : Int32) (m : zM) : Option (Int32 × zM) :=
  z_bh (f_X11_remedy x1 m) (fun r1 m2 =>
  z_gd (z_inb (0 : Int32) (z_alen 32)) <| some ((0 : Int32), (z_sL m2 32 0 (Int32.toNatClampNeg (0 : Int32)) (Int32.toInt64 r1)))) (z_hf [(0, 9, 12, 21, 1, 1)] 4) id
theorem w_L_remedy (d k : Nat) (x1 : Int32) (m : zM) (a : Int32 × zM) (ha : f_L_remedy x1 m = some a) : z_Ev z_MT zN zRf (d + 7) (k + 1) 272 [.inr (12, 0), .inl (.int x1), .inr (32, 0)] m ((fun a => (z_cI a.1, a.2) : Int32 × zM → zO) a) := by
  refine zk_top (I := (yL_remedy, cL_remedy, 4, (some .int), [(0, 9, 12, 21, 1, 1)], tL_remedy, 0, 3, 0, 0, 0, 0)) (oc := (fun a => (z_cI a.1, a.2) : Int32 × zM → zO)) (a := a) rfl (Nat.le_of_ble_eq_true rfl) (fun G R => ?_) ha
  unfold f_L_remedy
  refine zk_st R 4 4 [some (.inr (12, 0)), some (.inl (.int x1)), some (.inr (32, 0)), none] [.inl (.int x1), .inr (12, 0), .inl (.int (0 : Int32)), .inr (32, 0)] m rfl ⟨trivial, trivial, trivial, trivial, trivial⟩ ?_
  refine zk_callh (cr := id) R (k + 0) 1 (fun r1 => some (.inl (.int r1))) rfl (r_X11_remedy (Nat.le_of_ble_eq_true rfl)) (fun b m' hb => w_X11_remedy d 0 x1 m _ hb) (fun e m' hb => w_X11_remedy d 0 x1 m _ hb) (fun _ _ => rfl) (fun r1 m2 => ?_)
  refine zk_gd fun e3 => ?_
  refine zk_st R 4 16 [some (.inr (12, 0)), some (.inl (.int x1)), some (.inr (32, 0)), none] [.inl (.int (0 : Int32))] (z_sL m2 32 0 (Int32.toNatClampNeg (0 : Int32)) (Int32.toInt64 r1)) rfl ⟨trivial, ⟨(Nat.le_of_ble_eq_true rfl), z_inb_in e3⟩, trivial, trivial, trivial⟩ ?_
  exact zk_ret R rfl trivial rfl
theorem r_L_fillLake {as : List zA} : z_rcv zN (zKD 273) as := by
  rw [show zKD 273 = 0 from rfl]
  trivial
noncomputable def f_L_fillLake (x1 : Int32) (m : zM) : Option (Int32 × zM) :=
  z_bh (f_X11_fillLake x1 m) (fun r1 m2 =>
  z_gd (z_inb (0 : Int32) (z_alen 32)) <| some ((0 : Int32), (z_sL m2 32 0 (Int32.toNatClampNeg (0 : Int32)) (Int32.toInt64 r1)))) (z_hf [(0, 9, 12, 21, 1, 1)] 4) id
theorem w_L_fillLake (d k : Nat) (x1 : Int32) (m : zM) (a : Int32 × zM) (ha : f_L_fillLake x1 m = some a) : z_Ev z_MT zN zRf (d + 7) (k + 1) 273 [.inr (12, 0), .inl (.int x1), .inr (32, 0)] m ((fun a => (z_cI a.1, a.2) : Int32 × zM → zO) a) := by
  refine zk_top (I := (yL_fillLake, cL_fillLake, 4, (some .int), [(0, 9, 12, 21, 1, 1)], tL_fillLake, 0, 3, 0, 0, 0, 0)) (oc := (fun a => (z_cI a.1, a.2) : Int32 × zM → zO)) (a := a) rfl (Nat.le_of_ble_eq_true rfl) (fun G R => ?_) ha
  unfold f_L_fillLake
  refine zk_st R 4 4 [some (.inr (12, 0)), some (.inl (.int x1)), some (.inr (32, 0)), none] [.inl (.int x1), .inr (12, 0), .inl (.int (0 : Int32)), .inr (32, 0)] m rfl ⟨trivial, trivial, trivial, trivial, trivial⟩ ?_
  refine zk_callh (cr := id) R (k + 0) 1 (fun r1 => some (.inl (.int r1))) rfl (r_X11_fillLake (Nat.le_of_ble_eq_true rfl)) (fun b m' hb => w_X11_fillLake d 0 x1 m _ hb) (fun e m' hb => w_X11_fillLake d 0 x1 m _ hb) (fun _ _ => rfl) (fun r1 m2 => ?_)
  refine zk_gd fun e3 => ?_
  refine zk_st R 4 16 [some (.inr (12, 0)), some (.inl (.int x1)), some (.inr (32, 0)), none] [.inl (.int (0 : Int32))] (z_sL m2 32 0 (Int32.toNatClampNeg (0 : Int32)) (Int32.toInt64 r1)) rfl ⟨trivial, ⟨(Nat.le_of_ble_eq_true rfl), z_inb_in e3⟩, trivial, trivial, trivial⟩ ?_
  exact zk_ret R rfl trivial rfl
theorem r_L_carveLake {as : List zA} : z_rcv zN (zKD 274) as := by
  rw [show zKD 274 = 0 from rfl]
  trivial
noncomputable def f_L_carveLake (x1 : Int32) (m : zM) : Option (Int32 × zM) :=
  z_bh (f_X11_carveLake x1 m) (fun r1 m2 =>
  z_gd (z_inb (0 : Int32) (z_alen 32)) <| some ((0 : Int32), (z_sL m2 32 0 (Int32.toNatClampNeg (0 : Int32)) (Int32.toInt64 r1)))) (z_hf [(0, 9, 12, 21, 1, 1)] 4) id
theorem w_L_carveLake (d k : Nat) (x1 : Int32) (m : zM) (a : Int32 × zM) (ha : f_L_carveLake x1 m = some a) : z_Ev z_MT zN zRf (d + 7) (k + 1) 274 [.inr (12, 0), .inl (.int x1), .inr (32, 0)] m ((fun a => (z_cI a.1, a.2) : Int32 × zM → zO) a) := by
  refine zk_top (I := (yL_carveLake, cL_carveLake, 4, (some .int), [(0, 9, 12, 21, 1, 1)], tL_carveLake, 0, 3, 0, 0, 0, 0)) (oc := (fun a => (z_cI a.1, a.2) : Int32 × zM → zO)) (a := a) rfl (Nat.le_of_ble_eq_true rfl) (fun G R => ?_) ha
  unfold f_L_carveLake
  refine zk_st R 4 4 [some (.inr (12, 0)), some (.inl (.int x1)), some (.inr (32, 0)), none] [.inl (.int x1), .inr (12, 0), .inl (.int (0 : Int32)), .inr (32, 0)] m rfl ⟨trivial, trivial, trivial, trivial, trivial⟩ ?_
  refine zk_callh (cr := id) R (k + 0) 1 (fun r1 => some (.inl (.int r1))) rfl (r_X11_carveLake (Nat.le_of_ble_eq_true rfl)) (fun b m' hb => w_X11_carveLake d 0 x1 m _ hb) (fun e m' hb => w_X11_carveLake d 0 x1 m _ hb) (fun _ _ => rfl) (fun r1 m2 => ?_)
  refine zk_gd fun e3 => ?_
  refine zk_st R 4 16 [some (.inr (12, 0)), some (.inl (.int x1)), some (.inr (32, 0)), none] [.inl (.int (0 : Int32))] (z_sL m2 32 0 (Int32.toNatClampNeg (0 : Int32)) (Int32.toInt64 r1)) rfl ⟨trivial, ⟨(Nat.le_of_ble_eq_true rfl), z_inb_in e3⟩, trivial, trivial, trivial⟩ ?_
  exact zk_ret R rfl trivial rfl
theorem r_L_carveWay {as : List zA} : z_rcv zN (zKD 275) as := by
  rw [show zKD 275 = 0 from rfl]
  trivial
noncomputable def f_L_carveWay (x1 : Int32) (x2 : Int32) (m : zM) : Option (Int32 × zM) :=
  z_bh (f_X11_carveWay x1 x2 m) (fun r1 m2 =>
  z_gd (z_inb (0 : Int32) (z_alen 32)) <| some ((0 : Int32), (z_sL m2 32 0 (Int32.toNatClampNeg (0 : Int32)) (Int32.toInt64 r1)))) (z_hf [(0, 10, 13, 21, 1, 1), (0, 10, 17, 61, 3, 2)] 5) id
theorem w_L_carveWay (d k : Nat) (x1 : Int32) (x2 : Int32) (m : zM) (a : Int32 × zM) (ha : f_L_carveWay x1 x2 m = some a) : z_Ev z_MT zN zRf (d + 7) (k + 2) 275 [.inr (12, 0), .inl (.int x1), .inl (.int x2), .inr (32, 0)] m ((fun a => (z_cI a.1, a.2) : Int32 × zM → zO) a) := by
  refine zk_top (I := (yL_carveWay, cL_carveWay, 5, (some .int), [(0, 10, 13, 21, 1, 1), (0, 10, 17, 61, 3, 2)], tL_carveWay, 0, 4, 0, 0, 0, 0)) (oc := (fun a => (z_cI a.1, a.2) : Int32 × zM → zO)) (a := a) rfl (Nat.le_of_ble_eq_true rfl) (fun G R => ?_) ha
  unfold f_L_carveWay
  refine zk_st R 5 5 [some (.inr (12, 0)), some (.inl (.int x1)), some (.inl (.int x2)), some (.inr (32, 0)), none] [.inl (.int x2), .inl (.int x1), .inr (12, 0), .inl (.int (0 : Int32)), .inr (32, 0)] m rfl ⟨trivial, trivial, trivial, trivial, trivial, trivial⟩ ?_
  refine zk_callh (cr := id) R (k + 0) 2 (fun r1 => some (.inl (.int r1))) rfl (r_X11_carveWay (Nat.le_of_ble_eq_true rfl)) (fun b m' hb => w_X11_carveWay d 0 x1 x2 m _ hb) (fun e m' hb => w_X11_carveWay d 0 x1 x2 m _ hb) (fun _ _ => rfl) (fun r1 m2 => ?_)
  refine zk_gd fun e3 => ?_
  refine zk_st R 4 22 [some (.inr (12, 0)), some (.inl (.int x1)), some (.inl (.int x2)), some (.inr (32, 0)), none] [.inl (.int (0 : Int32))] (z_sL m2 32 0 (Int32.toNatClampNeg (0 : Int32)) (Int32.toInt64 r1)) rfl ⟨trivial, ⟨(Nat.le_of_ble_eq_true rfl), z_inb_in e3⟩, trivial, trivial, trivial⟩ ?_
  exact zk_ret R rfl trivial rfl
theorem r_L_count {as : List zA} : z_rcv zN (zKD 267) as := by
  rw [show zKD 267 = 0 from rfl]
  trivial
noncomputable def f_L_count (x1 : Int32) (m : zM) : Option (Int32 × zM) :=
  z_bh (f_X11_count x1 m) (fun r1 m2 =>
  z_gd (z_inb (0 : Int32) (z_alen 32)) <| some ((0 : Int32), (z_sL m2 32 0 (Int32.toNatClampNeg (0 : Int32)) (Int32.toInt64 r1)))) (z_hf [(0, 9, 12, 13, 0, 1)] 4) id
theorem w_L_count (d k : Nat) (x1 : Int32) (m : zM) (a : Int32 × zM) (ha : f_L_count x1 m = some a) : z_Ev z_MT zN zRf (d + 8) (k + 1) 267 [.inr (12, 0), .inl (.int x1), .inr (32, 0)] m ((fun a => (z_cI a.1, a.2) : Int32 × zM → zO) a) := by
  refine zk_top (I := (yL_count, cL_count, 4, (some .int), [(0, 9, 12, 13, 0, 1)], tL_count, 0, 3, 0, 0, 0, 0)) (oc := (fun a => (z_cI a.1, a.2) : Int32 × zM → zO)) (a := a) rfl (Nat.le_of_ble_eq_true rfl) (fun G R => ?_) ha
  unfold f_L_count
  refine zk_st R 4 4 [some (.inr (12, 0)), some (.inl (.int x1)), some (.inr (32, 0)), none] [.inl (.int x1), .inr (12, 0), .inl (.int (0 : Int32)), .inr (32, 0)] m rfl ⟨trivial, trivial, trivial, trivial, trivial⟩ ?_
  refine zk_callh (cr := id) R (k + 0) 1 (fun r1 => some (.inl (.int r1))) rfl (r_X11_count (Nat.le_of_ble_eq_true rfl)) (fun b m' hb => w_X11_count d 0 x1 m _ hb) (fun e m' hb => w_X11_count d 0 x1 m _ hb) (fun _ _ => rfl) (fun r1 m2 => ?_)
  refine zk_gd fun e3 => ?_
  refine zk_st R 4 16 [some (.inr (12, 0)), some (.inl (.int x1)), some (.inr (32, 0)), none] [.inl (.int (0 : Int32))] (z_sL m2 32 0 (Int32.toNatClampNeg (0 : Int32)) (Int32.toInt64 r1)) rfl ⟨trivial, ⟨(Nat.le_of_ble_eq_true rfl), z_inb_in e3⟩, trivial, trivial, trivial⟩ ?_
  exact zk_ret R rfl trivial rfl
theorem r_L_flow {as : List zA} : z_rcv zN (zKD 277) as := by
  rw [show zKD 277 = 0 from rfl]
  trivial
noncomputable def f_L_flow (x1 : Int32) (m : zM) : Option (Int32 × zM) :=
  z_bh (f_X11_flow x1 m) (fun r1 m2 =>
  z_gd (z_inb (0 : Int32) (z_alen 32)) <| some ((0 : Int32), (z_sL m2 32 0 (Int32.toNatClampNeg (0 : Int32)) (Int32.toInt64 r1)))) (z_hf [(0, 9, 12, 21, 1, 1), (0, 9, 15, 61, 3, 2)] 4) id
theorem w_L_flow (d k : Nat) (x1 : Int32) (m : zM) (a : Int32 × zM) (ha : f_L_flow x1 m = some a) : z_Ev z_MT zN zRf (d + 8) (k + 2) 277 [.inr (12, 0), .inl (.int x1), .inr (32, 0)] m ((fun a => (z_cI a.1, a.2) : Int32 × zM → zO) a) := by
  refine zk_top (I := (yL_flow, cL_flow, 4, (some .int), [(0, 9, 12, 21, 1, 1), (0, 9, 15, 61, 3, 2)], tL_flow, 0, 3, 0, 0, 0, 0)) (oc := (fun a => (z_cI a.1, a.2) : Int32 × zM → zO)) (a := a) rfl (Nat.le_of_ble_eq_true rfl) (fun G R => ?_) ha
  unfold f_L_flow
  refine zk_st R 4 4 [some (.inr (12, 0)), some (.inl (.int x1)), some (.inr (32, 0)), none] [.inl (.int x1), .inr (12, 0), .inl (.int (0 : Int32)), .inr (32, 0)] m rfl ⟨trivial, trivial, trivial, trivial, trivial⟩ ?_
  refine zk_callh (cr := id) R (k + 0) 2 (fun r1 => some (.inl (.int r1))) rfl (r_X11_flow (Nat.le_of_ble_eq_true rfl)) (fun b m' hb => w_X11_flow d 0 x1 m _ hb) (fun e m' hb => w_X11_flow d 0 x1 m _ hb) (fun _ _ => rfl) (fun r1 m2 => ?_)
  refine zk_gd fun e3 => ?_
  refine zk_st R 4 19 [some (.inr (12, 0)), some (.inl (.int x1)), some (.inr (32, 0)), none] [.inl (.int (0 : Int32))] (z_sL m2 32 0 (Int32.toNatClampNeg (0 : Int32)) (Int32.toInt64 r1)) rfl ⟨trivial, ⟨(Nat.le_of_ble_eq_true rfl), z_inb_in e3⟩, trivial, trivial, trivial⟩ ?_
  exact zk_ret R rfl trivial rfl
theorem r_L_why {as : List zA} : z_rcv zN (zKD 278) as := by
  rw [show zKD 278 = 0 from rfl]
  trivial
noncomputable def f_L_why (x1 : Int32) (x2 : Int32) (m : zM) : Option (Int32 × zM) :=
  z_bh (f_X11_why x1 x2 m) (fun r1 m2 =>
  z_gd (z_inb (0 : Int32) (z_alen 32)) <| some ((0 : Int32), (z_sL m2 32 0 (Int32.toNatClampNeg (0 : Int32)) (Int32.toInt64 r1)))) (z_hf [(0, 10, 13, 21, 1, 1), (0, 10, 17, 13, 0, 2)] 5) id
theorem w_L_why (d k : Nat) (x1 : Int32) (x2 : Int32) (m : zM) (a : Int32 × zM) (ha : f_L_why x1 x2 m = some a) : z_Ev z_MT zN zRf (d + 8) (k + 2) 278 [.inr (12, 0), .inl (.int x1), .inl (.int x2), .inr (32, 0)] m ((fun a => (z_cI a.1, a.2) : Int32 × zM → zO) a) := by
  refine zk_top (I := (yL_why, cL_why, 5, (some .int), [(0, 10, 13, 21, 1, 1), (0, 10, 17, 13, 0, 2)], tL_why, 0, 4, 0, 0, 0, 0)) (oc := (fun a => (z_cI a.1, a.2) : Int32 × zM → zO)) (a := a) rfl (Nat.le_of_ble_eq_true rfl) (fun G R => ?_) ha
  unfold f_L_why
  refine zk_st R 5 5 [some (.inr (12, 0)), some (.inl (.int x1)), some (.inl (.int x2)), some (.inr (32, 0)), none] [.inl (.int x2), .inl (.int x1), .inr (12, 0), .inl (.int (0 : Int32)), .inr (32, 0)] m rfl ⟨trivial, trivial, trivial, trivial, trivial, trivial⟩ ?_
  refine zk_callh (cr := id) R (k + 0) 2 (fun r1 => some (.inl (.int r1))) rfl (r_X11_why (Nat.le_of_ble_eq_true rfl)) (fun b m' hb => w_X11_why d 0 x1 x2 m _ hb) (fun e m' hb => w_X11_why d 0 x1 x2 m _ hb) (fun _ _ => rfl) (fun r1 m2 => ?_)
  refine zk_gd fun e3 => ?_
  refine zk_st R 4 22 [some (.inr (12, 0)), some (.inl (.int x1)), some (.inl (.int x2)), some (.inr (32, 0)), none] [.inl (.int (0 : Int32))] (z_sL m2 32 0 (Int32.toNatClampNeg (0 : Int32)) (Int32.toInt64 r1)) rfl ⟨trivial, ⟨(Nat.le_of_ble_eq_true rfl), z_inb_in e3⟩, trivial, trivial, trivial⟩ ?_
  exact zk_ret R rfl trivial rfl
theorem r_L_route {as : List zA} : z_rcv zN (zKD 279) as := by
  rw [show zKD 279 = 0 from rfl]
  trivial
noncomputable def f_L_route (x1 : Int32) (x2 : Int32) (m : zM) : Option (Int32 × zM) :=
  z_bh (f_X11_route x1 x2 m) (fun r1 m2 =>
  z_gd (z_inb (0 : Int32) (z_alen 32)) <| some ((0 : Int32), (z_sL m2 32 0 (Int32.toNatClampNeg (0 : Int32)) (Int32.toInt64 r1)))) (z_hf [(0, 10, 13, 21, 1, 1), (0, 10, 17, 61, 3, 2)] 5) id
theorem w_L_route (d k : Nat) (x1 : Int32) (x2 : Int32) (m : zM) (a : Int32 × zM) (ha : f_L_route x1 x2 m = some a) : z_Ev z_MT zN zRf (d + 8) (k + 2) 279 [.inr (12, 0), .inl (.int x1), .inl (.int x2), .inr (32, 0)] m ((fun a => (z_cI a.1, a.2) : Int32 × zM → zO) a) := by
  refine zk_top (I := (yL_route, cL_route, 5, (some .int), [(0, 10, 13, 21, 1, 1), (0, 10, 17, 61, 3, 2)], tL_route, 0, 4, 0, 0, 0, 0)) (oc := (fun a => (z_cI a.1, a.2) : Int32 × zM → zO)) (a := a) rfl (Nat.le_of_ble_eq_true rfl) (fun G R => ?_) ha
  unfold f_L_route
  refine zk_st R 5 5 [some (.inr (12, 0)), some (.inl (.int x1)), some (.inl (.int x2)), some (.inr (32, 0)), none] [.inl (.int x2), .inl (.int x1), .inr (12, 0), .inl (.int (0 : Int32)), .inr (32, 0)] m rfl ⟨trivial, trivial, trivial, trivial, trivial, trivial⟩ ?_
  refine zk_callh (cr := id) R (k + 0) 2 (fun r1 => some (.inl (.int r1))) rfl (r_X11_route (Nat.le_of_ble_eq_true rfl)) (fun b m' hb => w_X11_route d 0 x1 x2 m _ hb) (fun e m' hb => w_X11_route d 0 x1 x2 m _ hb) (fun _ _ => rfl) (fun r1 m2 => ?_)
  refine zk_gd fun e3 => ?_
  refine zk_st R 4 22 [some (.inr (12, 0)), some (.inl (.int x1)), some (.inl (.int x2)), some (.inr (32, 0)), none] [.inl (.int (0 : Int32))] (z_sL m2 32 0 (Int32.toNatClampNeg (0 : Int32)) (Int32.toInt64 r1)) rfl ⟨trivial, ⟨(Nat.le_of_ble_eq_true rfl), z_inb_in e3⟩, trivial, trivial, trivial⟩ ?_
  exact zk_ret R rfl trivial rfl
theorem r_L_upstream {as : List zA} : z_rcv zN (zKD 280) as := by
  rw [show zKD 280 = 0 from rfl]
  trivial
noncomputable def f_L_upstream (x1 : Int32) (m : zM) : Option (Int32 × zM) :=
  z_bh (f_X11_upstream x1 m) (fun r1 m2 =>
  z_gd (z_inb (0 : Int32) (z_alen 32)) <| some ((0 : Int32), (z_sL m2 32 0 (Int32.toNatClampNeg (0 : Int32)) r1))) (z_hf [(0, 8, 11, 21, 1, 1)] 4) id
theorem w_L_upstream (d k : Nat) (x1 : Int32) (m : zM) (a : Int32 × zM) (ha : f_L_upstream x1 m = some a) : z_Ev z_MT zN zRf (d + 8) (k + 1) 280 [.inr (12, 0), .inl (.int x1), .inr (32, 0)] m ((fun a => (z_cI a.1, a.2) : Int32 × zM → zO) a) := by
  refine zk_top (I := (yL_upstream, cL_upstream, 4, (some .int), [(0, 8, 11, 21, 1, 1)], tL_upstream, 0, 3, 0, 0, 0, 0)) (oc := (fun a => (z_cI a.1, a.2) : Int32 × zM → zO)) (a := a) rfl (Nat.le_of_ble_eq_true rfl) (fun G R => ?_) ha
  unfold f_L_upstream
  refine zk_st R 4 4 [some (.inr (12, 0)), some (.inl (.int x1)), some (.inr (32, 0)), none] [.inl (.int x1), .inr (12, 0), .inl (.int (0 : Int32)), .inr (32, 0)] m rfl ⟨trivial, trivial, trivial, trivial, trivial⟩ ?_
  refine zk_callh (cr := id) R (k + 0) 1 (fun r1 => some (.inl (.long r1))) rfl (r_X11_upstream (Nat.le_of_ble_eq_true rfl)) (fun b m' hb => w_X11_upstream d 0 x1 m _ hb) (fun e m' hb => w_X11_upstream d 0 x1 m _ hb) (fun _ _ => rfl) (fun r1 m2 => ?_)
  refine zk_gd fun e3 => ?_
  refine zk_st R 3 15 [some (.inr (12, 0)), some (.inl (.int x1)), some (.inr (32, 0)), none] [.inl (.int (0 : Int32))] (z_sL m2 32 0 (Int32.toNatClampNeg (0 : Int32)) r1) rfl ⟨⟨(Nat.le_of_ble_eq_true rfl), z_inb_in e3⟩, trivial, trivial, trivial⟩ ?_
  exact zk_ret R rfl trivial rfl
theorem r_L_water {as : List zA} : z_rcv zN (zKD 281) as := by
  rw [show zKD 281 = 0 from rfl]
  trivial
noncomputable def f_L_water (x1 : Int32) (x2 : Int32) (m : zM) : Option (Int32 × zM) :=
  z_bh (f_X11_water x1 x2 m) (fun r1 m2 =>
  z_gd (z_inb (0 : Int32) (z_alen 32)) <| some ((0 : Int32), (z_sL m2 32 0 (Int32.toNatClampNeg (0 : Int32)) (Int32.toInt64 r1)))) (z_hf [(0, 10, 13, 21, 1, 1), (0, 10, 17, 13, 0, 2)] 5) id
theorem w_L_water (d k : Nat) (x1 : Int32) (x2 : Int32) (m : zM) (a : Int32 × zM) (ha : f_L_water x1 x2 m = some a) : z_Ev z_MT zN zRf (d + 8) (k + 2) 281 [.inr (12, 0), .inl (.int x1), .inl (.int x2), .inr (32, 0)] m ((fun a => (z_cI a.1, a.2) : Int32 × zM → zO) a) := by
  refine zk_top (I := (yL_water, cL_water, 5, (some .int), [(0, 10, 13, 21, 1, 1), (0, 10, 17, 13, 0, 2)], tL_water, 0, 4, 0, 0, 0, 0)) (oc := (fun a => (z_cI a.1, a.2) : Int32 × zM → zO)) (a := a) rfl (Nat.le_of_ble_eq_true rfl) (fun G R => ?_) ha
  unfold f_L_water
  refine zk_st R 5 5 [some (.inr (12, 0)), some (.inl (.int x1)), some (.inl (.int x2)), some (.inr (32, 0)), none] [.inl (.int x2), .inl (.int x1), .inr (12, 0), .inl (.int (0 : Int32)), .inr (32, 0)] m rfl ⟨trivial, trivial, trivial, trivial, trivial, trivial⟩ ?_
  refine zk_callh (cr := id) R (k + 0) 2 (fun r1 => some (.inl (.int r1))) rfl (r_X11_water (Nat.le_of_ble_eq_true rfl)) (fun b m' hb => w_X11_water d 0 x1 x2 m _ hb) (fun e m' hb => w_X11_water d 0 x1 x2 m _ hb) (fun _ _ => rfl) (fun r1 m2 => ?_)
  refine zk_gd fun e3 => ?_
  refine zk_st R 4 22 [some (.inr (12, 0)), some (.inl (.int x1)), some (.inl (.int x2)), some (.inr (32, 0)), none] [.inl (.int (0 : Int32))] (z_sL m2 32 0 (Int32.toNatClampNeg (0 : Int32)) (Int32.toInt64 r1)) rfl ⟨trivial, ⟨(Nat.le_of_ble_eq_true rfl), z_inb_in e3⟩, trivial, trivial, trivial⟩ ?_
  exact zk_ret R rfl trivial rfl
theorem r_L_account {as : List zA} : z_rcv zN (zKD 282) as := by
  rw [show zKD 282 = 0 from rfl]
  trivial
noncomputable def f_L_account (x1 : Int32) (m : zM) : Option (Int32 × zM) :=
  z_bh (f_X11_account x1 m) (fun r1 m2 =>
  z_gd (z_inb (0 : Int32) (z_alen 32)) <| some ((0 : Int32), (z_sL m2 32 0 (Int32.toNatClampNeg (0 : Int32)) (Int32.toInt64 r1)))) (z_hf [(0, 9, 12, 13, 0, 1)] 4) id
theorem w_L_account (d k : Nat) (x1 : Int32) (m : zM) (a : Int32 × zM) (ha : f_L_account x1 m = some a) : z_Ev z_MT zN zRf (d + 8) (k + 1) 282 [.inr (12, 0), .inl (.int x1), .inr (32, 0)] m ((fun a => (z_cI a.1, a.2) : Int32 × zM → zO) a) := by
  refine zk_top (I := (yL_account, cL_account, 4, (some .int), [(0, 9, 12, 13, 0, 1)], tL_account, 0, 3, 0, 0, 0, 0)) (oc := (fun a => (z_cI a.1, a.2) : Int32 × zM → zO)) (a := a) rfl (Nat.le_of_ble_eq_true rfl) (fun G R => ?_) ha
  unfold f_L_account
  refine zk_st R 4 4 [some (.inr (12, 0)), some (.inl (.int x1)), some (.inr (32, 0)), none] [.inl (.int x1), .inr (12, 0), .inl (.int (0 : Int32)), .inr (32, 0)] m rfl ⟨trivial, trivial, trivial, trivial, trivial⟩ ?_
  refine zk_callh (cr := id) R (k + 0) 1 (fun r1 => some (.inl (.int r1))) rfl (r_X11_account (Nat.le_of_ble_eq_true rfl)) (fun b m' hb => w_X11_account d 0 x1 m _ hb) (fun e m' hb => w_X11_account d 0 x1 m _ hb) (fun _ _ => rfl) (fun r1 m2 => ?_)
  refine zk_gd fun e3 => ?_
  refine zk_st R 4 16 [some (.inr (12, 0)), some (.inl (.int x1)), some (.inr (32, 0)), none] [.inl (.int (0 : Int32))] (z_sL m2 32 0 (Int32.toNatClampNeg (0 : Int32)) (Int32.toInt64 r1)) rfl ⟨trivial, ⟨(Nat.le_of_ble_eq_true rfl), z_inb_in e3⟩, trivial, trivial, trivial⟩ ?_
  exact zk_ret R rfl trivial rfl
theorem r_L_order {as : List zA} : z_rcv zN (zKD 283) as := by
  rw [show zKD 283 = 0 from rfl]
  trivial
noncomputable def f_L_order (x1 : Int32) (m : zM) : Option (Int32 × zM) :=
  z_bh (f_X11_order x1 m) (fun r1 m2 =>
  z_gd (z_inb (0 : Int32) (z_alen 32)) <| some ((0 : Int32), (z_sL m2 32 0 (Int32.toNatClampNeg (0 : Int32)) (Int32.toInt64 r1)))) (z_hf [(0, 9, 12, 21, 1, 1)] 4) id
theorem w_L_order (d k : Nat) (x1 : Int32) (m : zM) (a : Int32 × zM) (ha : f_L_order x1 m = some a) : z_Ev z_MT zN zRf (d + 8) (k + 1) 283 [.inr (12, 0), .inl (.int x1), .inr (32, 0)] m ((fun a => (z_cI a.1, a.2) : Int32 × zM → zO) a) := by
  refine zk_top (I := (yL_order, cL_order, 4, (some .int), [(0, 9, 12, 21, 1, 1)], tL_order, 0, 3, 0, 0, 0, 0)) (oc := (fun a => (z_cI a.1, a.2) : Int32 × zM → zO)) (a := a) rfl (Nat.le_of_ble_eq_true rfl) (fun G R => ?_) ha
  unfold f_L_order
  refine zk_st R 4 4 [some (.inr (12, 0)), some (.inl (.int x1)), some (.inr (32, 0)), none] [.inl (.int x1), .inr (12, 0), .inl (.int (0 : Int32)), .inr (32, 0)] m rfl ⟨trivial, trivial, trivial, trivial, trivial⟩ ?_
  refine zk_callh (cr := id) R (k + 0) 1 (fun r1 => some (.inl (.int r1))) rfl (r_X11_order (Nat.le_of_ble_eq_true rfl)) (fun b m' hb => w_X11_order d 0 x1 m _ hb) (fun e m' hb => w_X11_order d 0 x1 m _ hb) (fun _ _ => rfl) (fun r1 m2 => ?_)
  refine zk_gd fun e3 => ?_
  refine zk_st R 4 16 [some (.inr (12, 0)), some (.inl (.int x1)), some (.inr (32, 0)), none] [.inl (.int (0 : Int32))] (z_sL m2 32 0 (Int32.toNatClampNeg (0 : Int32)) (Int32.toInt64 r1)) rfl ⟨trivial, ⟨(Nat.le_of_ble_eq_true rfl), z_inb_in e3⟩, trivial, trivial, trivial⟩ ?_
  exact zk_ret R rfl trivial rfl
theorem r_L_reach {as : List zA} : z_rcv zN (zKD 284) as := by
  rw [show zKD 284 = 0 from rfl]
  trivial
noncomputable def f_L_reach (x1 : Int32) (x2 : Int32) (m : zM) : Option (Int32 × zM) :=
  z_bh (f_X11_reach x1 x2 m) (fun r1 m2 =>
  z_gd (z_inb (0 : Int32) (z_alen 32)) <| some ((0 : Int32), (z_sL m2 32 0 (Int32.toNatClampNeg (0 : Int32)) (Int32.toInt64 r1)))) (z_hf [(0, 10, 13, 21, 1, 1), (0, 10, 17, 13, 0, 2)] 5) id
theorem w_L_reach (d k : Nat) (x1 : Int32) (x2 : Int32) (m : zM) (a : Int32 × zM) (ha : f_L_reach x1 x2 m = some a) : z_Ev z_MT zN zRf (d + 8) (k + 1) 284 [.inr (12, 0), .inl (.int x1), .inl (.int x2), .inr (32, 0)] m ((fun a => (z_cI a.1, a.2) : Int32 × zM → zO) a) := by
  refine zk_top (I := (yL_reach, cL_reach, 5, (some .int), [(0, 10, 13, 21, 1, 1), (0, 10, 17, 13, 0, 2)], tL_reach, 0, 4, 0, 0, 0, 0)) (oc := (fun a => (z_cI a.1, a.2) : Int32 × zM → zO)) (a := a) rfl (Nat.le_of_ble_eq_true rfl) (fun G R => ?_) ha
  unfold f_L_reach
  refine zk_st R 5 5 [some (.inr (12, 0)), some (.inl (.int x1)), some (.inl (.int x2)), some (.inr (32, 0)), none] [.inl (.int x2), .inl (.int x1), .inr (12, 0), .inl (.int (0 : Int32)), .inr (32, 0)] m rfl ⟨trivial, trivial, trivial, trivial, trivial, trivial⟩ ?_
  refine zk_callh (cr := id) R (k + 0) 1 (fun r1 => some (.inl (.int r1))) rfl (r_X11_reach (Nat.le_of_ble_eq_true rfl)) (fun b m' hb => w_X11_reach d 0 x1 x2 m _ hb) (fun e m' hb => w_X11_reach d 0 x1 x2 m _ hb) (fun _ _ => rfl) (fun r1 m2 => ?_)
  refine zk_gd fun e3 => ?_
  refine zk_st R 4 22 [some (.inr (12, 0)), some (.inl (.int x1)), some (.inl (.int x2)), some (.inr (32, 0)), none] [.inl (.int (0 : Int32))] (z_sL m2 32 0 (Int32.toNatClampNeg (0 : Int32)) (Int32.toInt64 r1)) rfl ⟨trivial, ⟨(Nat.le_of_ble_eq_true rfl), z_inb_in e3⟩, trivial, trivial, trivial⟩ ?_
  exact zk_ret R rfl trivial rfl
theorem r_L_reachOf {as : List zA} : z_rcv zN (zKD 285) as := by
  rw [show zKD 285 = 0 from rfl]
  trivial
noncomputable def f_L_reachOf (x1 : Int32) (m : zM) : Option (Int32 × zM) :=
  z_bh (f_X11_reachOf x1 m) (fun r1 m2 =>
  z_gd (z_inb (0 : Int32) (z_alen 32)) <| some ((0 : Int32), (z_sL m2 32 0 (Int32.toNatClampNeg (0 : Int32)) (Int32.toInt64 r1)))) (z_hf [(0, 9, 12, 21, 1, 1), (0, 9, 15, 61, 3, 2)] 4) id
theorem w_L_reachOf (d k : Nat) (x1 : Int32) (m : zM) (a : Int32 × zM) (ha : f_L_reachOf x1 m = some a) : z_Ev z_MT zN zRf (d + 8) (k + 2) 285 [.inr (12, 0), .inl (.int x1), .inr (32, 0)] m ((fun a => (z_cI a.1, a.2) : Int32 × zM → zO) a) := by
  refine zk_top (I := (yL_reachOf, cL_reachOf, 4, (some .int), [(0, 9, 12, 21, 1, 1), (0, 9, 15, 61, 3, 2)], tL_reachOf, 0, 3, 0, 0, 0, 0)) (oc := (fun a => (z_cI a.1, a.2) : Int32 × zM → zO)) (a := a) rfl (Nat.le_of_ble_eq_true rfl) (fun G R => ?_) ha
  unfold f_L_reachOf
  refine zk_st R 4 4 [some (.inr (12, 0)), some (.inl (.int x1)), some (.inr (32, 0)), none] [.inl (.int x1), .inr (12, 0), .inl (.int (0 : Int32)), .inr (32, 0)] m rfl ⟨trivial, trivial, trivial, trivial, trivial⟩ ?_
  refine zk_callh (cr := id) R (k + 0) 2 (fun r1 => some (.inl (.int r1))) rfl (r_X11_reachOf (Nat.le_of_ble_eq_true rfl)) (fun b m' hb => w_X11_reachOf d 0 x1 m _ hb) (fun e m' hb => w_X11_reachOf d 0 x1 m _ hb) (fun _ _ => rfl) (fun r1 m2 => ?_)
  refine zk_gd fun e3 => ?_
  refine zk_st R 4 19 [some (.inr (12, 0)), some (.inl (.int x1)), some (.inr (32, 0)), none] [.inl (.int (0 : Int32))] (z_sL m2 32 0 (Int32.toNatClampNeg (0 : Int32)) (Int32.toInt64 r1)) rfl ⟨trivial, ⟨(Nat.le_of_ble_eq_true rfl), z_inb_in e3⟩, trivial, trivial, trivial⟩ ?_
  exact zk_ret R rfl trivial rfl
theorem r_L_basin {as : List zA} : z_rcv zN (zKD 286) as := by
  rw [show zKD 286 = 0 from rfl]
  trivial
noncomputable def f_L_basin (x1 : Int32) (x2 : Int32) (m : zM) : Option (Int32 × zM) :=
  z_bh (f_X11_basin x1 x2 m) (fun r1 m2 =>
  z_gd (z_inb (0 : Int32) (z_alen 32)) <| some ((0 : Int32), (z_sL m2 32 0 (Int32.toNatClampNeg (0 : Int32)) (Int32.toInt64 r1)))) (z_hf [(0, 10, 13, 21, 1, 1), (0, 10, 17, 37, 2, 2), (0, 10, 21, 13, 0, 3)] 5) id
theorem w_L_basin (d k : Nat) (x1 : Int32) (x2 : Int32) (m : zM) (a : Int32 × zM) (ha : f_L_basin x1 x2 m = some a) : z_Ev z_MT zN zRf (d + 8) (k + 2) 286 [.inr (12, 0), .inl (.int x1), .inl (.int x2), .inr (32, 0)] m ((fun a => (z_cI a.1, a.2) : Int32 × zM → zO) a) := by
  refine zk_top (I := (yL_basin, cL_basin, 5, (some .int), [(0, 10, 13, 21, 1, 1), (0, 10, 17, 37, 2, 2), (0, 10, 21, 13, 0, 3)], tL_basin, 0, 4, 0, 0, 0, 0)) (oc := (fun a => (z_cI a.1, a.2) : Int32 × zM → zO)) (a := a) rfl (Nat.le_of_ble_eq_true rfl) (fun G R => ?_) ha
  unfold f_L_basin
  refine zk_st R 5 5 [some (.inr (12, 0)), some (.inl (.int x1)), some (.inl (.int x2)), some (.inr (32, 0)), none] [.inl (.int x2), .inl (.int x1), .inr (12, 0), .inl (.int (0 : Int32)), .inr (32, 0)] m rfl ⟨trivial, trivial, trivial, trivial, trivial, trivial⟩ ?_
  refine zk_callh (cr := id) R (k + 0) 2 (fun r1 => some (.inl (.int r1))) rfl (r_X11_basin (Nat.le_of_ble_eq_true rfl)) (fun b m' hb => w_X11_basin d 0 x1 x2 m _ hb) (fun e m' hb => w_X11_basin d 0 x1 x2 m _ hb) (fun _ _ => rfl) (fun r1 m2 => ?_)
  refine zk_gd fun e3 => ?_
  refine zk_st R 4 26 [some (.inr (12, 0)), some (.inl (.int x1)), some (.inl (.int x2)), some (.inr (32, 0)), none] [.inl (.int (0 : Int32))] (z_sL m2 32 0 (Int32.toNatClampNeg (0 : Int32)) (Int32.toInt64 r1)) rfl ⟨trivial, ⟨(Nat.le_of_ble_eq_true rfl), z_inb_in e3⟩, trivial, trivial, trivial⟩ ?_
  exact zk_ret R rfl trivial rfl
theorem r_L_section {as : List zA} : z_rcv zN (zKD 291) as := by
  rw [show zKD 291 = 0 from rfl]
  trivial
noncomputable def f_L_section (x1 : Int32) (x2 : Int32) (x3 : Int32) (m : zM) : Option (Int32 × zM) :=
  z_bh (f_X11_section x1 x2 x3 m) (fun r1 m2 =>
  z_gd (z_inb (0 : Int32) (z_alen 32)) <| some ((0 : Int32), (z_sL m2 32 0 (Int32.toNatClampNeg (0 : Int32)) (Int32.toInt64 r1)))) (z_hf [(0, 12, 15, 21, 1, 1), (0, 12, 19, 13, 0, 2)] 7) id
theorem w_L_section (d k : Nat) (x1 : Int32) (x2 : Int32) (x3 : Int32) (m : zM) (a : Int32 × zM) (ha : f_L_section x1 x2 x3 m = some a) : z_Ev z_MT zN zRf (d + 8) (k + 3) 291 [.inr (12, 0), .inl (.int x1), .inl (.int x2), .inl (.int x3), .inr (32, 0)] m ((fun a => (z_cI a.1, a.2) : Int32 × zM → zO) a) := by
  refine zk_top (I := (yL_section, cL_section, 6, (some .int), [(0, 12, 15, 21, 1, 1), (0, 12, 19, 13, 0, 2)], tL_section, 0, 5, 0, 0, 0, 0)) (oc := (fun a => (z_cI a.1, a.2) : Int32 × zM → zO)) (a := a) rfl (Nat.le_of_ble_eq_true rfl) (fun G R => ?_) ha
  unfold f_L_section
  refine zk_st R 6 7 [some (.inr (12, 0)), some (.inl (.int x1)), some (.inl (.int x2)), some (.inl (.int x3)), some (.inr (32, 0)), none] [.inl (.int x3), .inl (.int x2), .inl (.int x1), .inr (12, 0), .inl (.int (0 : Int32)), .inr (32, 0)] m rfl ⟨trivial, trivial, trivial, trivial, trivial, trivial, trivial⟩ ?_
  refine zk_callh (cr := id) R (k + 0) 3 (fun r1 => some (.inl (.int r1))) rfl (r_X11_section (Nat.le_of_ble_eq_true rfl)) (fun b m' hb => w_X11_section d 0 x1 x2 x3 m _ hb) (fun e m' hb => w_X11_section d 0 x1 x2 x3 m _ hb) (fun _ _ => rfl) (fun r1 m2 => ?_)
  refine zk_gd fun e3 => ?_
  refine zk_st R 4 24 [some (.inr (12, 0)), some (.inl (.int x1)), some (.inl (.int x2)), some (.inl (.int x3)), some (.inr (32, 0)), none] [.inl (.int (0 : Int32))] (z_sL m2 32 0 (Int32.toNatClampNeg (0 : Int32)) (Int32.toInt64 r1)) rfl ⟨trivial, ⟨(Nat.le_of_ble_eq_true rfl), z_inb_in e3⟩, trivial, trivial, trivial⟩ ?_
  exact zk_ret R rfl trivial rfl
theorem r_L_leavingIf {as : List zA} : z_rcv zN (zKD 296) as := by
  rw [show zKD 296 = 0 from rfl]
  trivial
noncomputable def f_L_leavingIf (x1 : Int32) (x2 : Int32) (m : zM) : Option (Int32 × zM) :=
  z_bh (f_X11_leavingIf x1 x2 m) (fun r1 m2 =>
  z_gd (z_inb (0 : Int32) (z_alen 32)) <| some ((0 : Int32), (z_sL m2 32 0 (Int32.toNatClampNeg (0 : Int32)) (Int32.toInt64 r1)))) (z_hf [(0, 10, 13, 21, 1, 1), (0, 10, 17, 13, 0, 2)] 5) id
theorem w_L_leavingIf (d k : Nat) (x1 : Int32) (x2 : Int32) (m : zM) (a : Int32 × zM) (ha : f_L_leavingIf x1 x2 m = some a) : z_Ev z_MT zN zRf (d + 8) (k + 2) 296 [.inr (12, 0), .inl (.int x1), .inl (.int x2), .inr (32, 0)] m ((fun a => (z_cI a.1, a.2) : Int32 × zM → zO) a) := by
  refine zk_top (I := (yL_leavingIf, cL_leavingIf, 5, (some .int), [(0, 10, 13, 21, 1, 1), (0, 10, 17, 13, 0, 2)], tL_leavingIf, 0, 4, 0, 0, 0, 0)) (oc := (fun a => (z_cI a.1, a.2) : Int32 × zM → zO)) (a := a) rfl (Nat.le_of_ble_eq_true rfl) (fun G R => ?_) ha
  unfold f_L_leavingIf
  refine zk_st R 5 5 [some (.inr (12, 0)), some (.inl (.int x1)), some (.inl (.int x2)), some (.inr (32, 0)), none] [.inl (.int x2), .inl (.int x1), .inr (12, 0), .inl (.int (0 : Int32)), .inr (32, 0)] m rfl ⟨trivial, trivial, trivial, trivial, trivial, trivial⟩ ?_
  refine zk_callh (cr := id) R (k + 0) 2 (fun r1 => some (.inl (.int r1))) rfl (r_X11_leavingIf (Nat.le_of_ble_eq_true rfl)) (fun b m' hb => w_X11_leavingIf d 0 x1 x2 m _ hb) (fun e m' hb => w_X11_leavingIf d 0 x1 x2 m _ hb) (fun _ _ => rfl) (fun r1 m2 => ?_)
  refine zk_gd fun e3 => ?_
  refine zk_st R 4 22 [some (.inr (12, 0)), some (.inl (.int x1)), some (.inl (.int x2)), some (.inr (32, 0)), none] [.inl (.int (0 : Int32))] (z_sL m2 32 0 (Int32.toNatClampNeg (0 : Int32)) (Int32.toInt64 r1)) rfl ⟨trivial, ⟨(Nat.le_of_ble_eq_true rfl), z_inb_in e3⟩, trivial, trivial, trivial⟩ ?_
  exact zk_ret R rfl trivial rfl
theorem r_L_mouthIf {as : List zA} : z_rcv zN (zKD 297) as := by
  rw [show zKD 297 = 0 from rfl]
  trivial
noncomputable def f_L_mouthIf (x1 : Int32) (x2 : Int32) (m : zM) : Option (Int32 × zM) :=
  z_bh (f_X11_mouthIf x1 x2 m) (fun r1 m2 =>
  z_gd (z_inb (0 : Int32) (z_alen 32)) <| some ((0 : Int32), (z_sL m2 32 0 (Int32.toNatClampNeg (0 : Int32)) (Int32.toInt64 r1)))) (z_hf [(0, 10, 13, 21, 1, 1)] 5) id
theorem w_L_mouthIf (d k : Nat) (x1 : Int32) (x2 : Int32) (m : zM) (a : Int32 × zM) (ha : f_L_mouthIf x1 x2 m = some a) : z_Ev z_MT zN zRf (d + 8) (k + 2) 297 [.inr (12, 0), .inl (.int x1), .inl (.int x2), .inr (32, 0)] m ((fun a => (z_cI a.1, a.2) : Int32 × zM → zO) a) := by
  refine zk_top (I := (yL_mouthIf, cL_mouthIf, 5, (some .int), [(0, 10, 13, 21, 1, 1)], tL_mouthIf, 0, 4, 0, 0, 0, 0)) (oc := (fun a => (z_cI a.1, a.2) : Int32 × zM → zO)) (a := a) rfl (Nat.le_of_ble_eq_true rfl) (fun G R => ?_) ha
  unfold f_L_mouthIf
  refine zk_st R 5 5 [some (.inr (12, 0)), some (.inl (.int x1)), some (.inl (.int x2)), some (.inr (32, 0)), none] [.inl (.int x2), .inl (.int x1), .inr (12, 0), .inl (.int (0 : Int32)), .inr (32, 0)] m rfl ⟨trivial, trivial, trivial, trivial, trivial, trivial⟩ ?_
  refine zk_callh (cr := id) R (k + 0) 2 (fun r1 => some (.inl (.int r1))) rfl (r_X11_mouthIf (Nat.le_of_ble_eq_true rfl)) (fun b m' hb => w_X11_mouthIf d 0 x1 x2 m _ hb) (fun e m' hb => w_X11_mouthIf d 0 x1 x2 m _ hb) (fun _ _ => rfl) (fun r1 m2 => ?_)
  refine zk_gd fun e3 => ?_
  refine zk_st R 4 18 [some (.inr (12, 0)), some (.inl (.int x1)), some (.inl (.int x2)), some (.inr (32, 0)), none] [.inl (.int (0 : Int32))] (z_sL m2 32 0 (Int32.toNatClampNeg (0 : Int32)) (Int32.toInt64 r1)) rfl ⟨trivial, ⟨(Nat.le_of_ble_eq_true rfl), z_inb_in e3⟩, trivial, trivial, trivial⟩ ?_
  exact zk_ret R rfl trivial rfl
theorem r_L_execute {as : List zA} : z_rcv zN (zKD 299) as := by
  rw [show zKD 299 = 0 from rfl]
  trivial
noncomputable def f_L_execute (m : zM) : Option (Int32 × zM) :=
  z_bh (f_X11_execute m) (fun r1 m2 =>
  z_gd (z_inb (0 : Int32) (z_alen 32)) <| some ((0 : Int32), (z_sL m2 32 0 (Int32.toNatClampNeg (0 : Int32)) (Int32.toInt64 r1)))) (z_hf [(0, 8, 11, 13, 0, 1), (0, 8, 14, 37, 2, 2)] 3) id
theorem w_L_execute (d k : Nat) (m : zM) (a : Int32 × zM) (ha : f_L_execute m = some a) : z_Ev z_MT zN zRf (d + 8) (k + 1) 299 [.inr (12, 0), .inr (32, 0)] m ((fun a => (z_cI a.1, a.2) : Int32 × zM → zO) a) := by
  refine zk_top (I := (yL_execute, cL_execute, 3, (some .int), [(0, 8, 11, 13, 0, 1), (0, 8, 14, 37, 2, 2)], tL_execute, 0, 2, 0, 0, 0, 0)) (oc := (fun a => (z_cI a.1, a.2) : Int32 × zM → zO)) (a := a) rfl (Nat.le_of_ble_eq_true rfl) (fun G R => ?_) ha
  unfold f_L_execute
  refine zk_st R 3 3 [some (.inr (12, 0)), some (.inr (32, 0)), none] [.inr (12, 0), .inl (.int (0 : Int32)), .inr (32, 0)] m rfl ⟨trivial, trivial, trivial, trivial⟩ ?_
  refine zk_callh (cr := id) R (k + 0) 1 (fun r1 => some (.inl (.int r1))) rfl (r_X11_execute (Nat.le_of_ble_eq_true rfl)) (fun b m' hb => w_X11_execute d 0 m _ hb) (fun e m' hb => w_X11_execute d 0 m _ hb) (fun _ _ => rfl) (fun r1 m2 => ?_)
  refine zk_gd fun e3 => ?_
  refine zk_st R 4 18 [some (.inr (12, 0)), some (.inr (32, 0)), none] [.inl (.int (0 : Int32))] (z_sL m2 32 0 (Int32.toNatClampNeg (0 : Int32)) (Int32.toInt64 r1)) rfl ⟨trivial, ⟨(Nat.le_of_ble_eq_true rfl), z_inb_in e3⟩, trivial, trivial, trivial⟩ ?_
  exact zk_ret R rfl trivial rfl
theorem r_L_map {as : List zA} : z_rcv zN (zKD 301) as := by
  rw [show zKD 301 = 0 from rfl]
  trivial
noncomputable def f_L_map (x1 : Int32) (m : zM) : Option (Int32 × zM) :=
  z_bh (f_X11_map x1 m) (fun r1 m2 =>
  z_gd (z_inb (0 : Int32) (z_alen 32)) <| some ((0 : Int32), (z_sL m2 32 0 (Int32.toNatClampNeg (0 : Int32)) (Int32.toInt64 r1)))) (z_hf [(0, 9, 12, 21, 1, 1)] 4) id
theorem w_L_map (d k : Nat) (x1 : Int32) (m : zM) (a : Int32 × zM) (ha : f_L_map x1 m = some a) : z_Ev z_MT zN zRf (d + 8) (k + 1) 301 [.inr (12, 0), .inl (.int x1), .inr (32, 0)] m ((fun a => (z_cI a.1, a.2) : Int32 × zM → zO) a) := by
  refine zk_top (I := (yL_map, cL_map, 4, (some .int), [(0, 9, 12, 21, 1, 1)], tL_map, 0, 3, 0, 0, 0, 0)) (oc := (fun a => (z_cI a.1, a.2) : Int32 × zM → zO)) (a := a) rfl (Nat.le_of_ble_eq_true rfl) (fun G R => ?_) ha
  unfold f_L_map
  refine zk_st R 4 4 [some (.inr (12, 0)), some (.inl (.int x1)), some (.inr (32, 0)), none] [.inl (.int x1), .inr (12, 0), .inl (.int (0 : Int32)), .inr (32, 0)] m rfl ⟨trivial, trivial, trivial, trivial, trivial⟩ ?_
  refine zk_callh (cr := id) R (k + 0) 1 (fun r1 => some (.inl (.int r1))) rfl (r_X11_map (Nat.le_of_ble_eq_true rfl)) (fun b m' hb => w_X11_map d 0 x1 m _ hb) (fun e m' hb => w_X11_map d 0 x1 m _ hb) (fun _ _ => rfl) (fun r1 m2 => ?_)
  refine zk_gd fun e3 => ?_
  refine zk_st R 4 16 [some (.inr (12, 0)), some (.inl (.int x1)), some (.inr (32, 0)), none] [.inl (.int (0 : Int32))] (z_sL m2 32 0 (Int32.toNatClampNeg (0 : Int32)) (Int32.toInt64 r1)) rfl ⟨trivial, ⟨(Nat.le_of_ble_eq_true rfl), z_inb_in e3⟩, trivial, trivial, trivial⟩ ?_
  exact zk_ret R rfl trivial rfl
