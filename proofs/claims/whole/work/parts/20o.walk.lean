theorem r_X11_setThreshold {i : Nat} {t : List zA} (h : i < zN 12) : z_rcv zN (zKD 110) (.inr (12, i) :: t) := by
  rw [show zKD 110 = 12 from rfl]
  exact ⟨rfl, h⟩
noncomputable def f_X11_setThreshold (x1 : Int32) (m : zM) : Option ((Int32 ⊕ Nat) × zM) :=
  z_bx (f_X11_requireRange x1 (1 : Int32) (99 : Int32) m) (fun r1 m2 =>
  Option.bind (f_X5_remember 0 m2) fun r3 =>
  some (.inl (r3.1 6 0 2), (z_sI r3 6 0 2 x1))) id
theorem w_X11_setThreshold (d k : Nat) (x1 : Int32) (m : zM) (a : (Int32 ⊕ Nat) × zM) (ha : f_X11_setThreshold x1 m = some a) : z_Ev z_MT zN zRf (d + 4) (k + 1) 110 [.inr (12, 0), .inl (.int x1)] m ((fun a => (z_cX z_cI a.1, a.2) : (Int32 ⊕ Nat) × zM → zO) a) := by
  refine zk_top (I := (yX11_setThreshold, cX11_setThreshold, 3, (some .int), [], tX11_setThreshold, 12, 1, 12, 0, 0, 0)) (oc := (fun a => (z_cX z_cI a.1, a.2) : (Int32 ⊕ Nat) × zM → zO)) (a := a) rfl (Nat.le_of_ble_eq_true rfl) (fun G R => ?_) ha
  unfold f_X11_setThreshold
  refine zk_st R 3 4 [some (.inr (12, 0)), some (.inl (.int x1)), none] [.inl (.int (99 : Int32)), .inl (.int (1 : Int32)), .inl (.int x1)] m rfl ⟨trivial, trivial, trivial, trivial⟩ ?_
  refine zk_callz R (k + 0) 1 (fun _ => none) rfl (r_X11_requireRange) (fun b m' hb => w_X11_requireRange (d + 2) 0 x1 (1 : Int32) (99 : Int32) m _ hb) (fun e m' hb => w_X11_requireRange (d + 2) 0 x1 (1 : Int32) (99 : Int32) m _ hb) (fun _ => rfl) (fun _ _ => rfl) (fun r1 m2 => ?_)
  refine zk_st R 4 15 [some (.inr (12, 0)), some (.inl (.int x1)), none] [.inr (6, 0), .inr (7, 0)] m2 rfl ⟨trivial, (Nat.le_of_ble_eq_true rfl), trivial, (Nat.le_of_ble_eq_true rfl), trivial⟩ ?_
  refine zk_call R (fun _ => none) id rfl (r_X5_remember (Nat.le_of_ble_eq_true rfl)) (fun b hb => w_X5_remember d 0 0 (Nat.le_of_ble_eq_true rfl) m2 b hb) (fun r3 => ?_)
  refine zk_st R 9 35 [some (.inr (12, 0)), some (.inl (.int x1)), some (.inl (.int (r3.1 6 0 2)))] [.inl (.int (r3.1 6 0 2))] (z_sI r3 6 0 2 x1) rfl ⟨trivial, (Nat.le_of_ble_eq_true rfl), (Nat.le_of_ble_eq_true rfl), trivial, trivial, (Nat.le_of_ble_eq_true rfl), trivial, (Nat.le_of_ble_eq_true rfl), trivial, trivial⟩ ?_
  exact zk_ret R rfl trivial rfl
theorem r_X11_pools {i : Nat} {t : List zA} (h : i < zN 12) : z_rcv zN (zKD 135) (.inr (12, i) :: t) := by
  rw [show zKD 135 = 12 from rfl]
  exact ⟨rfl, h⟩
noncomputable def f_X11_pools (x1 : Int32) (m : zM) : Option ((Int64 ⊕ Nat) × zM) :=
  z_bx (f_X11_requireRange x1 (0 : Int32) (99 : Int32) m) (fun r1 m2 =>
  Option.bind (f_X4_poolCells 0 x1 m2) fun r3 =>
  some (.inl r3, m2)) id
theorem w_X11_pools (d k : Nat) (x1 : Int32) (m : zM) (a : (Int64 ⊕ Nat) × zM) (ha : f_X11_pools x1 m = some a) : z_Ev z_MT zN zRf (d + 4) (k + 1) 135 [.inr (12, 0), .inl (.int x1)] m ((fun a => (z_cX z_cL a.1, a.2) : (Int64 ⊕ Nat) × zM → zO) a) := by
  refine zk_top (I := (yX11_pools, cX11_pools, 2, (some .long), [], tX11_pools, 12, 1, 12, 0, 0, 0)) (oc := (fun a => (z_cX z_cL a.1, a.2) : (Int64 ⊕ Nat) × zM → zO)) (a := a) rfl (Nat.le_of_ble_eq_true rfl) (fun G R => ?_) ha
  unfold f_X11_pools
  refine zk_st R 3 4 [some (.inr (12, 0)), some (.inl (.int x1))] [.inl (.int (99 : Int32)), .inl (.int (0 : Int32)), .inl (.int x1)] m rfl ⟨trivial, trivial, trivial, trivial⟩ ?_
  refine zk_callz R (k + 0) 1 (fun _ => none) rfl (r_X11_requireRange) (fun b m' hb => w_X11_requireRange (d + 2) 0 x1 (0 : Int32) (99 : Int32) m _ hb) (fun e m' hb => w_X11_requireRange (d + 2) 0 x1 (0 : Int32) (99 : Int32) m _ hb) (fun _ => rfl) (fun _ _ => rfl) (fun r1 m2 => ?_)
  refine zk_st R 3 12 [some (.inr (12, 0)), some (.inl (.int x1))] [.inl (.int x1), .inr (6, 0)] m2 rfl ⟨trivial, (Nat.le_of_ble_eq_true rfl), trivial, trivial⟩ ?_
  refine zk_call R (fun b => some (.inl (.long b))) (fun _ => m2) rfl (r_X4_poolCells (Nat.le_of_ble_eq_true rfl)) (fun b hb => w_X4_poolCells d 0 0 (Nat.le_of_ble_eq_true rfl) x1 m2 b hb) (fun r3 => ?_)
  exact zk_ret R rfl trivial rfl
theorem r_X11_contour {i : Nat} {t : List zA} (h : i < zN 12) : z_rcv zN (zKD 136) (.inr (12, i) :: t) := by
  rw [show zKD 136 = 12 from rfl]
  exact ⟨rfl, h⟩
noncomputable def f_X11_contour (x1 : Int32) (x2 : Int32) (m : zM) : Option ((Int32 ⊕ Nat) × zM) :=
  z_bx (f_X11_requireRange x1 (1 : Int32) (99 : Int32) m) (fun r1 m2 =>
  z_bx (f_X11_requireRange x2 (0 : Int32) (3 : Int32) m2) (fun r3 m4 =>
  Option.bind (f_X4_atMost 0 (x1 - (1 : Int32)) m4) fun r5 =>
  Option.bind (f_X4_all 0 m4) fun r6 =>
  if x2 = (0 : Int32) then
    Option.bind (f_J13_bitCount_95d88 (r6 &&& (r5 ^^^ (-1 : Int64))) m4) fun r8 =>
    some (.inl r8, m4)
  else if x2 = (1 : Int32) then
    Option.bind (f_X4_groups 0 (r6 &&& (r5 ^^^ (-1 : Int64))) (0 : Int64) m4) fun r10 =>
    some (.inl r10, m4)
  else if x2 = (2 : Int32) then
    Option.bind (f_X4_borders 0 (r6 &&& (r5 ^^^ (-1 : Int64))) m4) fun r12 =>
    some (.inl r12, m4)
  else
    Option.bind (f_X4_edge 0 m4) fun r13 =>
    Option.bind (f_X4_groups 0 r5 r13 m4) fun r14 =>
    some (.inl r14, m4)) id) id
theorem w_X11_contour (d k : Nat) (x1 : Int32) (x2 : Int32) (m : zM) (a : (Int32 ⊕ Nat) × zM) (ha : f_X11_contour x1 x2 m = some a) : z_Ev z_MT zN zRf (d + 4) (k + 2) 136 [.inr (12, 0), .inl (.int x1), .inl (.int x2)] m ((fun a => (z_cX z_cI a.1, a.2) : (Int32 ⊕ Nat) × zM → zO) a) := by
  refine zk_top (I := (yX11_contour, cX11_contour, 7, (some .int), [], tX11_contour, 12, 2, 12, 0, 0, 0)) (oc := (fun a => (z_cX z_cI a.1, a.2) : (Int32 ⊕ Nat) × zM → zO)) (a := a) rfl (Nat.le_of_ble_eq_true rfl) (fun G R => ?_) ha
  unfold f_X11_contour
  refine zk_st R 3 4 [some (.inr (12, 0)), some (.inl (.int x1)), some (.inl (.int x2)), none, none, none, none] [.inl (.int (99 : Int32)), .inl (.int (1 : Int32)), .inl (.int x1)] m rfl ⟨trivial, trivial, trivial, trivial⟩ ?_
  refine zk_callz R (k + 1) 1 (fun _ => none) rfl (r_X11_requireRange) (fun b m' hb => w_X11_requireRange (d + 2) 0 x1 (1 : Int32) (99 : Int32) m _ hb) (fun e m' hb => w_X11_requireRange (d + 2) 0 x1 (1 : Int32) (99 : Int32) m _ hb) (fun _ => rfl) (fun _ _ => rfl) (fun r1 m2 => ?_)
  refine zk_st R 3 10 [some (.inr (12, 0)), some (.inl (.int x1)), some (.inl (.int x2)), none, none, none, none] [.inl (.int (3 : Int32)), .inl (.int (0 : Int32)), .inl (.int x2)] m2 rfl ⟨trivial, trivial, trivial, trivial⟩ ?_
  refine zk_callz R (k + 0) 1 (fun _ => none) rfl (r_X11_requireRange) (fun b m' hb => w_X11_requireRange (d + 2) 0 x2 (0 : Int32) (3 : Int32) m2 _ hb) (fun e m' hb => w_X11_requireRange (d + 2) 0 x2 (0 : Int32) (3 : Int32) m2 _ hb) (fun _ => rfl) (fun _ _ => rfl) (fun r3 m4 => ?_)
  refine zk_st R 5 20 [some (.inr (12, 0)), some (.inl (.int x1)), some (.inl (.int x2)), none, none, none, none] [.inl (.int (x1 - (1 : Int32))), .inr (6, 0)] m4 rfl ⟨trivial, (Nat.le_of_ble_eq_true rfl), trivial, trivial, trivial, trivial⟩ ?_
  refine zk_call R (fun b => some (.inl (.long b))) (fun _ => m4) rfl (r_X4_atMost (Nat.le_of_ble_eq_true rfl)) (fun b hb => w_X4_atMost (d + 1) 0 0 (Nat.le_of_ble_eq_true rfl) (x1 - (1 : Int32)) m4 b hb) (fun r5 => ?_)
  refine zk_st R 3 28 [some (.inr (12, 0)), some (.inl (.int x1)), some (.inl (.int x2)), some (.inl (.long r5)), none, none, none] [.inr (6, 0)] m4 rfl ⟨trivial, trivial, (Nat.le_of_ble_eq_true rfl), trivial⟩ ?_
  refine zk_call R (fun b => some (.inl (.long b))) (fun _ => m4) rfl (r_X4_all (Nat.le_of_ble_eq_true rfl)) (fun b hb => w_X4_all (d + 1) 0 0 (Nat.le_of_ble_eq_true rfl) m4 b hb) (fun r6 => ?_)
  refine zk_st R 6 40 [some (.inr (12, 0)), some (.inl (.int x1)), some (.inl (.int x2)), some (.inl (.long r5)), none, some (.inl (.long (r6 &&& (r5 ^^^ (-1 : Int64))))), none] [.inl (.int x2)] m4 rfl ⟨trivial, trivial, trivial, trivial, trivial, trivial, trivial⟩ ?_
  refine zk_if (fun e7 => ?_) (fun e7 => ?_)
  · refine zk_tsw R rfl (z_swv e7 (by decide +kernel : _ = 68)) ?_
    refine zk_st R 1 70 [some (.inr (12, 0)), some (.inl (.int x1)), some (.inl (.int x2)), some (.inl (.long r5)), none, some (.inl (.long (r6 &&& (r5 ^^^ (-1 : Int64))))), none] [.inl (.long (r6 &&& (r5 ^^^ (-1 : Int64))))] m4 rfl ⟨trivial, trivial⟩ ?_
    refine zk_call R (fun b => some (.inl (.int b))) (fun _ => m4) rfl (r_J13_bitCount_95d88) (fun b hb => w_J13_bitCount_95d88 (d + 2) 0 (r6 &&& (r5 ^^^ (-1 : Int64))) m4 b hb) (fun r8 => ?_)
    exact zk_ret R rfl trivial rfl
  refine zk_if (fun e9 => ?_) (fun e9 => ?_)
  · refine zk_tsw R rfl (z_swv e9 (by decide +kernel : _ = 74)) ?_
    refine zk_st R 4 81 [some (.inr (12, 0)), some (.inl (.int x1)), some (.inl (.int x2)), some (.inl (.long r5)), none, some (.inl (.long (r6 &&& (r5 ^^^ (-1 : Int64))))), none] [.inl (.long (0 : Int64)), .inl (.long (r6 &&& (r5 ^^^ (-1 : Int64)))), .inr (6, 0)] m4 rfl ⟨trivial, (Nat.le_of_ble_eq_true rfl), trivial, trivial, trivial⟩ ?_
    refine zk_call R (fun b => some (.inl (.int b))) (fun _ => m4) rfl (r_X4_groups (Nat.le_of_ble_eq_true rfl)) (fun b hb => w_X4_groups d 0 0 (Nat.le_of_ble_eq_true rfl) (r6 &&& (r5 ^^^ (-1 : Int64))) (0 : Int64) m4 b hb) (fun r10 => ?_)
    exact zk_ret R rfl trivial rfl
  refine zk_if (fun e11 => ?_) (fun e11 => ?_)
  · refine zk_tsw R rfl (z_swv e11 (by decide +kernel : _ = 85)) ?_
    refine zk_st R 3 91 [some (.inr (12, 0)), some (.inl (.int x1)), some (.inl (.int x2)), some (.inl (.long r5)), none, some (.inl (.long (r6 &&& (r5 ^^^ (-1 : Int64))))), none] [.inl (.long (r6 &&& (r5 ^^^ (-1 : Int64)))), .inr (6, 0)] m4 rfl ⟨trivial, (Nat.le_of_ble_eq_true rfl), trivial, trivial⟩ ?_
    refine zk_call R (fun b => some (.inl (.int b))) (fun _ => m4) rfl (r_X4_borders (Nat.le_of_ble_eq_true rfl)) (fun b hb => w_X4_borders d 0 0 (Nat.le_of_ble_eq_true rfl) (r6 &&& (r5 ^^^ (-1 : Int64))) m4 b hb) (fun r12 => ?_)
    exact zk_ret R rfl trivial rfl
  refine zk_tsw R rfl (z_swd 3 (by decide) (fun i hi => ?_) (by decide : _ = 95)) ?_
  · have hi' : i = 0 ∨ i = 1 ∨ i = 2 := by omega
    rcases hi' with rfl | rfl | rfl
    · exact e7
    · exact e9
    · exact e11
  · refine zk_st R 5 104 [some (.inr (12, 0)), some (.inl (.int x1)), some (.inl (.int x2)), some (.inl (.long r5)), none, some (.inl (.long (r6 &&& (r5 ^^^ (-1 : Int64))))), none] [.inr (6, 0), .inl (.long r5), .inr (6, 0)] m4 rfl ⟨trivial, (Nat.le_of_ble_eq_true rfl), trivial, trivial, (Nat.le_of_ble_eq_true rfl), trivial⟩ ?_
    refine zk_call R (fun b => some (.inl (.long b))) (fun _ => m4) rfl (r_X4_edge (Nat.le_of_ble_eq_true rfl)) (fun b hb => w_X4_edge d 0 0 (Nat.le_of_ble_eq_true rfl) m4 b hb) (fun r13 => ?_)
    refine zk_call R (fun b => some (.inl (.int b))) (fun _ => m4) rfl (r_X4_groups (Nat.le_of_ble_eq_true rfl)) (fun b hb => w_X4_groups d 0 0 (Nat.le_of_ble_eq_true rfl) r5 r13 m4 b hb) (fun r14 => ?_)
    exact zk_ret R rfl trivial rfl
theorem r_X11_sectionCell {i : Nat} {t : List zA} (h : i < zN 12) : z_rcv zN (zKD 138) (.inr (12, i) :: t) := by
  rw [show zKD 138 = 12 from rfl]
  exact ⟨rfl, h⟩
noncomputable def f_X11_sectionCell (x1 : Int32) (x2 : Int32) (x3 : Int32) (m : zM) : Option ((Int32 ⊕ Nat) × zM) :=
  z_bx (f_X11_requireCell x1 m) (fun r1 m2 =>
  z_bx (f_X11_requireCell x2 m2) (fun r3 m4 =>
  Option.bind (f_X6_draw 0 x1 x2 m4) fun r5 =>
  if x3 < 0 then
    some (.inr 3, r5)
  else
    if x3 < (r5.1 8 0 1) then
      Option.bind (f_X7_at 22 0 x3 r5) fun r8 =>
      some (.inl r8, r5)
    else
      some (.inr 3, r5)) id) id
theorem w_X11_sectionCell (d k : Nat) (x1 : Int32) (x2 : Int32) (x3 : Int32) (m : zM) (a : (Int32 ⊕ Nat) × zM) (ha : f_X11_sectionCell x1 x2 x3 m = some a) : z_Ev z_MT zN zRf (d + 4) (k + 3) 138 [.inr (12, 0), .inl (.int x1), .inl (.int x2), .inl (.int x3)] m ((fun a => (z_cX z_cI a.1, a.2) : (Int32 ⊕ Nat) × zM → zO) a) := by
  refine zk_top (I := (yX11_sectionCell, cX11_sectionCell, 4, (some .int), [], tX11_sectionCell, 12, 3, 12, 0, 0, 0)) (oc := (fun a => (z_cX z_cI a.1, a.2) : (Int32 ⊕ Nat) × zM → zO)) (a := a) rfl (Nat.le_of_ble_eq_true rfl) (fun G R => ?_) ha
  unfold f_X11_sectionCell
  refine zk_st R 2 2 [some (.inr (12, 0)), some (.inl (.int x1)), some (.inl (.int x2)), some (.inl (.int x3))] [.inl (.int x1), .inr (12, 0)] m rfl ⟨trivial, trivial, trivial⟩ ?_
  refine zk_callz R (k + 2) 1 (fun _ => none) rfl (r_X11_requireCell (Nat.le_of_ble_eq_true rfl)) (fun b m' hb => w_X11_requireCell (d + 1) 0 x1 m _ hb) (fun e m' hb => w_X11_requireCell (d + 1) 0 x1 m _ hb) (fun _ => rfl) (fun _ _ => rfl) (fun r1 m2 => ?_)
  refine zk_st R 2 7 [some (.inr (12, 0)), some (.inl (.int x1)), some (.inl (.int x2)), some (.inl (.int x3))] [.inl (.int x2), .inr (12, 0)] m2 rfl ⟨trivial, trivial, trivial⟩ ?_
  refine zk_callz R (k + 1) 1 (fun _ => none) rfl (r_X11_requireCell (Nat.le_of_ble_eq_true rfl)) (fun b m' hb => w_X11_requireCell (d + 1) 0 x2 m2 _ hb) (fun e m' hb => w_X11_requireCell (d + 1) 0 x2 m2 _ hb) (fun _ => rfl) (fun _ _ => rfl) (fun r3 m4 => ?_)
  refine zk_st R 6 20 [some (.inr (12, 0)), some (.inl (.int x1)), some (.inl (.int x2)), some (.inl (.int x3))] [.inl (.int x2), .inl (.int x1), .inr (6, 0), .inr (8, 0)] m4 rfl ⟨trivial, (Nat.le_of_ble_eq_true rfl), trivial, (Nat.le_of_ble_eq_true rfl), trivial, trivial, trivial⟩ ?_
  refine zk_call R (fun _ => none) id rfl (r_X6_draw (Nat.le_of_ble_eq_true rfl)) (fun b hb => w_X6_draw d 0 0 (Nat.le_of_ble_eq_true rfl) x1 x2 m4 b hb) (fun r5 => ?_)
  refine zk_st R 1 24 [some (.inr (12, 0)), some (.inl (.int x1)), some (.inl (.int x2)), some (.inl (.int x3))] [.inl (.int x3)] r5 rfl ⟨trivial, trivial⟩ ?_
  refine zk_br R rfl (fun _ => ?_) (fun _ => ?_)
  · exact zk_thr R (k := k + 0) rfl rfl
  · refine zk_st R 4 35 [some (.inr (12, 0)), some (.inl (.int x1)), some (.inl (.int x2)), some (.inl (.int x3))] [.inl (.int (r5.1 8 0 1)), .inl (.int x3)] r5 rfl ⟨trivial, trivial, (Nat.le_of_ble_eq_true rfl), (Nat.le_of_ble_eq_true rfl), trivial⟩ ?_
    refine zk_br R rfl (fun _ => ?_) (fun _ => ?_)
    · refine zk_st R 4 57 [some (.inr (12, 0)), some (.inl (.int x1)), some (.inl (.int x2)), some (.inl (.int x3))] [.inl (.int x3), .inr (22, 0)] r5 rfl ⟨trivial, (Nat.le_of_ble_eq_true rfl), (Nat.le_of_ble_eq_true rfl), trivial, trivial⟩ ?_
      refine zk_call R (fun b => some (.inl (.int b))) (fun _ => r5) rfl (r_X7_at) (fun b hb => w_X7_at_k22 (d + 2) 0 0 (Nat.le_of_ble_eq_true rfl) x3 r5 b hb) (fun r8 => ?_)
      exact zk_ret R rfl trivial rfl
    · exact zk_thr R (k := k + 0) rfl rfl
theorem r_X11_sees {i : Nat} {t : List zA} (h : i < zN 12) : z_rcv zN (zKD 139) (.inr (12, i) :: t) := by
  rw [show zKD 139 = 12 from rfl]
  exact ⟨rfl, h⟩
noncomputable def f_X11_sees (x1 : Int32) (x2 : Int32) (x3 : Int32) (m : zM) : Option ((Bool ⊕ Nat) × zM) :=
  z_bx (f_X11_requireCell x1 m) (fun r1 m2 =>
  z_bx (f_X11_requireCell x2 m2) (fun r3 m4 =>
  z_bx (f_X11_requireRange x3 (0 : Int32) (99 : Int32) m4) (fun r5 m6 =>
  Option.bind (f_X6_draw 0 x1 x2 m6) fun r7 =>
  Option.bind (f_X6_isOpen 0 x3 r7) fun r8 =>
  some (.inl r8, r7)) id) id) id
theorem w_X11_sees (d k : Nat) (x1 : Int32) (x2 : Int32) (x3 : Int32) (m : zM) (a : (Bool ⊕ Nat) × zM) (ha : f_X11_sees x1 x2 x3 m = some a) : z_Ev z_MT zN zRf (d + 4) (k + 3) 139 [.inr (12, 0), .inl (.int x1), .inl (.int x2), .inl (.int x3)] m ((fun a => (z_cX z_cB a.1, a.2) : (Bool ⊕ Nat) × zM → zO) a) := by
  refine zk_top (I := (yX11_sees, cX11_sees, 4, (some .boolean), [], tX11_sees, 12, 3, 12, 0, 0, 0)) (oc := (fun a => (z_cX z_cB a.1, a.2) : (Bool ⊕ Nat) × zM → zO)) (a := a) rfl (Nat.le_of_ble_eq_true rfl) (fun G R => ?_) ha
  unfold f_X11_sees
  refine zk_st R 2 2 [some (.inr (12, 0)), some (.inl (.int x1)), some (.inl (.int x2)), some (.inl (.int x3))] [.inl (.int x1), .inr (12, 0)] m rfl ⟨trivial, trivial, trivial⟩ ?_
  refine zk_callz R (k + 2) 1 (fun _ => none) rfl (r_X11_requireCell (Nat.le_of_ble_eq_true rfl)) (fun b m' hb => w_X11_requireCell (d + 1) 0 x1 m _ hb) (fun e m' hb => w_X11_requireCell (d + 1) 0 x1 m _ hb) (fun _ => rfl) (fun _ _ => rfl) (fun r1 m2 => ?_)
  refine zk_st R 2 7 [some (.inr (12, 0)), some (.inl (.int x1)), some (.inl (.int x2)), some (.inl (.int x3))] [.inl (.int x2), .inr (12, 0)] m2 rfl ⟨trivial, trivial, trivial⟩ ?_
  refine zk_callz R (k + 1) 1 (fun _ => none) rfl (r_X11_requireCell (Nat.le_of_ble_eq_true rfl)) (fun b m' hb => w_X11_requireCell (d + 1) 0 x2 m2 _ hb) (fun e m' hb => w_X11_requireCell (d + 1) 0 x2 m2 _ hb) (fun _ => rfl) (fun _ _ => rfl) (fun r3 m4 => ?_)
  refine zk_st R 3 14 [some (.inr (12, 0)), some (.inl (.int x1)), some (.inl (.int x2)), some (.inl (.int x3))] [.inl (.int (99 : Int32)), .inl (.int (0 : Int32)), .inl (.int x3)] m4 rfl ⟨trivial, trivial, trivial, trivial⟩ ?_
  refine zk_callz R (k + 0) 1 (fun _ => none) rfl (r_X11_requireRange) (fun b m' hb => w_X11_requireRange (d + 2) 0 x3 (0 : Int32) (99 : Int32) m4 _ hb) (fun e m' hb => w_X11_requireRange (d + 2) 0 x3 (0 : Int32) (99 : Int32) m4 _ hb) (fun _ => rfl) (fun _ _ => rfl) (fun r5 m6 => ?_)
  refine zk_st R 6 27 [some (.inr (12, 0)), some (.inl (.int x1)), some (.inl (.int x2)), some (.inl (.int x3))] [.inl (.int x2), .inl (.int x1), .inr (6, 0), .inr (8, 0)] m6 rfl ⟨trivial, (Nat.le_of_ble_eq_true rfl), trivial, (Nat.le_of_ble_eq_true rfl), trivial, trivial, trivial⟩ ?_
  refine zk_call R (fun _ => none) id rfl (r_X6_draw (Nat.le_of_ble_eq_true rfl)) (fun b hb => w_X6_draw d 0 0 (Nat.le_of_ble_eq_true rfl) x1 x2 m6 b hb) (fun r7 => ?_)
  refine zk_st R 5 39 [some (.inr (12, 0)), some (.inl (.int x1)), some (.inl (.int x2)), some (.inl (.int x3))] [.inl (.int x3), .inr (6, 0), .inr (8, 0)] r7 rfl ⟨trivial, (Nat.le_of_ble_eq_true rfl), trivial, (Nat.le_of_ble_eq_true rfl), trivial, trivial⟩ ?_
  refine zk_call R (fun b => some (.inl (.int (z_bi b)))) (fun _ => r7) rfl (r_X6_isOpen (Nat.le_of_ble_eq_true rfl)) (fun b hb => w_X6_isOpen d 0 0 (Nat.le_of_ble_eq_true rfl) x3 r7 b hb) (fun r8 => ?_)
  exact zk_ret R rfl (z_bi01 _) rfl
theorem r_X11_viewshed {i : Nat} {t : List zA} (h : i < zN 12) : z_rcv zN (zKD 140) (.inr (12, i) :: t) := by
  rw [show zKD 140 = 12 from rfl]
  exact ⟨rfl, h⟩
noncomputable def f_X11_viewshed_26 : Nat → Int32 → Int32 → Int64 → Int32 → Int32 → zM → Option ((Int64 ⊕ Nat) × zM)
  | 0, _, _, _, _, _, _ => none
  | j + 1, x1, x2, x3, x5, x6, m =>
    if x5 ≤ x6 then
      some (.inl x3, m)
    else
      Option.bind (f_X6_draw 0 x1 x6 m) fun r2 =>
      Option.bind (f_X6_isOpen 0 x2 r2) fun r3 =>
      if (z_bi r3) = 0 then
        f_X11_viewshed_26 j x1 x2 x3 x5 (x6 + (1 : Int32)) r2
      else
        f_X11_viewshed_26 j x1 x2 (x3 ||| (z_shl (1 : Int64) x6)) x5 (x6 + (1 : Int32)) r2
noncomputable def f_X11_viewshed (x1 : Int32) (x2 : Int32) (m : zM) : Option ((Int64 ⊕ Nat) × zM) :=
  z_bx (f_X11_requireCell x1 m) (fun r1 m2 =>
  z_bx (f_X11_requireRange x2 (0 : Int32) (99 : Int32) m2) (fun r3 m4 =>
  Option.bind (f_X4_size 0 m4) fun r5 =>
  f_X11_viewshed_26 zF x1 x2 (0 : Int64) r5 (0 : Int32) m4) id) id
theorem w_X11_viewshed_26 (d k : Nat) {o : zO} {G : Nat → Nat → zL → List zA → zM → Prop} (R : zRu (d + 3) tX11_viewshed 0 (z_hf []) o G) : ∀ (j : Nat) (x1 : Int32) (x2 : Int32) (x3 : Int64) (x5 : Int32) (x6 : Int32) (m : zM), zLK G (fun a => (z_cX z_cL a.1, a.2) : (Int64 ⊕ Nat) × zM → zO) o (f_X11_viewshed_26 j x1 x2 x3 x5 x6 m) some (k + 0) 26 [some (.inr (12, 0)), some (.inl (.int x1)), some (.inl (.int x2)), some (.inl (.long x3)), none, some (.inl (.int x5)), some (.inl (.int x6))] [] m := by
  intro j
  induction j with
  | zero =>
    intro _ _ _ _ _ _
    exact zk_none
  | succ j ih =>
    intro x1 x2 x3 x5 x6 m
    unfold f_X11_viewshed_26
    refine zk_st R 2 30 [some (.inr (12, 0)), some (.inl (.int x1)), some (.inl (.int x2)), some (.inl (.long x3)), none, some (.inl (.int x5)), some (.inl (.int x6))] [.inl (.int x5), .inl (.int x6)] m rfl ⟨trivial, trivial, trivial⟩ ?_
    refine zk_br R rfl (fun _ => ?_) (fun _ => ?_)
    · refine zk_st R 1 76 [some (.inr (12, 0)), some (.inl (.int x1)), some (.inl (.int x2)), some (.inl (.long x3)), none, some (.inl (.int x5)), some (.inl (.int x6))] [.inl (.long x3)] m rfl ⟨trivial, trivial⟩ ?_
      exact zk_ret R rfl trivial rfl
    · refine zk_st R 6 44 [some (.inr (12, 0)), some (.inl (.int x1)), some (.inl (.int x2)), some (.inl (.long x3)), none, some (.inl (.int x5)), some (.inl (.int x6))] [.inl (.int x6), .inl (.int x1), .inr (6, 0), .inr (8, 0)] m rfl ⟨trivial, (Nat.le_of_ble_eq_true rfl), trivial, (Nat.le_of_ble_eq_true rfl), trivial, trivial, trivial⟩ ?_
      refine zk_call R (fun _ => none) id rfl (r_X6_draw (Nat.le_of_ble_eq_true rfl)) (fun b hb => w_X6_draw d 0 0 (Nat.le_of_ble_eq_true rfl) x1 x6 m b hb) (fun r2 => ?_)
      refine zk_st R 5 56 [some (.inr (12, 0)), some (.inl (.int x1)), some (.inl (.int x2)), some (.inl (.long x3)), none, some (.inl (.int x5)), some (.inl (.int x6))] [.inl (.int x2), .inr (6, 0), .inr (8, 0)] r2 rfl ⟨trivial, (Nat.le_of_ble_eq_true rfl), trivial, (Nat.le_of_ble_eq_true rfl), trivial, trivial⟩ ?_
      refine zk_call R (fun b => some (.inl (.int (z_bi b)))) (fun _ => r2) rfl (r_X6_isOpen (Nat.le_of_ble_eq_true rfl)) (fun b hb => w_X6_isOpen d 0 0 (Nat.le_of_ble_eq_true rfl) x2 r2 b hb) (fun r3 => ?_)
      refine zk_br R rfl (fun _ => ?_) (fun _ => ?_)
      · refine zk_st R 2 26 [some (.inr (12, 0)), some (.inl (.int x1)), some (.inl (.int x2)), some (.inl (.long x3)), none, some (.inl (.int x5)), some (.inl (.int (x6 + (1 : Int32))))] [] r2 rfl ⟨trivial, trivial, trivial⟩ ?_
        refine zk_mask R [true, true, true, true, false, true, true] rfl ?_
        exact ih x1 x2 x3 x5 (x6 + (1 : Int32)) r2
      · refine zk_st R 8 26 [some (.inr (12, 0)), some (.inl (.int x1)), some (.inl (.int x2)), some (.inl (.long (x3 ||| (z_shl (1 : Int64) x6)))), none, some (.inl (.int x5)), some (.inl (.int (x6 + (1 : Int32))))] [] r2 rfl ⟨trivial, trivial, trivial, trivial, trivial, trivial, trivial, trivial, trivial⟩ ?_
        refine zk_mask R [true, true, true, true, false, true, true] rfl ?_
        exact ih x1 x2 (x3 ||| (z_shl (1 : Int64) x6)) x5 (x6 + (1 : Int32)) r2
theorem w_X11_viewshed (d k : Nat) (x1 : Int32) (x2 : Int32) (m : zM) (a : (Int64 ⊕ Nat) × zM) (ha : f_X11_viewshed x1 x2 m = some a) : z_Ev z_MT zN zRf (d + 4) (k + 2) 140 [.inr (12, 0), .inl (.int x1), .inl (.int x2)] m ((fun a => (z_cX z_cL a.1, a.2) : (Int64 ⊕ Nat) × zM → zO) a) := by
  refine zk_top (I := (yX11_viewshed, cX11_viewshed, 7, (some .long), [], tX11_viewshed, 12, 2, 12, 0, 0, 0)) (oc := (fun a => (z_cX z_cL a.1, a.2) : (Int64 ⊕ Nat) × zM → zO)) (a := a) rfl (Nat.le_of_ble_eq_true rfl) (fun G R => ?_) ha
  unfold f_X11_viewshed
  refine zk_st R 2 2 [some (.inr (12, 0)), some (.inl (.int x1)), some (.inl (.int x2)), none, none, none, none] [.inl (.int x1), .inr (12, 0)] m rfl ⟨trivial, trivial, trivial⟩ ?_
  refine zk_callz R (k + 1) 1 (fun _ => none) rfl (r_X11_requireCell (Nat.le_of_ble_eq_true rfl)) (fun b m' hb => w_X11_requireCell (d + 1) 0 x1 m _ hb) (fun e m' hb => w_X11_requireCell (d + 1) 0 x1 m _ hb) (fun _ => rfl) (fun _ _ => rfl) (fun r1 m2 => ?_)
  refine zk_st R 3 9 [some (.inr (12, 0)), some (.inl (.int x1)), some (.inl (.int x2)), none, none, none, none] [.inl (.int (99 : Int32)), .inl (.int (0 : Int32)), .inl (.int x2)] m2 rfl ⟨trivial, trivial, trivial, trivial⟩ ?_
  refine zk_callz R (k + 0) 1 (fun _ => none) rfl (r_X11_requireRange) (fun b m' hb => w_X11_requireRange (d + 2) 0 x2 (0 : Int32) (99 : Int32) m2 _ hb) (fun e m' hb => w_X11_requireRange (d + 2) 0 x2 (0 : Int32) (99 : Int32) m2 _ hb) (fun _ => rfl) (fun _ _ => rfl) (fun r3 m4 => ?_)
  refine zk_st R 4 18 [some (.inr (12, 0)), some (.inl (.int x1)), some (.inl (.int x2)), some (.inl (.long (0 : Int64))), none, none, none] [.inr (6, 0)] m4 rfl ⟨trivial, trivial, trivial, (Nat.le_of_ble_eq_true rfl), trivial⟩ ?_
  refine zk_call R (fun b => some (.inl (.int b))) (fun _ => m4) rfl (r_X4_size (Nat.le_of_ble_eq_true rfl)) (fun b hb => w_X4_size (d + 2) 0 0 (Nat.le_of_ble_eq_true rfl) m4 b hb) (fun r5 => ?_)
  refine zk_st R 3 26 [some (.inr (12, 0)), some (.inl (.int x1)), some (.inl (.int x2)), some (.inl (.long (0 : Int64))), none, some (.inl (.int r5)), some (.inl (.int (0 : Int32)))] [] m4 rfl ⟨trivial, trivial, trivial, trivial⟩ ?_
  refine zk_mask R [true, true, true, true, false, true, true] rfl ?_
  exact w_X11_viewshed_26 d k R zF x1 x2 (0 : Int64) r5 (0 : Int32) m4
theorem r_X11_undo {i : Nat} {t : List zA} (h : i < zN 12) : z_rcv zN (zKD 148) (.inr (12, i) :: t) := by
  rw [show zKD 148 = 12 from rfl]
  exact ⟨rfl, h⟩
noncomputable def f_X11_undo (m : zM) : Option ((Int32 ⊕ Nat) × zM) :=
  if (m.1 7 0 2) = 0 then
    some (.inr 2, m)
  else
    Option.bind (f_X5_takeBack 0 m) fun r2 =>
    some (.inl (r2.1 7 0 2), r2)
theorem w_X11_undo (d k : Nat) (m : zM) (a : (Int32 ⊕ Nat) × zM) (ha : f_X11_undo m = some a) : z_Ev z_MT zN zRf (d + 4) (k + 1) 148 [.inr (12, 0)] m ((fun a => (z_cX z_cI a.1, a.2) : (Int32 ⊕ Nat) × zM → zO) a) := by
  refine zk_top (I := (yX11_undo, cX11_undo, 1, (some .int), [], tX11_undo, 12, 0, 12, 0, 0, 0)) (oc := (fun a => (z_cX z_cI a.1, a.2) : (Int32 ⊕ Nat) × zM → zO)) (a := a) rfl (Nat.le_of_ble_eq_true rfl) (fun G R => ?_) ha
  unfold f_X11_undo
  refine zk_st R 3 7 [some (.inr (12, 0))] [.inl (.int (m.1 7 0 2))] m rfl ⟨trivial, (Nat.le_of_ble_eq_true rfl), (Nat.le_of_ble_eq_true rfl), trivial⟩ ?_
  refine zk_br R rfl (fun _ => ?_) (fun _ => ?_)
  · exact zk_thr R (k := k + 0) rfl rfl
  · refine zk_st R 4 29 [some (.inr (12, 0))] [.inr (6, 0), .inr (7, 0)] m rfl ⟨trivial, (Nat.le_of_ble_eq_true rfl), trivial, (Nat.le_of_ble_eq_true rfl), trivial⟩ ?_
    refine zk_call R (fun _ => none) id rfl (r_X5_takeBack (Nat.le_of_ble_eq_true rfl)) (fun b hb => w_X5_takeBack d 0 0 (Nat.le_of_ble_eq_true rfl) m b hb) (fun r2 => ?_)
    refine zk_st R 3 39 [some (.inr (12, 0))] [.inl (.int (r2.1 7 0 2))] r2 rfl ⟨trivial, (Nat.le_of_ble_eq_true rfl), (Nat.le_of_ble_eq_true rfl), trivial⟩ ?_
    exact zk_ret R rfl trivial rfl
theorem r_X11_restore {i : Nat} {t : List zA} (h : i < zN 12) : z_rcv zN (zKD 150) (.inr (12, i) :: t) := by
  rw [show zKD 150 = 12 from rfl]
  exact ⟨rfl, h⟩
noncomputable def f_X11_restore (m : zM) : Option ((Int32 ⊕ Nat) × zM) :=
  if (m.1 12 0 3) = 0 then
    some (.inr 2, m)
  else
    Option.bind (f_X5_remember 0 m) fun r2 =>
    Option.bind (f_X4_copyFrom 0 2 r2) fun r3 =>
    Option.bind (f_X4_size 0 r3) fun r4 =>
    some (.inl r4, r3)
theorem w_X11_restore (d k : Nat) (m : zM) (a : (Int32 ⊕ Nat) × zM) (ha : f_X11_restore m = some a) : z_Ev z_MT zN zRf (d + 4) (k + 1) 150 [.inr (12, 0)] m ((fun a => (z_cX z_cI a.1, a.2) : (Int32 ⊕ Nat) × zM → zO) a) := by
  refine zk_top (I := (yX11_restore, cX11_restore, 1, (some .int), [], tX11_restore, 12, 0, 12, 0, 0, 0)) (oc := (fun a => (z_cX z_cI a.1, a.2) : (Int32 ⊕ Nat) × zM → zO)) (a := a) rfl (Nat.le_of_ble_eq_true rfl) (fun G R => ?_) ha
  unfold f_X11_restore
  refine zk_st R 2 4 [some (.inr (12, 0))] [.inl (.int (m.1 12 0 3))] m rfl ⟨trivial, (Nat.le_of_ble_eq_true rfl), trivial⟩ ?_
  refine zk_br R rfl (fun _ => ?_) (fun _ => ?_)
  · exact zk_thr R (k := k + 0) rfl rfl
  · refine zk_st R 4 26 [some (.inr (12, 0))] [.inr (6, 0), .inr (7, 0)] m rfl ⟨trivial, (Nat.le_of_ble_eq_true rfl), trivial, (Nat.le_of_ble_eq_true rfl), trivial⟩ ?_
    refine zk_call R (fun _ => none) id rfl (r_X5_remember (Nat.le_of_ble_eq_true rfl)) (fun b hb => w_X5_remember d 0 0 (Nat.le_of_ble_eq_true rfl) m b hb) (fun r2 => ?_)
    refine zk_st R 4 37 [some (.inr (12, 0))] [.inr (6, 2), .inr (6, 0)] r2 rfl ⟨trivial, (Nat.le_of_ble_eq_true rfl), trivial, (Nat.le_of_ble_eq_true rfl), trivial⟩ ?_
    refine zk_call R (fun _ => none) id rfl (r_X4_copyFrom (Nat.le_of_ble_eq_true rfl)) (fun b hb => w_X4_copyFrom (d + 1) 0 0 2 (Nat.le_of_ble_eq_true rfl) (Nat.le_of_ble_eq_true rfl) r2 b hb) (fun r3 => ?_)
    refine zk_st R 2 44 [some (.inr (12, 0))] [.inr (6, 0)] r3 rfl ⟨trivial, (Nat.le_of_ble_eq_true rfl), trivial⟩ ?_
    refine zk_call R (fun b => some (.inl (.int b))) (fun _ => r3) rfl (r_X4_size (Nat.le_of_ble_eq_true rfl)) (fun b hb => w_X4_size (d + 2) 0 0 (Nat.le_of_ble_eq_true rfl) r3 b hb) (fun r4 => ?_)
    exact zk_ret R rfl trivial rfl
theorem r_X12_setHeight {i : Nat} {t : List zA} (h : i < zN 13) : z_rcv zN (zKD 171) (.inr (13, i) :: t) := by
  rw [show zKD 171 = 13 from rfl]
  exact ⟨rfl, h⟩
noncomputable def f_X12_setHeight (x1 : Int32) (x2 : Int32) (m : zM) : Option (Int32 × zM) :=
  Option.bind (f_X12_sets (3 : Int32) x1 x2 (99 : Int32) m) fun r1 =>
  some (r1.1, r1.2)
theorem w_X12_setHeight (d k : Nat) (x1 : Int32) (x2 : Int32) (m : zM) (a : Int32 × zM) (ha : f_X12_setHeight x1 x2 m = some a) : z_Ev z_MT zN zRf (d + 4) (k + 0) 171 [.inr (13, 0), .inl (.int x1), .inl (.int x2)] m ((fun a => (z_cI a.1, a.2) : Int32 × zM → zO) a) := by
  refine zk_top (I := (yX12_setHeight, cX12_setHeight, 3, (some .int), [], tX12_setHeight, 13, 2, 13, 0, 0, 0)) (oc := (fun a => (z_cI a.1, a.2) : Int32 × zM → zO)) (a := a) rfl (Nat.le_of_ble_eq_true rfl) (fun G R => ?_) ha
  unfold f_X12_setHeight
  refine zk_st R 5 6 [some (.inr (13, 0)), some (.inl (.int x1)), some (.inl (.int x2))] [.inl (.int (99 : Int32)), .inl (.int x2), .inl (.int x1), .inl (.int (3 : Int32)), .inr (13, 0)] m rfl ⟨trivial, trivial, trivial, trivial, trivial, trivial⟩ ?_
  refine zk_call R (fun b => some (.inl (.int b.1))) (fun b => b.2) rfl (r_X12_sets (Nat.le_of_ble_eq_true rfl)) (fun b hb => w_X12_sets d 0 (3 : Int32) x1 x2 (99 : Int32) m b hb) (fun r1 => ?_)
  exact zk_ret R rfl trivial rfl
theorem r_X12_setRain {i : Nat} {t : List zA} (h : i < zN 13) : z_rcv zN (zKD 173) (.inr (13, i) :: t) := by
  rw [show zKD 173 = 13 from rfl]
  exact ⟨rfl, h⟩
noncomputable def f_X12_setRain (x1 : Int32) (x2 : Int32) (m : zM) : Option (Int32 × zM) :=
  Option.bind (f_X12_sets (67 : Int32) x1 x2 (9 : Int32) m) fun r1 =>
  some (r1.1, r1.2)
theorem w_X12_setRain (d k : Nat) (x1 : Int32) (x2 : Int32) (m : zM) (a : Int32 × zM) (ha : f_X12_setRain x1 x2 m = some a) : z_Ev z_MT zN zRf (d + 4) (k + 0) 173 [.inr (13, 0), .inl (.int x1), .inl (.int x2)] m ((fun a => (z_cI a.1, a.2) : Int32 × zM → zO) a) := by
  refine zk_top (I := (yX12_setRain, cX12_setRain, 3, (some .int), [], tX12_setRain, 13, 2, 13, 0, 0, 0)) (oc := (fun a => (z_cI a.1, a.2) : Int32 × zM → zO)) (a := a) rfl (Nat.le_of_ble_eq_true rfl) (fun G R => ?_) ha
  unfold f_X12_setRain
  refine zk_st R 5 7 [some (.inr (13, 0)), some (.inl (.int x1)), some (.inl (.int x2))] [.inl (.int (9 : Int32)), .inl (.int x2), .inl (.int x1), .inl (.int (67 : Int32)), .inr (13, 0)] m rfl ⟨trivial, trivial, trivial, trivial, trivial, trivial⟩ ?_
  refine zk_call R (fun b => some (.inl (.int b.1))) (fun b => b.2) rfl (r_X12_sets (Nat.le_of_ble_eq_true rfl)) (fun b hb => w_X12_sets d 0 (67 : Int32) x1 x2 (9 : Int32) m b hb) (fun r1 => ?_)
  exact zk_ret R rfl trivial rfl
theorem r_X12_setSoak {i : Nat} {t : List zA} (h : i < zN 13) : z_rcv zN (zKD 174) (.inr (13, i) :: t) := by
  rw [show zKD 174 = 13 from rfl]
  exact ⟨rfl, h⟩
noncomputable def f_X12_setSoak (x1 : Int32) (x2 : Int32) (m : zM) : Option (Int32 × zM) :=
  Option.bind (f_X12_sets (131 : Int32) x1 x2 (9 : Int32) m) fun r1 =>
  some (r1.1, r1.2)
theorem w_X12_setSoak (d k : Nat) (x1 : Int32) (x2 : Int32) (m : zM) (a : Int32 × zM) (ha : f_X12_setSoak x1 x2 m = some a) : z_Ev z_MT zN zRf (d + 4) (k + 0) 174 [.inr (13, 0), .inl (.int x1), .inl (.int x2)] m ((fun a => (z_cI a.1, a.2) : Int32 × zM → zO) a) := by
  refine zk_top (I := (yX12_setSoak, cX12_setSoak, 3, (some .int), [], tX12_setSoak, 13, 2, 13, 0, 0, 0)) (oc := (fun a => (z_cI a.1, a.2) : Int32 × zM → zO)) (a := a) rfl (Nat.le_of_ble_eq_true rfl) (fun G R => ?_) ha
  unfold f_X12_setSoak
  refine zk_st R 5 8 [some (.inr (13, 0)), some (.inl (.int x1)), some (.inl (.int x2))] [.inl (.int (9 : Int32)), .inl (.int x2), .inl (.int x1), .inl (.int (131 : Int32)), .inr (13, 0)] m rfl ⟨trivial, trivial, trivial, trivial, trivial, trivial⟩ ?_
  refine zk_call R (fun b => some (.inl (.int b.1))) (fun b => b.2) rfl (r_X12_sets (Nat.le_of_ble_eq_true rfl)) (fun b hb => w_X12_sets d 0 (131 : Int32) x1 x2 (9 : Int32) m b hb) (fun r1 => ?_)
  exact zk_ret R rfl trivial rfl
theorem r_X12_waters {i : Nat} {t : List zA} (h : i < zN 13) : z_rcv zN (zKD 186) (.inr (13, i) :: t) := by
  rw [show zKD 186 = 13 from rfl]
  exact ⟨rfl, h⟩
noncomputable def f_X12_waters_37 (c29 : Int32 → zM → Option (zM)) : Nat → Int32 → Int32 → zM → Option (zM)
  | 0, _, _, _ => none
  | j + 1, x1, x2, m =>
    Option.bind (f_X12_cells m) fun r1 =>
    if r1 ≤ x2 then
      c29 x1 m
    else
      Option.bind (f_X12_inflow x2 m) fun r3 =>
      z_gd (z_inb ((67 : Int32) + x2) (z_alen 23)) <| z_gd (z_inb x2 (z_alen 20)) <| if (r3 + (m.1 23 0 (Int32.toNatClampNeg ((67 : Int32) + x2)))) = (m.1 20 63 (Int32.toNatClampNeg x2)) then
        f_X12_waters_37 c29 j x1 (x2 + (1 : Int32)) m
      else
        z_gd (z_inb x2 (z_alen 20)) <| f_X12_waters_37 c29 j (1 : Int32) (x2 + (1 : Int32)) (z_sI m 20 63 (Int32.toNatClampNeg x2) (r3 + (m.1 23 0 (Int32.toNatClampNeg ((67 : Int32) + x2)))))
noncomputable def f_X12_waters_29 : Nat → Int32 → zM → Option (zM)
  | 0, _, _ => none
  | j + 1, x1, m =>
    if x1 = 0 then
      some m
    else
      f_X12_waters_37 (f_X12_waters_29 j) zF (0 : Int32) (0 : Int32) m
noncomputable def f_X12_waters_6 : Nat → Int32 → zM → Option (zM)
  | 0, _, _ => none
  | j + 1, x1, m =>
    Option.bind (f_X12_cells m) fun r1 =>
    if r1 ≤ x1 then
      f_X12_waters_29 zF (1 : Int32) m
    else
      z_gd (z_inb x1 (z_alen 20)) <| f_X12_waters_6 j (x1 + (1 : Int32)) (z_sI m 20 63 (Int32.toNatClampNeg x1) (0 : Int32))
noncomputable def f_X12_waters (m : zM) : Option (zM) :=
  Option.bind (f_X12_looks m) fun r1 =>
  f_X12_waters_6 zF (0 : Int32) r1
theorem w_X12_waters_37 (d k : Nat) {o : zO} {G : Nat → Nat → zL → List zA → zM → Prop} (R : zRu (d + 3) tX12_waters 0 (z_hf []) o G) (c29 : Int32 → zM → Option (zM)) (hc29 : ∀ (x1 : Int32) (m : zM), zLK G (fun a => (.inl none, a) : zM → zO) o (c29 x1 m) some (k + 0) 29 [some (.inr (13, 0)), some (.inl (.int x1)), none, none] [] m) : ∀ (j : Nat) (x1 : Int32) (x2 : Int32) (m : zM), zLK G (fun a => (.inl none, a) : zM → zO) o (f_X12_waters_37 c29 j x1 x2 m) some (k + 0) 37 [some (.inr (13, 0)), some (.inl (.int x1)), some (.inl (.int x2)), none] [] m := by
  intro j
  induction j with
  | zero =>
    intro _ _ _
    exact zk_none
  | succ j ih =>
    intro x1 x2 m
    unfold f_X12_waters_37
    refine zk_st R 2 39 [some (.inr (13, 0)), some (.inl (.int x1)), some (.inl (.int x2)), none] [.inr (13, 0), .inl (.int x2)] m rfl ⟨trivial, trivial, trivial⟩ ?_
    refine zk_call R (fun b => some (.inl (.int b))) (fun _ => m) rfl (r_X12_cells (Nat.le_of_ble_eq_true rfl)) (fun b hb => w_X12_cells (d + 2) 0 m b hb) (fun r1 => ?_)
    refine zk_br R rfl (fun _ => ?_) (fun _ => ?_)
    · refine zk_st R 1 29 [some (.inr (13, 0)), some (.inl (.int x1)), some (.inl (.int x2)), none] [] m rfl ⟨trivial, trivial⟩ ?_
      refine zk_mask R [true, true, false, false] rfl ?_
      exact hc29 x1 m
    · refine zk_st R 2 47 [some (.inr (13, 0)), some (.inl (.int x1)), some (.inl (.int x2)), none] [.inl (.int x2), .inr (13, 0)] m rfl ⟨trivial, trivial, trivial⟩ ?_
      refine zk_call R (fun b => some (.inl (.int b))) (fun _ => m) rfl (r_X12_inflow (Nat.le_of_ble_eq_true rfl)) (fun b hb => w_X12_inflow d 0 x2 m b hb) (fun r3 => ?_)
      refine zk_gd fun e4 => ?_
      refine zk_gd fun e5 => ?_
      refine zk_st R 13 68 [some (.inr (13, 0)), some (.inl (.int x1)), some (.inl (.int x2)), some (.inl (.int (r3 + (m.1 23 0 (Int32.toNatClampNeg ((67 : Int32) + x2))))))] [.inl (.int (m.1 20 63 (Int32.toNatClampNeg x2))), .inl (.int (r3 + (m.1 23 0 (Int32.toNatClampNeg ((67 : Int32) + x2)))))] m rfl ⟨trivial, (Nat.le_of_ble_eq_true rfl), trivial, trivial, trivial, ⟨(Nat.le_of_ble_eq_true rfl), z_inb_in e4⟩, trivial, trivial, trivial, trivial, (Nat.le_of_ble_eq_true rfl), trivial, ⟨(Nat.le_of_ble_eq_true rfl), z_inb_in e5⟩, trivial⟩ ?_
      refine zk_br R rfl (fun _ => ?_) (fun _ => ?_)
      · refine zk_st R 3 37 [some (.inr (13, 0)), some (.inl (.int x1)), some (.inl (.int (x2 + (1 : Int32)))), some (.inl (.int (r3 + (m.1 23 0 (Int32.toNatClampNeg ((67 : Int32) + x2))))))] [] m rfl ⟨trivial, trivial, trivial, trivial⟩ ?_
        refine zk_mask R [true, true, true, false] rfl ?_
        exact ih x1 (x2 + (1 : Int32)) m
      · refine zk_gd fun e7 => ?_
        refine zk_st R 9 37 [some (.inr (13, 0)), some (.inl (.int (1 : Int32))), some (.inl (.int (x2 + (1 : Int32)))), some (.inl (.int (r3 + (m.1 23 0 (Int32.toNatClampNeg ((67 : Int32) + x2))))))] [] (z_sI m 20 63 (Int32.toNatClampNeg x2) (r3 + (m.1 23 0 (Int32.toNatClampNeg ((67 : Int32) + x2))))) rfl ⟨trivial, (Nat.le_of_ble_eq_true rfl), trivial, trivial, ⟨(Nat.le_of_ble_eq_true rfl), z_inb_in e7⟩, trivial, trivial, trivial, trivial, trivial⟩ ?_
        refine zk_mask R [true, true, true, false] rfl ?_
        exact ih (1 : Int32) (x2 + (1 : Int32)) (z_sI m 20 63 (Int32.toNatClampNeg x2) (r3 + (m.1 23 0 (Int32.toNatClampNeg ((67 : Int32) + x2)))))
theorem w_X12_waters_29 (d k : Nat) {o : zO} {G : Nat → Nat → zL → List zA → zM → Prop} (R : zRu (d + 3) tX12_waters 0 (z_hf []) o G) : ∀ (j : Nat) (x1 : Int32) (m : zM), zLK G (fun a => (.inl none, a) : zM → zO) o (f_X12_waters_29 j x1 m) some (k + 0) 29 [some (.inr (13, 0)), some (.inl (.int x1)), none, none] [] m := by
  intro j
  induction j with
  | zero =>
    intro _ _
    exact zk_none
  | succ j ih =>
    intro x1 m
    unfold f_X12_waters_29
    refine zk_st R 1 30 [some (.inr (13, 0)), some (.inl (.int x1)), none, none] [.inl (.int x1)] m rfl ⟨trivial, trivial⟩ ?_
    refine zk_br R rfl (fun _ => ?_) (fun _ => ?_)
    · exact zk_ret R rfl trivial rfl
    · refine zk_st R 4 37 [some (.inr (13, 0)), some (.inl (.int (0 : Int32))), some (.inl (.int (0 : Int32))), none] [] m rfl ⟨trivial, trivial, trivial, trivial, trivial⟩ ?_
      refine zk_mask R [true, true, true, false] rfl ?_
      exact w_X12_waters_37 d k R (f_X12_waters_29 j) ih zF (0 : Int32) (0 : Int32) m
theorem w_X12_waters_6 (d k : Nat) {o : zO} {G : Nat → Nat → zL → List zA → zM → Prop} (R : zRu (d + 3) tX12_waters 0 (z_hf []) o G) : ∀ (j : Nat) (x1 : Int32) (m : zM), zLK G (fun a => (.inl none, a) : zM → zO) o (f_X12_waters_6 j x1 m) some (k + 0) 6 [some (.inr (13, 0)), some (.inl (.int x1)), none, none] [] m := by
  intro j
  induction j with
  | zero =>
    intro _ _
    exact zk_none
  | succ j ih =>
    intro x1 m
    unfold f_X12_waters_6
    refine zk_st R 2 8 [some (.inr (13, 0)), some (.inl (.int x1)), none, none] [.inr (13, 0), .inl (.int x1)] m rfl ⟨trivial, trivial, trivial⟩ ?_
    refine zk_call R (fun b => some (.inl (.int b))) (fun _ => m) rfl (r_X12_cells (Nat.le_of_ble_eq_true rfl)) (fun b hb => w_X12_cells (d + 2) 0 m b hb) (fun r1 => ?_)
    refine zk_br R rfl (fun _ => ?_) (fun _ => ?_)
    · refine zk_st R 2 29 [some (.inr (13, 0)), some (.inl (.int (1 : Int32))), none, none] [] m rfl ⟨trivial, trivial, trivial⟩ ?_
      refine zk_mask R [true, true, false, false] rfl ?_
      exact w_X12_waters_29 d k R zF (1 : Int32) m
    · refine zk_gd fun e3 => ?_
      refine zk_st R 7 6 [some (.inr (13, 0)), some (.inl (.int (x1 + (1 : Int32)))), none, none] [] (z_sI m 20 63 (Int32.toNatClampNeg x1) (0 : Int32)) rfl ⟨trivial, (Nat.le_of_ble_eq_true rfl), trivial, trivial, ⟨(Nat.le_of_ble_eq_true rfl), z_inb_in e3⟩, trivial, trivial, trivial⟩ ?_
      refine zk_mask R [true, true, false, false] rfl ?_
      exact ih (x1 + (1 : Int32)) (z_sI m 20 63 (Int32.toNatClampNeg x1) (0 : Int32))
theorem w_X12_waters (d k : Nat) (m : zM) (a : zM) (ha : f_X12_waters m = some a) : z_Ev z_MT zN zRf (d + 4) (k + 0) 186 [.inr (13, 0)] m ((fun a => (.inl none, a) : zM → zO) a) := by
  refine zk_top (I := (yX12_waters, cX12_waters, 4, none, [], tX12_waters, 13, 0, 13, 0, 0, 0)) (oc := (fun a => (.inl none, a) : zM → zO)) (a := a) rfl (Nat.le_of_ble_eq_true rfl) (fun G R => ?_) ha
  unfold f_X12_waters
  refine zk_st R 1 1 [some (.inr (13, 0)), none, none, none] [.inr (13, 0)] m rfl ⟨trivial, trivial⟩ ?_
  refine zk_call R (fun _ => none) id rfl (r_X12_looks (Nat.le_of_ble_eq_true rfl)) (fun b hb => w_X12_looks d 0 m b hb) (fun r1 => ?_)
  refine zk_st R 2 6 [some (.inr (13, 0)), some (.inl (.int (0 : Int32))), none, none] [] r1 rfl ⟨trivial, trivial, trivial⟩ ?_
  refine zk_mask R [true, true, false, false] rfl ?_
  exact w_X12_waters_6 d k R zF (0 : Int32) r1
theorem r_X12_isJunction {i : Nat} {t : List zA} (h : i < zN 13) : z_rcv zN (zKD 189) (.inr (13, i) :: t) := by
  rw [show zKD 189 = 13 from rfl]
  exact ⟨rfl, h⟩
noncomputable def f_X12_isJunction (x1 : Int32) (m : zM) : Option (Bool) :=
  Option.bind (f_X12_isStream x1 m) fun r1 =>
  if (z_bi r1) = 0 then
    some false
  else
    Option.bind (f_X12_feeders x1 m) fun r3 =>
    if r3 ≤ (1 : Int32) then
      some false
    else
      some true
theorem w_X12_isJunction (d k : Nat) (x1 : Int32) (m : zM) (a : Bool) (ha : f_X12_isJunction x1 m = some a) : z_Ev z_MT zN zRf (d + 4) (k + 0) 189 [.inr (13, 0), .inl (.int x1)] m ((fun a => (z_cB a, m) : Bool → zO) a) := by
  refine zk_top (I := (yX12_isJunction, cX12_isJunction, 2, (some .boolean), [], tX12_isJunction, 13, 1, 13, 0, 0, 0)) (oc := (fun a => (z_cB a, m) : Bool → zO)) (a := a) rfl (Nat.le_of_ble_eq_true rfl) (fun G R => ?_) ha
  unfold f_X12_isJunction
  refine zk_st R 2 2 [some (.inr (13, 0)), some (.inl (.int x1))] [.inl (.int x1), .inr (13, 0)] m rfl ⟨trivial, trivial, trivial⟩ ?_
  refine zk_call R (fun b => some (.inl (.int (z_bi b)))) (fun _ => m) rfl (r_X12_isStream (Nat.le_of_ble_eq_true rfl)) (fun b hb => w_X12_isStream (d + 2) 0 x1 m b hb) (fun r1 => ?_)
  refine zk_br R rfl (fun _ => ?_) (fun _ => ?_)
  · refine zk_st R 1 22 [some (.inr (13, 0)), some (.inl (.int x1))] [.inl (.int (0 : Int32))] m rfl ⟨trivial, trivial⟩ ?_
    exact zk_ret R rfl (Or.inl rfl) rfl
  · refine zk_st R 2 10 [some (.inr (13, 0)), some (.inl (.int x1))] [.inl (.int x1), .inr (13, 0)] m rfl ⟨trivial, trivial, trivial⟩ ?_
    refine zk_call R (fun b => some (.inl (.int b))) (fun _ => m) rfl (r_X12_feeders (Nat.le_of_ble_eq_true rfl)) (fun b hb => w_X12_feeders d 0 x1 m b hb) (fun r3 => ?_)
    refine zk_st R 1 14 [some (.inr (13, 0)), some (.inl (.int x1))] [.inl (.int (1 : Int32)), .inl (.int r3)] m rfl ⟨trivial, trivial⟩ ?_
    refine zk_br R rfl (fun _ => ?_) (fun _ => ?_)
    · refine zk_st R 1 22 [some (.inr (13, 0)), some (.inl (.int x1))] [.inl (.int (0 : Int32))] m rfl ⟨trivial, trivial⟩ ?_
      exact zk_ret R rfl (Or.inl rfl) rfl
    · refine zk_st R 2 22 [some (.inr (13, 0)), some (.inl (.int x1))] [.inl (.int (1 : Int32))] m rfl ⟨trivial, trivial, trivial⟩ ?_
      exact zk_ret R rfl (Or.inr rfl) rfl
theorem r_X12_lakes {i : Nat} {t : List zA} (h : i < zN 13) : z_rcv zN (zKD 193) (.inr (13, i) :: t) := by
  rw [show zKD 193 = 13 from rfl]
  exact ⟨rfl, h⟩
noncomputable def f_X12_lakes_101 (c34 : Int32 → zM → Option (zM)) (c84 : Int32 → Int32 → zM → Option (zM)) : Nat → Int32 → Int32 → Int32 → Int32 → zM → Option (zM)
  | 0, _, _, _, _, _ => none
  | j + 1, x1, x2, x3, x4, m =>
    if (4 : Int32) ≤ x4 then
      c84 x1 x2 m
    else
      Option.bind (f_X12_next x3 x4 m) fun r2 =>
      if r2 < 0 then
        f_X12_lakes_101 c34 c84 j x1 x2 x3 (x4 + (1 : Int32)) m
      else
        z_gd (z_inb r2 (z_alen 20)) <| if 0 ≤ (m.1 20 65 (Int32.toNatClampNeg r2)) then
          f_X12_lakes_101 c34 c84 j x1 x2 x3 (x4 + (1 : Int32)) m
        else
          Option.bind (f_X12_depth r2 m) fun r6 =>
          if r6 = 0 then
            f_X12_lakes_101 c34 c84 j x1 x2 x3 (x4 + (1 : Int32)) m
          else
            z_gd (z_inb r2 (z_alen 20)) <| z_gd (z_inb x1 (z_alen 20)) <| if (m.1 20 59 (Int32.toNatClampNeg r2)) = (m.1 20 59 (Int32.toNatClampNeg x1)) then
              z_gd (z_inb r2 (z_alen 20)) <| z_gd (z_inb x2 (z_alen 20)) <| f_X12_lakes_101 c34 c84 j x1 (x2 + (1 : Int32)) x3 (x4 + (1 : Int32)) (z_sI (z_sI m 20 65 (Int32.toNatClampNeg r2) (m.1 13 0 18)) 20 66 (Int32.toNatClampNeg x2) r2)
            else
              f_X12_lakes_101 c34 c84 j x1 x2 x3 (x4 + (1 : Int32)) m
noncomputable def f_X12_lakes_84 (c34 : Int32 → zM → Option (zM)) : Nat → Int32 → Int32 → zM → Option (zM)
  | 0, _, _, _ => none
  | j + 1, x1, x2, m =>
    if x2 ≤ 0 then
      c34 (x1 + (1 : Int32)) (z_sI m 13 0 18 ((m.1 13 0 18) + (1 : Int32)))
    else
      z_gd (z_inb (x2 + (-1 : Int32)) (z_alen 20)) <| f_X12_lakes_101 c34 (f_X12_lakes_84 c34 j) zF x1 (x2 + (-1 : Int32)) (m.1 20 66 (Int32.toNatClampNeg (x2 + (-1 : Int32)))) (0 : Int32) m
noncomputable def f_X12_lakes_34 : Nat → Int32 → zM → Option (zM)
  | 0, _, _ => none
  | j + 1, x1, m =>
    Option.bind (f_X12_cells m) fun r1 =>
    if r1 ≤ x1 then
      some m
    else
      Option.bind (f_X12_depth x1 m) fun r3 =>
      if r3 = 0 then
        f_X12_lakes_34 j (x1 + (1 : Int32)) m
      else
        z_gd (z_inb x1 (z_alen 20)) <| if (m.1 20 65 (Int32.toNatClampNeg x1)) < 0 then
          z_gd (z_inb (0 : Int32) (z_alen 20)) <| z_gd (z_inb x1 (z_alen 20)) <| f_X12_lakes_84 (f_X12_lakes_34 j) zF x1 ((0 : Int32) + (1 : Int32)) (z_sI (z_sI m 20 66 (Int32.toNatClampNeg (0 : Int32)) x1) 20 65 (Int32.toNatClampNeg x1) ((z_sI m 20 66 (Int32.toNatClampNeg (0 : Int32)) x1).1 13 0 18))
        else
          f_X12_lakes_34 j (x1 + (1 : Int32)) m
noncomputable def f_X12_lakes_6 : Nat → Int32 → zM → Option (zM)
  | 0, _, _ => none
  | j + 1, x1, m =>
    Option.bind (f_X12_cells m) fun r1 =>
    if r1 ≤ x1 then
      f_X12_lakes_34 zF (0 : Int32) (z_sI m 13 0 18 (0 : Int32))
    else
      z_gd (z_inb x1 (z_alen 20)) <| f_X12_lakes_6 j (x1 + (1 : Int32)) (z_sI m 20 65 (Int32.toNatClampNeg x1) (-1 : Int32))
noncomputable def f_X12_lakes (m : zM) : Option (zM) :=
  Option.bind (f_X12_looks m) fun r1 =>
  f_X12_lakes_6 zF (0 : Int32) r1
theorem w_X12_lakes_101 (d k : Nat) {o : zO} {G : Nat → Nat → zL → List zA → zM → Prop} (R : zRu (d + 3) tX12_lakes 0 (z_hf []) o G) (c34 : Int32 → zM → Option (zM)) (c84 : Int32 → Int32 → zM → Option (zM)) (hc34 : ∀ (x1 : Int32) (m : zM), zLK G (fun a => (.inl none, a) : zM → zO) o (c34 x1 m) some (k + 0) 34 [some (.inr (13, 0)), some (.inl (.int x1)), none, none, none, none] [] m) (hc84 : ∀ (x1 : Int32) (x2 : Int32) (m : zM), zLK G (fun a => (.inl none, a) : zM → zO) o (c84 x1 x2 m) some (k + 0) 84 [some (.inr (13, 0)), some (.inl (.int x1)), some (.inl (.int x2)), none, none, none] [] m) : ∀ (j : Nat) (x1 : Int32) (x2 : Int32) (x3 : Int32) (x4 : Int32) (m : zM), zLK G (fun a => (.inl none, a) : zM → zO) o (f_X12_lakes_101 c34 c84 j x1 x2 x3 x4 m) some (k + 0) 101 [some (.inr (13, 0)), some (.inl (.int x1)), some (.inl (.int x2)), some (.inl (.int x3)), some (.inl (.int x4)), none] [] m := by
  intro j
  induction j with
  | zero =>
    intro _ _ _ _ _
    exact zk_none
  | succ j ih =>
    intro x1 x2 x3 x4 m
    unfold f_X12_lakes_101
    refine zk_st R 2 104 [some (.inr (13, 0)), some (.inl (.int x1)), some (.inl (.int x2)), some (.inl (.int x3)), some (.inl (.int x4)), none] [.inl (.int (4 : Int32)), .inl (.int x4)] m rfl ⟨trivial, trivial, trivial⟩ ?_
    refine zk_br R rfl (fun _ => ?_) (fun _ => ?_)
    · refine zk_st R 1 84 [some (.inr (13, 0)), some (.inl (.int x1)), some (.inl (.int x2)), some (.inl (.int x3)), some (.inl (.int x4)), none] [] m rfl ⟨trivial, trivial⟩ ?_
      refine zk_mask R [true, true, true, false, false, false] rfl ?_
      exact hc84 x1 x2 m
    · refine zk_st R 3 111 [some (.inr (13, 0)), some (.inl (.int x1)), some (.inl (.int x2)), some (.inl (.int x3)), some (.inl (.int x4)), none] [.inl (.int x4), .inl (.int x3), .inr (13, 0)] m rfl ⟨trivial, trivial, trivial, trivial⟩ ?_
      refine zk_call R (fun b => some (.inl (.int b))) (fun _ => m) rfl (r_X12_next (Nat.le_of_ble_eq_true rfl)) (fun b hb => w_X12_next (d + 2) 0 x3 x4 m b hb) (fun r2 => ?_)
      refine zk_st R 2 118 [some (.inr (13, 0)), some (.inl (.int x1)), some (.inl (.int x2)), some (.inl (.int x3)), some (.inl (.int x4)), some (.inl (.int r2))] [.inl (.int r2)] m rfl ⟨trivial, trivial, trivial⟩ ?_
      refine zk_br R rfl (fun _ => ?_) (fun _ => ?_)
      · refine zk_st R 2 101 [some (.inr (13, 0)), some (.inl (.int x1)), some (.inl (.int x2)), some (.inl (.int x3)), some (.inl (.int (x4 + (1 : Int32)))), some (.inl (.int r2))] [] m rfl ⟨trivial, trivial, trivial⟩ ?_
        refine zk_mask R [true, true, true, true, true, false] rfl ?_
        exact ih x1 x2 x3 (x4 + (1 : Int32)) m
      · refine zk_gd fun e4 => ?_
        refine zk_st R 4 128 [some (.inr (13, 0)), some (.inl (.int x1)), some (.inl (.int x2)), some (.inl (.int x3)), some (.inl (.int x4)), some (.inl (.int r2))] [.inl (.int (m.1 20 65 (Int32.toNatClampNeg r2)))] m rfl ⟨trivial, (Nat.le_of_ble_eq_true rfl), trivial, ⟨(Nat.le_of_ble_eq_true rfl), z_inb_in e4⟩, trivial⟩ ?_
        refine zk_br R rfl (fun _ => ?_) (fun _ => ?_)
        · refine zk_st R 2 101 [some (.inr (13, 0)), some (.inl (.int x1)), some (.inl (.int x2)), some (.inl (.int x3)), some (.inl (.int (x4 + (1 : Int32)))), some (.inl (.int r2))] [] m rfl ⟨trivial, trivial, trivial⟩ ?_
          refine zk_mask R [true, true, true, true, true, false] rfl ?_
          exact ih x1 x2 x3 (x4 + (1 : Int32)) m
        · refine zk_st R 2 134 [some (.inr (13, 0)), some (.inl (.int x1)), some (.inl (.int x2)), some (.inl (.int x3)), some (.inl (.int x4)), some (.inl (.int r2))] [.inl (.int r2), .inr (13, 0)] m rfl ⟨trivial, trivial, trivial⟩ ?_
          refine zk_call R (fun b => some (.inl (.int b))) (fun _ => m) rfl (r_X12_depth (Nat.le_of_ble_eq_true rfl)) (fun b hb => w_X12_depth (d + 1) 0 r2 m b hb) (fun r6 => ?_)
          refine zk_br R rfl (fun _ => ?_) (fun _ => ?_)
          · refine zk_st R 2 101 [some (.inr (13, 0)), some (.inl (.int x1)), some (.inl (.int x2)), some (.inl (.int x3)), some (.inl (.int (x4 + (1 : Int32)))), some (.inl (.int r2))] [] m rfl ⟨trivial, trivial, trivial⟩ ?_
            refine zk_mask R [true, true, true, true, true, false] rfl ?_
            exact ih x1 x2 x3 (x4 + (1 : Int32)) m
          · refine zk_gd fun e8 => ?_
            refine zk_gd fun e9 => ?_
            refine zk_st R 8 153 [some (.inr (13, 0)), some (.inl (.int x1)), some (.inl (.int x2)), some (.inl (.int x3)), some (.inl (.int x4)), some (.inl (.int r2))] [.inl (.int (m.1 20 59 (Int32.toNatClampNeg x1))), .inl (.int (m.1 20 59 (Int32.toNatClampNeg r2)))] m rfl ⟨trivial, (Nat.le_of_ble_eq_true rfl), trivial, ⟨(Nat.le_of_ble_eq_true rfl), z_inb_in e8⟩, trivial, (Nat.le_of_ble_eq_true rfl), trivial, ⟨(Nat.le_of_ble_eq_true rfl), z_inb_in e9⟩, trivial⟩ ?_
            refine zk_br R rfl (fun _ => ?_) (fun _ => ?_)
            · refine zk_gd fun e11 => ?_
              refine zk_gd fun e12 => ?_
              refine zk_st R 14 101 [some (.inr (13, 0)), some (.inl (.int x1)), some (.inl (.int (x2 + (1 : Int32)))), some (.inl (.int x3)), some (.inl (.int (x4 + (1 : Int32)))), some (.inl (.int r2))] [] (z_sI (z_sI m 20 65 (Int32.toNatClampNeg r2) (m.1 13 0 18)) 20 66 (Int32.toNatClampNeg x2) r2) rfl ⟨trivial, (Nat.le_of_ble_eq_true rfl), trivial, trivial, (Nat.le_of_ble_eq_true rfl), ⟨(Nat.le_of_ble_eq_true rfl), z_inb_in e11⟩, trivial, (Nat.le_of_ble_eq_true rfl), trivial, trivial, trivial, ⟨(Nat.le_of_ble_eq_true rfl), z_inb_in e12⟩, trivial, trivial, trivial⟩ ?_
              refine zk_mask R [true, true, true, true, true, false] rfl ?_
              exact ih x1 (x2 + (1 : Int32)) x3 (x4 + (1 : Int32)) (z_sI (z_sI m 20 65 (Int32.toNatClampNeg r2) (m.1 13 0 18)) 20 66 (Int32.toNatClampNeg x2) r2)
            · refine zk_st R 3 101 [some (.inr (13, 0)), some (.inl (.int x1)), some (.inl (.int x2)), some (.inl (.int x3)), some (.inl (.int (x4 + (1 : Int32)))), some (.inl (.int r2))] [] m rfl ⟨trivial, trivial, trivial, trivial⟩ ?_
              refine zk_mask R [true, true, true, true, true, false] rfl ?_
              exact ih x1 x2 x3 (x4 + (1 : Int32)) m
theorem w_X12_lakes_84 (d k : Nat) {o : zO} {G : Nat → Nat → zL → List zA → zM → Prop} (R : zRu (d + 3) tX12_lakes 0 (z_hf []) o G) (c34 : Int32 → zM → Option (zM)) (hc34 : ∀ (x1 : Int32) (m : zM), zLK G (fun a => (.inl none, a) : zM → zO) o (c34 x1 m) some (k + 0) 34 [some (.inr (13, 0)), some (.inl (.int x1)), none, none, none, none] [] m) : ∀ (j : Nat) (x1 : Int32) (x2 : Int32) (m : zM), zLK G (fun a => (.inl none, a) : zM → zO) o (f_X12_lakes_84 c34 j x1 x2 m) some (k + 0) 84 [some (.inr (13, 0)), some (.inl (.int x1)), some (.inl (.int x2)), none, none, none] [] m := by
  intro j
  induction j with
  | zero =>
    intro _ _ _
    exact zk_none
  | succ j ih =>
    intro x1 x2 m
    unfold f_X12_lakes_84
    refine zk_st R 1 85 [some (.inr (13, 0)), some (.inl (.int x1)), some (.inl (.int x2)), none, none, none] [.inl (.int x2)] m rfl ⟨trivial, trivial⟩ ?_
    refine zk_br R rfl (fun _ => ?_) (fun _ => ?_)
    · refine zk_st R 8 34 [some (.inr (13, 0)), some (.inl (.int (x1 + (1 : Int32)))), some (.inl (.int x2)), none, none, none] [] (z_sI m 13 0 18 ((m.1 13 0 18) + (1 : Int32))) rfl ⟨trivial, trivial, (Nat.le_of_ble_eq_true rfl), trivial, trivial, (Nat.le_of_ble_eq_true rfl), trivial, trivial, trivial⟩ ?_
      refine zk_mask R [true, true, false, false, false, false] rfl ?_
      exact hc34 (x1 + (1 : Int32)) (z_sI m 13 0 18 ((m.1 13 0 18) + (1 : Int32)))
    · refine zk_gd fun e2 => ?_
      refine zk_st R 8 101 [some (.inr (13, 0)), some (.inl (.int x1)), some (.inl (.int (x2 + (-1 : Int32)))), some (.inl (.int (m.1 20 66 (Int32.toNatClampNeg (x2 + (-1 : Int32)))))), some (.inl (.int (0 : Int32))), none] [] m rfl ⟨trivial, (Nat.le_of_ble_eq_true rfl), trivial, trivial, ⟨(Nat.le_of_ble_eq_true rfl), z_inb_in e2⟩, trivial, trivial, trivial, trivial⟩ ?_
      refine zk_mask R [true, true, true, true, true, false] rfl ?_
      exact w_X12_lakes_101 d k R c34 (f_X12_lakes_84 c34 j) hc34 ih zF x1 (x2 + (-1 : Int32)) (m.1 20 66 (Int32.toNatClampNeg (x2 + (-1 : Int32)))) (0 : Int32) m
theorem w_X12_lakes_34 (d k : Nat) {o : zO} {G : Nat → Nat → zL → List zA → zM → Prop} (R : zRu (d + 3) tX12_lakes 0 (z_hf []) o G) : ∀ (j : Nat) (x1 : Int32) (m : zM), zLK G (fun a => (.inl none, a) : zM → zO) o (f_X12_lakes_34 j x1 m) some (k + 0) 34 [some (.inr (13, 0)), some (.inl (.int x1)), none, none, none, none] [] m := by
  intro j
  induction j with
  | zero =>
    intro _ _
    exact zk_none
  | succ j ih =>
    intro x1 m
    unfold f_X12_lakes_34
    refine zk_st R 2 36 [some (.inr (13, 0)), some (.inl (.int x1)), none, none, none, none] [.inr (13, 0), .inl (.int x1)] m rfl ⟨trivial, trivial, trivial⟩ ?_
    refine zk_call R (fun b => some (.inl (.int b))) (fun _ => m) rfl (r_X12_cells (Nat.le_of_ble_eq_true rfl)) (fun b hb => w_X12_cells (d + 2) 0 m b hb) (fun r1 => ?_)
    refine zk_br R rfl (fun _ => ?_) (fun _ => ?_)
    · exact zk_ret R rfl trivial rfl
    · refine zk_st R 2 44 [some (.inr (13, 0)), some (.inl (.int x1)), none, none, none, none] [.inl (.int x1), .inr (13, 0)] m rfl ⟨trivial, trivial, trivial⟩ ?_
      refine zk_call R (fun b => some (.inl (.int b))) (fun _ => m) rfl (r_X12_depth (Nat.le_of_ble_eq_true rfl)) (fun b hb => w_X12_depth (d + 1) 0 x1 m b hb) (fun r3 => ?_)
      refine zk_br R rfl (fun _ => ?_) (fun _ => ?_)
      · refine zk_st R 2 34 [some (.inr (13, 0)), some (.inl (.int (x1 + (1 : Int32)))), none, none, none, none] [] m rfl ⟨trivial, trivial, trivial⟩ ?_
        refine zk_mask R [true, true, false, false, false, false] rfl ?_
        exact ih (x1 + (1 : Int32)) m
      · refine zk_gd fun e5 => ?_
        refine zk_st R 4 56 [some (.inr (13, 0)), some (.inl (.int x1)), none, none, none, none] [.inl (.int (m.1 20 65 (Int32.toNatClampNeg x1)))] m rfl ⟨trivial, (Nat.le_of_ble_eq_true rfl), trivial, ⟨(Nat.le_of_ble_eq_true rfl), z_inb_in e5⟩, trivial⟩ ?_
        refine zk_br R rfl (fun _ => ?_) (fun _ => ?_)
        · refine zk_gd fun e7 => ?_
          refine zk_gd fun e8 => ?_
          refine zk_st R 14 84 [some (.inr (13, 0)), some (.inl (.int x1)), some (.inl (.int ((0 : Int32) + (1 : Int32)))), none, none, none] [] (z_sI (z_sI m 20 66 (Int32.toNatClampNeg (0 : Int32)) x1) 20 65 (Int32.toNatClampNeg x1) ((z_sI m 20 66 (Int32.toNatClampNeg (0 : Int32)) x1).1 13 0 18)) rfl ⟨trivial, trivial, trivial, (Nat.le_of_ble_eq_true rfl), trivial, trivial, trivial, ⟨(Nat.le_of_ble_eq_true rfl), z_inb_in e7⟩, trivial, (Nat.le_of_ble_eq_true rfl), trivial, trivial, (Nat.le_of_ble_eq_true rfl), ⟨(Nat.le_of_ble_eq_true rfl), z_inb_in e8⟩, trivial⟩ ?_
          refine zk_mask R [true, true, true, false, false, false] rfl ?_
          exact w_X12_lakes_84 d k R (f_X12_lakes_34 j) ih zF x1 ((0 : Int32) + (1 : Int32)) (z_sI (z_sI m 20 66 (Int32.toNatClampNeg (0 : Int32)) x1) 20 65 (Int32.toNatClampNeg x1) ((z_sI m 20 66 (Int32.toNatClampNeg (0 : Int32)) x1).1 13 0 18))
        · refine zk_st R 3 34 [some (.inr (13, 0)), some (.inl (.int (x1 + (1 : Int32)))), none, none, none, none] [] m rfl ⟨trivial, trivial, trivial, trivial⟩ ?_
          refine zk_mask R [true, true, false, false, false, false] rfl ?_
          exact ih (x1 + (1 : Int32)) m
theorem w_X12_lakes_6 (d k : Nat) {o : zO} {G : Nat → Nat → zL → List zA → zM → Prop} (R : zRu (d + 3) tX12_lakes 0 (z_hf []) o G) : ∀ (j : Nat) (x1 : Int32) (m : zM), zLK G (fun a => (.inl none, a) : zM → zO) o (f_X12_lakes_6 j x1 m) some (k + 0) 6 [some (.inr (13, 0)), some (.inl (.int x1)), none, none, none, none] [] m := by
  intro j
  induction j with
  | zero =>
    intro _ _
    exact zk_none
  | succ j ih =>
    intro x1 m
    unfold f_X12_lakes_6
    refine zk_st R 2 8 [some (.inr (13, 0)), some (.inl (.int x1)), none, none, none, none] [.inr (13, 0), .inl (.int x1)] m rfl ⟨trivial, trivial, trivial⟩ ?_
    refine zk_call R (fun b => some (.inl (.int b))) (fun _ => m) rfl (r_X12_cells (Nat.le_of_ble_eq_true rfl)) (fun b hb => w_X12_cells (d + 2) 0 m b hb) (fun r1 => ?_)
    refine zk_br R rfl (fun _ => ?_) (fun _ => ?_)
    · refine zk_st R 5 34 [some (.inr (13, 0)), some (.inl (.int (0 : Int32))), none, none, none, none] [] (z_sI m 13 0 18 (0 : Int32)) rfl ⟨trivial, trivial, (Nat.le_of_ble_eq_true rfl), trivial, trivial, trivial⟩ ?_
      refine zk_mask R [true, true, false, false, false, false] rfl ?_
      exact w_X12_lakes_34 d k R zF (0 : Int32) (z_sI m 13 0 18 (0 : Int32))
    · refine zk_gd fun e3 => ?_
      refine zk_st R 7 6 [some (.inr (13, 0)), some (.inl (.int (x1 + (1 : Int32)))), none, none, none, none] [] (z_sI m 20 65 (Int32.toNatClampNeg x1) (-1 : Int32)) rfl ⟨trivial, (Nat.le_of_ble_eq_true rfl), trivial, trivial, ⟨(Nat.le_of_ble_eq_true rfl), z_inb_in e3⟩, trivial, trivial, trivial⟩ ?_
      refine zk_mask R [true, true, false, false, false, false] rfl ?_
      exact ih (x1 + (1 : Int32)) (z_sI m 20 65 (Int32.toNatClampNeg x1) (-1 : Int32))
theorem w_X12_lakes (d k : Nat) (m : zM) (a : zM) (ha : f_X12_lakes m = some a) : z_Ev z_MT zN zRf (d + 4) (k + 0) 193 [.inr (13, 0)] m ((fun a => (.inl none, a) : zM → zO) a) := by
  refine zk_top (I := (yX12_lakes, cX12_lakes, 6, none, [], tX12_lakes, 13, 0, 13, 0, 0, 0)) (oc := (fun a => (.inl none, a) : zM → zO)) (a := a) rfl (Nat.le_of_ble_eq_true rfl) (fun G R => ?_) ha
  unfold f_X12_lakes
  refine zk_st R 1 1 [some (.inr (13, 0)), none, none, none, none, none] [.inr (13, 0)] m rfl ⟨trivial, trivial⟩ ?_
  refine zk_call R (fun _ => none) id rfl (r_X12_looks (Nat.le_of_ble_eq_true rfl)) (fun b hb => w_X12_looks d 0 m b hb) (fun r1 => ?_)
  refine zk_st R 2 6 [some (.inr (13, 0)), some (.inl (.int (0 : Int32))), none, none, none, none] [] r1 rfl ⟨trivial, trivial, trivial⟩ ?_
  refine zk_mask R [true, true, false, false, false, false] rfl ?_
  exact w_X12_lakes_6 d k R zF (0 : Int32) r1
theorem r_X12_levelByPools {i : Nat} {t : List zA} (h : i < zN 13) : z_rcv zN (zKD 199) (.inr (13, i) :: t) := by
  rw [show zKD 199 = 13 from rfl]
  exact ⟨rfl, h⟩
noncomputable def f_X12_levelByPools_25 : Nat → Int32 → Int32 → zM → Option (Int32 × zM)
  | 0, _, _, _ => none
  | j + 1, x1, x2, m =>
    if (m.1 13 0 21) ≤ x2 then
      Option.bind (f_X12_height x1 m) fun r2 =>
      some (r2, m)
    else
      z_gd (z_inb x2 (z_alen 21)) <| if 0 ≤ (m.1 21 5 (Int32.toNatClampNeg x2)) then
        f_X12_levelByPools_25 j x1 (x2 + (1 : Int32)) m
      else
        z_gd (z_inb x2 (z_alen 31)) <| if (lg_cmp ((z_shr (m.2.1 31 3 (Int32.toNatClampNeg x2)) x1) &&& (1 : Int64)) (1 : Int64)) = 0 then
          z_gd (z_inb x2 (z_alen 21)) <| some (((m.1 21 4 (Int32.toNatClampNeg x2)) + (1 : Int32)), m)
        else
          f_X12_levelByPools_25 j x1 (x2 + (1 : Int32)) m
noncomputable def f_X12_levelByPools (x1 : Int32) (m : zM) : Option (Int32 × zM) :=
  Option.bind (f_X12_isCell x1 (z_sI m 13 0 0 (0 : Int32))) fun r1 =>
  if (z_bi r1) = 0 then
    Option.bind (f_X12_raises (1 : Int32) (z_sI m 13 0 0 (0 : Int32))) fun r3 =>
    some (r3.1, r3.2)
  else
    Option.bind (f_X12_depressions (z_sI m 13 0 0 (0 : Int32))) fun r4 =>
    f_X12_levelByPools_25 zF x1 (0 : Int32) r4
theorem w_X12_levelByPools_25 (d k : Nat) {o : zO} {G : Nat → Nat → zL → List zA → zM → Prop} (R : zRu (d + 3) tX12_levelByPools 0 (z_hf []) o G) : ∀ (j : Nat) (x1 : Int32) (x2 : Int32) (m : zM), zLK G (fun a => (z_cI a.1, a.2) : Int32 × zM → zO) o (f_X12_levelByPools_25 j x1 x2 m) some (k + 0) 25 [some (.inr (13, 0)), some (.inl (.int x1)), some (.inl (.int x2))] [] m := by
  intro j
  induction j with
  | zero =>
    intro _ _ _
    exact zk_none
  | succ j ih =>
    intro x1 x2 m
    unfold f_X12_levelByPools_25
    refine zk_st R 3 30 [some (.inr (13, 0)), some (.inl (.int x1)), some (.inl (.int x2))] [.inl (.int (m.1 13 0 21)), .inl (.int x2)] m rfl ⟨trivial, trivial, (Nat.le_of_ble_eq_true rfl), trivial⟩ ?_
    refine zk_br R rfl (fun _ => ?_) (fun _ => ?_)
    · refine zk_st R 2 74 [some (.inr (13, 0)), some (.inl (.int x1)), some (.inl (.int x2))] [.inl (.int x1), .inr (13, 0)] m rfl ⟨trivial, trivial, trivial⟩ ?_
      refine zk_call R (fun b => some (.inl (.int b))) (fun _ => m) rfl (r_X12_height (Nat.le_of_ble_eq_true rfl)) (fun b hb => w_X12_height (d + 2) 0 x1 m b hb) (fun r2 => ?_)
      exact zk_ret R rfl trivial rfl
    · refine zk_gd fun e3 => ?_
      refine zk_st R 4 39 [some (.inr (13, 0)), some (.inl (.int x1)), some (.inl (.int x2))] [.inl (.int (m.1 21 5 (Int32.toNatClampNeg x2)))] m rfl ⟨trivial, (Nat.le_of_ble_eq_true rfl), trivial, ⟨(Nat.le_of_ble_eq_true rfl), z_inb_in e3⟩, trivial⟩ ?_
      refine zk_br R rfl (fun _ => ?_) (fun _ => ?_)
      · refine zk_st R 2 25 [some (.inr (13, 0)), some (.inl (.int x1)), some (.inl (.int (x2 + (1 : Int32))))] [] m rfl ⟨trivial, trivial, trivial⟩ ?_
        refine zk_mask R [true, true, true] rfl ?_
        exact ih x1 (x2 + (1 : Int32)) m
      · refine zk_gd fun e5 => ?_
        refine zk_st R 10 54 [some (.inr (13, 0)), some (.inl (.int x1)), some (.inl (.int x2))] [.inl (.int (lg_cmp ((z_shr (m.2.1 31 3 (Int32.toNatClampNeg x2)) x1) &&& (1 : Int64)) (1 : Int64)))] m rfl ⟨trivial, (Nat.le_of_ble_eq_true rfl), trivial, ⟨(Nat.le_of_ble_eq_true rfl), z_inb_in e5⟩, trivial, trivial, trivial, trivial, trivial, trivial, trivial⟩ ?_
        refine zk_br R rfl (fun _ => ?_) (fun _ => ?_)
        · refine zk_gd fun e7 => ?_
          refine zk_st R 6 65 [some (.inr (13, 0)), some (.inl (.int x1)), some (.inl (.int x2))] [.inl (.int ((m.1 21 4 (Int32.toNatClampNeg x2)) + (1 : Int32)))] m rfl ⟨trivial, (Nat.le_of_ble_eq_true rfl), trivial, ⟨(Nat.le_of_ble_eq_true rfl), z_inb_in e7⟩, trivial, trivial, trivial⟩ ?_
          exact zk_ret R rfl trivial rfl
        · refine zk_st R 2 25 [some (.inr (13, 0)), some (.inl (.int x1)), some (.inl (.int (x2 + (1 : Int32))))] [] m rfl ⟨trivial, trivial, trivial⟩ ?_
          refine zk_mask R [true, true, true] rfl ?_
          exact ih x1 (x2 + (1 : Int32)) m
theorem w_X12_levelByPools (d k : Nat) (x1 : Int32) (m : zM) (a : Int32 × zM) (ha : f_X12_levelByPools x1 m = some a) : z_Ev z_MT zN zRf (d + 4) (k + 0) 199 [.inr (13, 0), .inl (.int x1)] m ((fun a => (z_cI a.1, a.2) : Int32 × zM → zO) a) := by
  refine zk_top (I := (yX12_levelByPools, cX12_levelByPools, 3, (some .int), [], tX12_levelByPools, 13, 1, 13, 0, 0, 0)) (oc := (fun a => (z_cI a.1, a.2) : Int32 × zM → zO)) (a := a) rfl (Nat.le_of_ble_eq_true rfl) (fun G R => ?_) ha
  unfold f_X12_levelByPools
  refine zk_st R 5 7 [some (.inr (13, 0)), some (.inl (.int x1)), none] [.inl (.int x1), .inr (13, 0)] (z_sI m 13 0 0 (0 : Int32)) rfl ⟨trivial, trivial, (Nat.le_of_ble_eq_true rfl), trivial, trivial, trivial⟩ ?_
  refine zk_call R (fun b => some (.inl (.int (z_bi b)))) (fun _ => (z_sI m 13 0 0 (0 : Int32))) rfl (r_X12_isCell (Nat.le_of_ble_eq_true rfl)) (fun b hb => w_X12_isCell (d + 1) 0 x1 (z_sI m 13 0 0 (0 : Int32)) b hb) (fun r1 => ?_)
  refine zk_br R rfl (fun _ => ?_) (fun _ => ?_)
  · refine zk_st R 2 15 [some (.inr (13, 0)), some (.inl (.int x1)), none] [.inl (.int (1 : Int32)), .inr (13, 0)] (z_sI m 13 0 0 (0 : Int32)) rfl ⟨trivial, trivial, trivial⟩ ?_
    refine zk_call R (fun b => some (.inl (.int b.1))) (fun b => b.2) rfl (r_X12_raises (Nat.le_of_ble_eq_true rfl)) (fun b hb => w_X12_raises (d + 2) 0 (1 : Int32) (z_sI m 13 0 0 (0 : Int32)) b hb) (fun r3 => ?_)
    exact zk_ret R rfl trivial rfl
  · refine zk_st R 1 20 [some (.inr (13, 0)), some (.inl (.int x1)), none] [.inr (13, 0)] (z_sI m 13 0 0 (0 : Int32)) rfl ⟨trivial, trivial⟩ ?_
    refine zk_call R (fun _ => none) id rfl (r_X12_depressions (Nat.le_of_ble_eq_true rfl)) (fun b hb => w_X12_depressions d 0 (z_sI m 13 0 0 (0 : Int32)) b hb) (fun r4 => ?_)
    refine zk_st R 2 25 [some (.inr (13, 0)), some (.inl (.int x1)), some (.inl (.int (0 : Int32)))] [] r4 rfl ⟨trivial, trivial, trivial⟩ ?_
    refine zk_mask R [true, true, true] rfl ?_
    exact w_X12_levelByPools_25 d k R zF x1 (0 : Int32) r4
