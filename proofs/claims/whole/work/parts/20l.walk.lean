theorem r_X12_pools {i : Nat} {t : List zA} (h : i < zN 13) : z_rcv zN (zKD 233) (.inr (13, i) :: t) := by
  rw [show zKD 233 = 13 from rfl]
  exact ⟨rfl, h⟩
noncomputable def f_X12_pools_35 : Nat → Int32 → Int64 → Int32 → zM → Option (Int64 × zM)
  | 0, _, _, _, _ => none
  | j + 1, x1, x2, x4, m =>
    Option.bind (f_X12_cells m) fun r1 =>
    if r1 ≤ x4 then
      some (x2, m)
    else
      Option.bind (f_X12_height x4 m) fun r3 =>
      if r3 ≤ x1 then
        Option.bind (f_X12_land x4 (0 : Int32) x1 m) fun r5 =>
        Option.bind (f_X12_isPool r5) fun r6 =>
        if (z_bi r6) = 0 then
          f_X12_pools_35 j x1 x2 (x4 + (1 : Int32)) r5
        else
          f_X12_pools_35 j x1 (x2 ||| (z_shl (1 : Int64) x4)) (x4 + (1 : Int32)) r5
      else
        f_X12_pools_35 j x1 x2 (x4 + (1 : Int32)) m
noncomputable def f_X12_pools_18 (x1 : Int32) (s1 : Int32) (m : zM) : Option (Int64 × zM) :=
  if ((z_sI m 13 0 0 s1).1 13 0 0) ≤ 0 then
    f_X12_pools_35 zF x1 (0 : Int64) (0 : Int32) (z_sI m 13 0 0 s1)
  else
    some ((0 : Int64), (z_sI m 13 0 0 s1))
noncomputable def f_X12_pools (x1 : Int32) (m : zM) : Option (Int64 × zM) :=
  Option.bind (f_X12_in (Int32.toInt64 x1) (0 : Int64) (99 : Int64) m) fun r1 =>
  if (z_bi r1) = 0 then
    f_X12_pools_18 x1 (1 : Int32) m
  else
    f_X12_pools_18 x1 (0 : Int32) m
theorem w_X12_pools_35 (d k : Nat) {o : zO} {G : Nat → Nat → zL → List zA → zM → Prop} (R : zRu (d + 2) tX12_pools 0 (z_hf []) o G) : ∀ (j : Nat) (x1 : Int32) (x2 : Int64) (x4 : Int32) (m : zM), zLK G (fun a => (z_cL a.1, a.2) : Int64 × zM → zO) o (f_X12_pools_35 j x1 x2 x4 m) some (k + 0) 35 [some (.inr (13, 0)), some (.inl (.int x1)), some (.inl (.long x2)), none, some (.inl (.int x4))] [] m := by
  intro j
  induction j with
  | zero =>
    intro _ _ _ _
    exact zk_none
  | succ j ih =>
    intro x1 x2 x4 m
    unfold f_X12_pools_35
    refine zk_st R 2 38 [some (.inr (13, 0)), some (.inl (.int x1)), some (.inl (.long x2)), none, some (.inl (.int x4))] [.inr (13, 0), .inl (.int x4)] m rfl ⟨trivial, trivial, trivial⟩ ?_
    refine zk_call R (fun b => some (.inl (.int b))) (fun _ => m) rfl (r_X12_cells (Nat.le_of_ble_eq_true rfl)) (fun b hb => w_X12_cells (d + 1) 0 m b hb) (fun r1 => ?_)
    refine zk_br R rfl (fun _ => ?_) (fun _ => ?_)
    · refine zk_st R 1 86 [some (.inr (13, 0)), some (.inl (.int x1)), some (.inl (.long x2)), none, some (.inl (.int x4))] [.inl (.long x2)] m rfl ⟨trivial, trivial⟩ ?_
      exact zk_ret R rfl trivial rfl
    · refine zk_st R 2 47 [some (.inr (13, 0)), some (.inl (.int x1)), some (.inl (.long x2)), none, some (.inl (.int x4))] [.inl (.int x4), .inr (13, 0)] m rfl ⟨trivial, trivial, trivial⟩ ?_
      refine zk_call R (fun b => some (.inl (.int b))) (fun _ => m) rfl (r_X12_height (Nat.le_of_ble_eq_true rfl)) (fun b hb => w_X12_height (d + 1) 0 x4 m b hb) (fun r3 => ?_)
      refine zk_st R 1 51 [some (.inr (13, 0)), some (.inl (.int x1)), some (.inl (.long x2)), none, some (.inl (.int x4))] [.inl (.int x1), .inl (.int r3)] m rfl ⟨trivial, trivial⟩ ?_
      refine zk_br R rfl (fun _ => ?_) (fun _ => ?_)
      · refine zk_st R 4 62 [some (.inr (13, 0)), some (.inl (.int x1)), some (.inl (.long x2)), none, some (.inl (.int x4))] [.inl (.int x1), .inl (.int (0 : Int32)), .inl (.int x4), .inr (13, 0)] m rfl ⟨trivial, trivial, trivial, trivial, trivial⟩ ?_
        refine zk_call R (fun _ => none) id rfl (r_X12_land (Nat.le_of_ble_eq_true rfl)) (fun b hb => w_X12_land d 0 x4 (0 : Int32) x1 m b hb) (fun r5 => ?_)
        refine zk_st R 1 66 [some (.inr (13, 0)), some (.inl (.int x1)), some (.inl (.long x2)), none, some (.inl (.int x4))] [.inr (13, 0)] r5 rfl ⟨trivial, trivial⟩ ?_
        refine zk_call R (fun b => some (.inl (.int (z_bi b)))) (fun _ => r5) rfl (r_X12_isPool (Nat.le_of_ble_eq_true rfl)) (fun b hb => w_X12_isPool d 0 r5 b hb) (fun r6 => ?_)
        refine zk_br R rfl (fun _ => ?_) (fun _ => ?_)
        · refine zk_st R 2 35 [some (.inr (13, 0)), some (.inl (.int x1)), some (.inl (.long x2)), none, some (.inl (.int (x4 + (1 : Int32))))] [] r5 rfl ⟨trivial, trivial, trivial⟩ ?_
          refine zk_mask R [true, true, true, false, true] rfl ?_
          exact ih x1 x2 (x4 + (1 : Int32)) r5
        · refine zk_st R 8 35 [some (.inr (13, 0)), some (.inl (.int x1)), some (.inl (.long (x2 ||| (z_shl (1 : Int64) x4)))), none, some (.inl (.int (x4 + (1 : Int32))))] [] r5 rfl ⟨trivial, trivial, trivial, trivial, trivial, trivial, trivial, trivial, trivial⟩ ?_
          refine zk_mask R [true, true, true, false, true] rfl ?_
          exact ih x1 (x2 ||| (z_shl (1 : Int64) x4)) (x4 + (1 : Int32)) r5
      · refine zk_st R 3 35 [some (.inr (13, 0)), some (.inl (.int x1)), some (.inl (.long x2)), none, some (.inl (.int (x4 + (1 : Int32))))] [] m rfl ⟨trivial, trivial, trivial, trivial⟩ ?_
        refine zk_mask R [true, true, true, false, true] rfl ?_
        exact ih x1 x2 (x4 + (1 : Int32)) m
theorem w_X12_pools_18 (d k : Nat) {o : zO} {G : Nat → Nat → zL → List zA → zM → Prop} (R : zRu (d + 2) tX12_pools 0 (z_hf []) o G) (x1 : Int32) (s1 : Int32) (m : zM) : zLK G (fun a => (z_cL a.1, a.2) : Int64 × zM → zO) o (f_X12_pools_18 x1 s1 m) some (k + 0) 18 [some (.inr (13, 0)), some (.inl (.int x1)), none, none, none] [.inl (.int s1), .inr (13, 0)] m := by
  unfold f_X12_pools_18
  refine zk_st R 3 25 [some (.inr (13, 0)), some (.inl (.int x1)), none, none, none] [.inl (.int ((z_sI m 13 0 0 s1).1 13 0 0))] (z_sI m 13 0 0 s1) rfl ⟨(Nat.le_of_ble_eq_true rfl), trivial, (Nat.le_of_ble_eq_true rfl), trivial⟩ ?_
  refine zk_br R rfl (fun _ => ?_) (fun _ => ?_)
  · refine zk_st R 4 35 [some (.inr (13, 0)), some (.inl (.int x1)), some (.inl (.long (0 : Int64))), none, some (.inl (.int (0 : Int32)))] [] (z_sI m 13 0 0 s1) rfl ⟨trivial, trivial, trivial, trivial, trivial⟩ ?_
    refine zk_mask R [true, true, true, false, true] rfl ?_
    exact w_X12_pools_35 d k R zF x1 (0 : Int64) (0 : Int32) (z_sI m 13 0 0 s1)
  · refine zk_st R 1 29 [some (.inr (13, 0)), some (.inl (.int x1)), none, none, none] [.inl (.long (0 : Int64))] (z_sI m 13 0 0 s1) rfl ⟨trivial, trivial⟩ ?_
    exact zk_ret R rfl trivial rfl
theorem w_X12_pools (d k : Nat) (x1 : Int32) (m : zM) (a : Int64 × zM) (ha : f_X12_pools x1 m = some a) : z_Ev z_MT zN zRf (d + 3) (k + 0) 233 [.inr (13, 0), .inl (.int x1)] m ((fun a => (z_cL a.1, a.2) : Int64 × zM → zO) a) := by
  refine zk_top (I := (yX12_pools, cX12_pools, 5, (some .long), [], tX12_pools, 13, 1, 13, 0, 0, 0)) (oc := (fun a => (z_cL a.1, a.2) : Int64 × zM → zO)) (a := a) rfl (Nat.le_of_ble_eq_true rfl) (fun G R => ?_) ha
  unfold f_X12_pools
  refine zk_st R 5 7 [some (.inr (13, 0)), some (.inl (.int x1)), none, none, none] [.inl (.long (99 : Int64)), .inl (.long (0 : Int64)), .inl (.long (Int32.toInt64 x1)), .inr (13, 0)] m rfl ⟨trivial, trivial, trivial, trivial, trivial, trivial⟩ ?_
  refine zk_call R (fun b => some (.inl (.int (z_bi b)))) (fun _ => m) rfl (r_X12_in) (fun b hb => w_X12_in (d + 1) 0 (Int32.toInt64 x1) (0 : Int64) (99 : Int64) m b hb) (fun r1 => ?_)
  refine zk_br R rfl (fun _ => ?_) (fun _ => ?_)
  · refine zk_st R 1 18 [some (.inr (13, 0)), some (.inl (.int x1)), none, none, none] [.inl (.int (1 : Int32)), .inr (13, 0)] m rfl ⟨trivial, trivial⟩ ?_
    refine zk_mask R [true, true, false, false, false] rfl ?_
    exact w_X12_pools_18 d k R x1 (1 : Int32) m
  · refine zk_st R 2 18 [some (.inr (13, 0)), some (.inl (.int x1)), none, none, none] [.inl (.int (0 : Int32)), .inr (13, 0)] m rfl ⟨trivial, trivial, trivial⟩ ?_
    refine zk_mask R [true, true, false, false, false] rfl ?_
    exact w_X12_pools_18 d k R x1 (0 : Int32) m
theorem r_X12_contour {i : Nat} {t : List zA} (h : i < zN 13) : z_rcv zN (zKD 235) (.inr (13, i) :: t) := by
  rw [show zKD 235 = 13 from rfl]
  exact ⟨rfl, h⟩
noncomputable def f_X12_contour_29 (m : zM) : Option (Int32 × zM) :=
  Option.bind (f_X12_raises (1 : Int32) m) fun r1 =>
  some (r1.1, r1.2)
noncomputable def f_X12_contour_221 (c43 : Int32 → Int32 → Int32 → Int64 → Int32 → zM → Option (Int32 × zM)) : Nat → Int32 → Int32 → Int32 → Int64 → Int32 → Int32 → Int32 → zM → Option (Int32 × zM)
  | 0, _, _, _, _, _, _, _, _ => none
  | j + 1, x1, x2, x3, x4, x6, x8, x9, m =>
    Option.bind (f_X12_cells m) fun r1 =>
    if r1 ≤ x9 then
      if x8 = 0 then
        c43 x1 x2 x3 x4 (x6 + (1 : Int32)) m
      else
        c43 x1 x2 (x3 + (1 : Int32)) x4 (x6 + (1 : Int32)) m
    else
      if x2 = (3 : Int32) then
        if (lg_cmp ((z_shr (m.2.1 13 0 20) x9) &&& (1 : Int64)) (1 : Int64)) = 0 then
          Option.bind (f_X12_isAtEdge x9 m) fun r6 =>
          if (z_bi r6) = 0 then
            f_X12_contour_221 c43 j x1 x2 x3 x4 x6 x8 (x9 + (1 : Int32)) m
          else
            f_X12_contour_221 c43 j x1 x2 x3 x4 x6 (0 : Int32) (x9 + (1 : Int32)) m
        else
          f_X12_contour_221 c43 j x1 x2 x3 x4 x6 x8 (x9 + (1 : Int32)) m
      else
        f_X12_contour_221 c43 j x1 x2 x3 x4 x6 x8 (x9 + (1 : Int32)) m
noncomputable def f_X12_contour_203 (c43 : Int32 → Int32 → Int32 → Int64 → Int32 → zM → Option (Int32 × zM)) (x1 : Int32) (x2 : Int32) (x3 : Int32) (x4 : Int64) (x6 : Int32) (s1 : Int32) (s2 : Int32) (s3 : Int32) (m : zM) : Option (Int32 × zM) :=
  Option.bind (f_X12_land s1 s2 s3 m) fun r1 =>
  f_X12_contour_221 c43 zF x1 x2 x3 (x4 ||| (r1.2.1 13 0 20)) x6 (1 : Int32) (0 : Int32) r1
noncomputable def f_X12_contour_190 (c43 : Int32 → Int32 → Int32 → Int64 → Int32 → zM → Option (Int32 × zM)) (x1 : Int32) (x2 : Int32) (x3 : Int32) (x4 : Int64) (x6 : Int32) (x7 : Int32) (s1 : Int32) (s2 : Int32) (m : zM) : Option (Int32 × zM) :=
  if x7 = 0 then
    f_X12_contour_203 c43 x1 x2 x3 x4 x6 s1 s2 (x1 - (1 : Int32)) m
  else
    f_X12_contour_203 c43 x1 x2 x3 x4 x6 s1 s2 (99 : Int32) m
noncomputable def f_X12_contour_159 (c43 : Int32 → Int32 → Int32 → Int64 → Int32 → zM → Option (Int32 × zM)) (x1 : Int32) (x2 : Int32) (x3 : Int32) (x4 : Int64) (x6 : Int32) (x7 : Int32) (s0 : Int32) (s1 : Int32) (m : zM) : Option (Int32 × zM) :=
  if s0 = s1 then
    if (lg_cmp ((z_shr x4 x6) &&& (1 : Int64)) (1 : Int64)) = 0 then
      c43 x1 x2 x3 x4 (x6 + (1 : Int32)) m
    else
      if x7 = 0 then
        f_X12_contour_190 c43 x1 x2 x3 x4 x6 x7 x6 (0 : Int32) m
      else
        f_X12_contour_190 c43 x1 x2 x3 x4 x6 x7 x6 x1 m
  else
    c43 x1 x2 x3 x4 (x6 + (1 : Int32)) m
noncomputable def f_X12_contour_141 (c43 : Int32 → Int32 → Int32 → Int64 → Int32 → zM → Option (Int32 × zM)) (x1 : Int32) (x2 : Int32) (x3 : Int32) (x4 : Int64) (x6 : Int32) (x7 : Int32) (m : zM) : Option (Int32 × zM) :=
  z_gd (z_nz (2 : Int32)) <| if (z_irem x2 (2 : Int32)) = 0 then
    c43 x1 x2 x3 x4 (x6 + (1 : Int32)) m
  else
    if x2 = (1 : Int32) then
      f_X12_contour_159 c43 x1 x2 x3 x4 x6 x7 x7 (1 : Int32) m
    else
      f_X12_contour_159 c43 x1 x2 x3 x4 x6 x7 x7 (0 : Int32) m
noncomputable def f_X12_contour_127 (c43 : Int32 → Int32 → Int32 → Int64 → Int32 → zM → Option (Int32 × zM)) (c89 : Int32 → Int32 → Int32 → Int64 → Int32 → Int32 → Int32 → zM → Option (Int32 × zM)) (x1 : Int32) (x2 : Int32) (x3 : Int32) (x4 : Int64) (x6 : Int32) (x7 : Int32) (x8 : Int32) (s0 : Int32) (m : zM) : Option (Int32 × zM) :=
  if s0 = x7 then
    c89 x1 x2 x3 x4 x6 x7 (x8 + (1 : Int32)) m
  else
    c89 x1 x2 (x3 + (1 : Int32)) x4 x6 x7 (x8 + (1 : Int32)) m
noncomputable def f_X12_contour_89 (c43 : Int32 → Int32 → Int32 → Int64 → Int32 → zM → Option (Int32 × zM)) : Nat → Int32 → Int32 → Int32 → Int64 → Int32 → Int32 → Int32 → zM → Option (Int32 × zM)
  | 0, _, _, _, _, _, _, _, _ => none
  | j + 1, x1, x2, x3, x4, x6, x7, x8, m =>
    if (3 : Int32) ≤ x8 then
      f_X12_contour_141 c43 x1 x2 x3 x4 x6 x7 m
    else
      Option.bind (f_X12_next x6 x8 m) fun r2 =>
      if r2 < 0 then
        f_X12_contour_89 c43 j x1 x2 x3 x4 x6 x7 (x8 + (1 : Int32)) m
      else
        Option.bind (f_X12_next x6 x8 m) fun r4 =>
        Option.bind (f_X12_height r4 m) fun r5 =>
        if r5 < x1 then
          f_X12_contour_127 c43 (f_X12_contour_89 c43 j) x1 x2 x3 x4 x6 x7 x8 (0 : Int32) m
        else
          f_X12_contour_127 c43 (f_X12_contour_89 c43 j) x1 x2 x3 x4 x6 x7 x8 (1 : Int32) m
noncomputable def f_X12_contour_81 (c43 : Int32 → Int32 → Int32 → Int64 → Int32 → zM → Option (Int32 × zM)) (x1 : Int32) (x2 : Int32) (x3 : Int32) (x4 : Int64) (x6 : Int32) (x7 : Int32) (m : zM) : Option (Int32 × zM) :=
  if x2 = (2 : Int32) then
    f_X12_contour_89 c43 zF x1 x2 x3 x4 x6 x7 (1 : Int32) m
  else
    f_X12_contour_141 c43 x1 x2 x3 x4 x6 x7 m
noncomputable def f_X12_contour_67 (c43 : Int32 → Int32 → Int32 → Int64 → Int32 → zM → Option (Int32 × zM)) (x1 : Int32) (x2 : Int32) (x3 : Int32) (x4 : Int64) (x6 : Int32) (s0 : Int32) (m : zM) : Option (Int32 × zM) :=
  if x2 = 0 then
    if s0 = 0 then
      f_X12_contour_81 c43 x1 x2 x3 x4 x6 s0 m
    else
      f_X12_contour_81 c43 x1 x2 (x3 + (1 : Int32)) x4 x6 s0 m
  else
    f_X12_contour_81 c43 x1 x2 x3 x4 x6 s0 m
noncomputable def f_X12_contour_43 : Nat → Int32 → Int32 → Int32 → Int64 → Int32 → zM → Option (Int32 × zM)
  | 0, _, _, _, _, _, _ => none
  | j + 1, x1, x2, x3, x4, x6, m =>
    Option.bind (f_X12_cells m) fun r1 =>
    if r1 ≤ x6 then
      some (x3, m)
    else
      Option.bind (f_X12_height x6 m) fun r3 =>
      if r3 < x1 then
        f_X12_contour_67 (f_X12_contour_43 j) x1 x2 x3 x4 x6 (0 : Int32) m
      else
        f_X12_contour_67 (f_X12_contour_43 j) x1 x2 x3 x4 x6 (1 : Int32) m
noncomputable def f_X12_contour (x1 : Int32) (x2 : Int32) (m : zM) : Option (Int32 × zM) :=
  Option.bind (f_X12_in (Int32.toInt64 x1) (1 : Int64) (99 : Int64) (z_sI m 13 0 0 (0 : Int32))) fun r1 =>
  if (z_bi r1) = 0 then
    f_X12_contour_29 (z_sI m 13 0 0 (0 : Int32))
  else
    Option.bind (f_X12_in (Int32.toInt64 x2) (0 : Int64) (3 : Int64) (z_sI m 13 0 0 (0 : Int32))) fun r3 =>
    if (z_bi r3) = 0 then
      f_X12_contour_29 (z_sI m 13 0 0 (0 : Int32))
    else
      f_X12_contour_43 zF x1 x2 (0 : Int32) (0 : Int64) (0 : Int32) (z_sI m 13 0 0 (0 : Int32))
theorem w_X12_contour_29 (d k : Nat) {o : zO} {G : Nat → Nat → zL → List zA → zM → Prop} (R : zRu (d + 2) tX12_contour 0 (z_hf []) o G) (m : zM) : zLK G (fun a => (z_cI a.1, a.2) : Int32 × zM → zO) o (f_X12_contour_29 m) some (k + 0) 29 [some (.inr (13, 0)), none, none, none, none, none, none, none, none, none] [] m := by
  unfold f_X12_contour_29
  refine zk_st R 2 31 [some (.inr (13, 0)), none, none, none, none, none, none, none, none, none] [.inl (.int (1 : Int32)), .inr (13, 0)] m rfl ⟨trivial, trivial, trivial⟩ ?_
  refine zk_call R (fun b => some (.inl (.int b.1))) (fun b => b.2) rfl (r_X12_raises (Nat.le_of_ble_eq_true rfl)) (fun b hb => w_X12_raises (d + 1) 0 (1 : Int32) m b hb) (fun r1 => ?_)
  exact zk_ret R rfl trivial rfl
theorem w_X12_contour_221 (d k : Nat) {o : zO} {G : Nat → Nat → zL → List zA → zM → Prop} (R : zRu (d + 2) tX12_contour 0 (z_hf []) o G) (c43 : Int32 → Int32 → Int32 → Int64 → Int32 → zM → Option (Int32 × zM)) (hc43 : ∀ (x1 : Int32) (x2 : Int32) (x3 : Int32) (x4 : Int64) (x6 : Int32) (m : zM), zLK G (fun a => (z_cI a.1, a.2) : Int32 × zM → zO) o (c43 x1 x2 x3 x4 x6 m) some (k + 0) 43 [some (.inr (13, 0)), some (.inl (.int x1)), some (.inl (.int x2)), some (.inl (.int x3)), some (.inl (.long x4)), none, some (.inl (.int x6)), none, none, none] [] m) : ∀ (j : Nat) (x1 : Int32) (x2 : Int32) (x3 : Int32) (x4 : Int64) (x6 : Int32) (x8 : Int32) (x9 : Int32) (m : zM), zLK G (fun a => (z_cI a.1, a.2) : Int32 × zM → zO) o (f_X12_contour_221 c43 j x1 x2 x3 x4 x6 x8 x9 m) some (k + 0) 221 [some (.inr (13, 0)), some (.inl (.int x1)), some (.inl (.int x2)), some (.inl (.int x3)), some (.inl (.long x4)), none, some (.inl (.int x6)), none, some (.inl (.int x8)), some (.inl (.int x9))] [] m := by
  intro j
  induction j with
  | zero =>
    intro _ _ _ _ _ _ _ _
    exact zk_none
  | succ j ih =>
    intro x1 x2 x3 x4 x6 x8 x9 m
    unfold f_X12_contour_221
    refine zk_st R 2 224 [some (.inr (13, 0)), some (.inl (.int x1)), some (.inl (.int x2)), some (.inl (.int x3)), some (.inl (.long x4)), none, some (.inl (.int x6)), none, some (.inl (.int x8)), some (.inl (.int x9))] [.inr (13, 0), .inl (.int x9)] m rfl ⟨trivial, trivial, trivial⟩ ?_
    refine zk_call R (fun b => some (.inl (.int b))) (fun _ => m) rfl (r_X12_cells (Nat.le_of_ble_eq_true rfl)) (fun b hb => w_X12_cells (d + 1) 0 m b hb) (fun r1 => ?_)
    refine zk_br R rfl (fun _ => ?_) (fun _ => ?_)
    · refine zk_st R 1 269 [some (.inr (13, 0)), some (.inl (.int x1)), some (.inl (.int x2)), some (.inl (.int x3)), some (.inl (.long x4)), none, some (.inl (.int x6)), none, some (.inl (.int x8)), some (.inl (.int x9))] [.inl (.int x8)] m rfl ⟨trivial, trivial⟩ ?_
      refine zk_br R rfl (fun _ => ?_) (fun _ => ?_)
      · refine zk_st R 2 43 [some (.inr (13, 0)), some (.inl (.int x1)), some (.inl (.int x2)), some (.inl (.int x3)), some (.inl (.long x4)), none, some (.inl (.int (x6 + (1 : Int32)))), none, some (.inl (.int x8)), some (.inl (.int x9))] [] m rfl ⟨trivial, trivial, trivial⟩ ?_
        refine zk_mask R [true, true, true, true, true, false, true, false, false, false] rfl ?_
        exact hc43 x1 x2 x3 x4 (x6 + (1 : Int32)) m
      · refine zk_st R 3 43 [some (.inr (13, 0)), some (.inl (.int x1)), some (.inl (.int x2)), some (.inl (.int (x3 + (1 : Int32)))), some (.inl (.long x4)), none, some (.inl (.int (x6 + (1 : Int32)))), none, some (.inl (.int x8)), some (.inl (.int x9))] [] m rfl ⟨trivial, trivial, trivial, trivial⟩ ?_
        refine zk_mask R [true, true, true, true, true, false, true, false, false, false] rfl ?_
        exact hc43 x1 x2 (x3 + (1 : Int32)) x4 (x6 + (1 : Int32)) m
    · refine zk_st R 2 232 [some (.inr (13, 0)), some (.inl (.int x1)), some (.inl (.int x2)), some (.inl (.int x3)), some (.inl (.long x4)), none, some (.inl (.int x6)), none, some (.inl (.int x8)), some (.inl (.int x9))] [.inl (.int (3 : Int32)), .inl (.int x2)] m rfl ⟨trivial, trivial, trivial⟩ ?_
      refine zk_br R rfl (fun _ => ?_) (fun _ => ?_)
      · refine zk_st R 8 246 [some (.inr (13, 0)), some (.inl (.int x1)), some (.inl (.int x2)), some (.inl (.int x3)), some (.inl (.long x4)), none, some (.inl (.int x6)), none, some (.inl (.int x8)), some (.inl (.int x9))] [.inl (.int (lg_cmp ((z_shr (m.2.1 13 0 20) x9) &&& (1 : Int64)) (1 : Int64)))] m rfl ⟨trivial, (Nat.le_of_ble_eq_true rfl), trivial, trivial, trivial, trivial, trivial, trivial, trivial⟩ ?_
        refine zk_br R rfl (fun _ => ?_) (fun _ => ?_)
        · refine zk_st R 2 252 [some (.inr (13, 0)), some (.inl (.int x1)), some (.inl (.int x2)), some (.inl (.int x3)), some (.inl (.long x4)), none, some (.inl (.int x6)), none, some (.inl (.int x8)), some (.inl (.int x9))] [.inl (.int x9), .inr (13, 0)] m rfl ⟨trivial, trivial, trivial⟩ ?_
          refine zk_call R (fun b => some (.inl (.int (z_bi b)))) (fun _ => m) rfl (r_X12_isAtEdge (Nat.le_of_ble_eq_true rfl)) (fun b hb => w_X12_isAtEdge d 0 x9 m b hb) (fun r6 => ?_)
          refine zk_br R rfl (fun _ => ?_) (fun _ => ?_)
          · refine zk_st R 2 221 [some (.inr (13, 0)), some (.inl (.int x1)), some (.inl (.int x2)), some (.inl (.int x3)), some (.inl (.long x4)), none, some (.inl (.int x6)), none, some (.inl (.int x8)), some (.inl (.int (x9 + (1 : Int32))))] [] m rfl ⟨trivial, trivial, trivial⟩ ?_
            refine zk_mask R [true, true, true, true, true, false, true, false, true, true] rfl ?_
            exact ih x1 x2 x3 x4 x6 x8 (x9 + (1 : Int32)) m
          · refine zk_st R 4 221 [some (.inr (13, 0)), some (.inl (.int x1)), some (.inl (.int x2)), some (.inl (.int x3)), some (.inl (.long x4)), none, some (.inl (.int x6)), none, some (.inl (.int (0 : Int32))), some (.inl (.int (x9 + (1 : Int32))))] [] m rfl ⟨trivial, trivial, trivial, trivial, trivial⟩ ?_
            refine zk_mask R [true, true, true, true, true, false, true, false, true, true] rfl ?_
            exact ih x1 x2 x3 x4 x6 (0 : Int32) (x9 + (1 : Int32)) m
        · refine zk_st R 2 221 [some (.inr (13, 0)), some (.inl (.int x1)), some (.inl (.int x2)), some (.inl (.int x3)), some (.inl (.long x4)), none, some (.inl (.int x6)), none, some (.inl (.int x8)), some (.inl (.int (x9 + (1 : Int32))))] [] m rfl ⟨trivial, trivial, trivial⟩ ?_
          refine zk_mask R [true, true, true, true, true, false, true, false, true, true] rfl ?_
          exact ih x1 x2 x3 x4 x6 x8 (x9 + (1 : Int32)) m
      · refine zk_st R 2 221 [some (.inr (13, 0)), some (.inl (.int x1)), some (.inl (.int x2)), some (.inl (.int x3)), some (.inl (.long x4)), none, some (.inl (.int x6)), none, some (.inl (.int x8)), some (.inl (.int (x9 + (1 : Int32))))] [] m rfl ⟨trivial, trivial, trivial⟩ ?_
        refine zk_mask R [true, true, true, true, true, false, true, false, true, true] rfl ?_
        exact ih x1 x2 x3 x4 x6 x8 (x9 + (1 : Int32)) m
theorem w_X12_contour_203 (d k : Nat) {o : zO} {G : Nat → Nat → zL → List zA → zM → Prop} (R : zRu (d + 2) tX12_contour 0 (z_hf []) o G) (c43 : Int32 → Int32 → Int32 → Int64 → Int32 → zM → Option (Int32 × zM)) (hc43 : ∀ (x1 : Int32) (x2 : Int32) (x3 : Int32) (x4 : Int64) (x6 : Int32) (m : zM), zLK G (fun a => (z_cI a.1, a.2) : Int32 × zM → zO) o (c43 x1 x2 x3 x4 x6 m) some (k + 0) 43 [some (.inr (13, 0)), some (.inl (.int x1)), some (.inl (.int x2)), some (.inl (.int x3)), some (.inl (.long x4)), none, some (.inl (.int x6)), none, none, none] [] m) (x1 : Int32) (x2 : Int32) (x3 : Int32) (x4 : Int64) (x6 : Int32) (s1 : Int32) (s2 : Int32) (s3 : Int32) (m : zM) : zLK G (fun a => (z_cI a.1, a.2) : Int32 × zM → zO) o (f_X12_contour_203 c43 x1 x2 x3 x4 x6 s1 s2 s3 m) some (k + 0) 203 [some (.inr (13, 0)), some (.inl (.int x1)), some (.inl (.int x2)), some (.inl (.int x3)), some (.inl (.long x4)), none, some (.inl (.int x6)), none, none, none] [.inl (.int s3), .inl (.int s2), .inl (.int s1), .inr (13, 0)] m := by
  unfold f_X12_contour_203
  refine zk_call R (fun _ => none) id rfl (r_X12_land (Nat.le_of_ble_eq_true rfl)) (fun b hb => w_X12_land d 0 s1 s2 s3 m b hb) (fun r1 => ?_)
  refine zk_st R 9 221 [some (.inr (13, 0)), some (.inl (.int x1)), some (.inl (.int x2)), some (.inl (.int x3)), some (.inl (.long (x4 ||| (r1.2.1 13 0 20)))), none, some (.inl (.int x6)), none, some (.inl (.int (1 : Int32))), some (.inl (.int (0 : Int32)))] [] r1 rfl ⟨trivial, trivial, (Nat.le_of_ble_eq_true rfl), trivial, trivial, trivial, trivial, trivial, trivial, trivial⟩ ?_
  refine zk_mask R [true, true, true, true, true, false, true, false, true, true] rfl ?_
  exact w_X12_contour_221 d k R c43 hc43 zF x1 x2 x3 (x4 ||| (r1.2.1 13 0 20)) x6 (1 : Int32) (0 : Int32) r1
theorem w_X12_contour_190 (d k : Nat) {o : zO} {G : Nat → Nat → zL → List zA → zM → Prop} (R : zRu (d + 2) tX12_contour 0 (z_hf []) o G) (c43 : Int32 → Int32 → Int32 → Int64 → Int32 → zM → Option (Int32 × zM)) (hc43 : ∀ (x1 : Int32) (x2 : Int32) (x3 : Int32) (x4 : Int64) (x6 : Int32) (m : zM), zLK G (fun a => (z_cI a.1, a.2) : Int32 × zM → zO) o (c43 x1 x2 x3 x4 x6 m) some (k + 0) 43 [some (.inr (13, 0)), some (.inl (.int x1)), some (.inl (.int x2)), some (.inl (.int x3)), some (.inl (.long x4)), none, some (.inl (.int x6)), none, none, none] [] m) (x1 : Int32) (x2 : Int32) (x3 : Int32) (x4 : Int64) (x6 : Int32) (x7 : Int32) (s1 : Int32) (s2 : Int32) (m : zM) : zLK G (fun a => (z_cI a.1, a.2) : Int32 × zM → zO) o (f_X12_contour_190 c43 x1 x2 x3 x4 x6 x7 s1 s2 m) some (k + 0) 190 [some (.inr (13, 0)), some (.inl (.int x1)), some (.inl (.int x2)), some (.inl (.int x3)), some (.inl (.long x4)), none, some (.inl (.int x6)), some (.inl (.int x7)), none, none] [.inl (.int s2), .inl (.int s1), .inr (13, 0)] m := by
  unfold f_X12_contour_190
  refine zk_st R 1 192 [some (.inr (13, 0)), some (.inl (.int x1)), some (.inl (.int x2)), some (.inl (.int x3)), some (.inl (.long x4)), none, some (.inl (.int x6)), some (.inl (.int x7)), none, none] [.inl (.int x7), .inl (.int s2), .inl (.int s1), .inr (13, 0)] m rfl ⟨trivial, trivial⟩ ?_
  refine zk_br R rfl (fun _ => ?_) (fun _ => ?_)
  · refine zk_st R 3 203 [some (.inr (13, 0)), some (.inl (.int x1)), some (.inl (.int x2)), some (.inl (.int x3)), some (.inl (.long x4)), none, some (.inl (.int x6)), some (.inl (.int x7)), none, none] [.inl (.int (x1 - (1 : Int32))), .inl (.int s2), .inl (.int s1), .inr (13, 0)] m rfl ⟨trivial, trivial, trivial, trivial⟩ ?_
    refine zk_mask R [true, true, true, true, true, false, true, false, false, false] rfl ?_
    exact w_X12_contour_203 d k R c43 hc43 x1 x2 x3 x4 x6 s1 s2 (x1 - (1 : Int32)) m
  · refine zk_st R 2 203 [some (.inr (13, 0)), some (.inl (.int x1)), some (.inl (.int x2)), some (.inl (.int x3)), some (.inl (.long x4)), none, some (.inl (.int x6)), some (.inl (.int x7)), none, none] [.inl (.int (99 : Int32)), .inl (.int s2), .inl (.int s1), .inr (13, 0)] m rfl ⟨trivial, trivial, trivial⟩ ?_
    refine zk_mask R [true, true, true, true, true, false, true, false, false, false] rfl ?_
    exact w_X12_contour_203 d k R c43 hc43 x1 x2 x3 x4 x6 s1 s2 (99 : Int32) m
theorem w_X12_contour_159 (d k : Nat) {o : zO} {G : Nat → Nat → zL → List zA → zM → Prop} (R : zRu (d + 2) tX12_contour 0 (z_hf []) o G) (c43 : Int32 → Int32 → Int32 → Int64 → Int32 → zM → Option (Int32 × zM)) (hc43 : ∀ (x1 : Int32) (x2 : Int32) (x3 : Int32) (x4 : Int64) (x6 : Int32) (m : zM), zLK G (fun a => (z_cI a.1, a.2) : Int32 × zM → zO) o (c43 x1 x2 x3 x4 x6 m) some (k + 0) 43 [some (.inr (13, 0)), some (.inl (.int x1)), some (.inl (.int x2)), some (.inl (.int x3)), some (.inl (.long x4)), none, some (.inl (.int x6)), none, none, none] [] m) (x1 : Int32) (x2 : Int32) (x3 : Int32) (x4 : Int64) (x6 : Int32) (x7 : Int32) (s0 : Int32) (s1 : Int32) (m : zM) : zLK G (fun a => (z_cI a.1, a.2) : Int32 × zM → zO) o (f_X12_contour_159 c43 x1 x2 x3 x4 x6 x7 s0 s1 m) some (k + 0) 159 [some (.inr (13, 0)), some (.inl (.int x1)), some (.inl (.int x2)), some (.inl (.int x3)), some (.inl (.long x4)), none, some (.inl (.int x6)), some (.inl (.int x7)), none, none] [.inl (.int s1), .inl (.int s0)] m := by
  unfold f_X12_contour_159
  refine zk_br R rfl (fun _ => ?_) (fun _ => ?_)
  · refine zk_st R 7 171 [some (.inr (13, 0)), some (.inl (.int x1)), some (.inl (.int x2)), some (.inl (.int x3)), some (.inl (.long x4)), none, some (.inl (.int x6)), some (.inl (.int x7)), none, none] [.inl (.int (lg_cmp ((z_shr x4 x6) &&& (1 : Int64)) (1 : Int64)))] m rfl ⟨trivial, trivial, trivial, trivial, trivial, trivial, trivial, trivial⟩ ?_
    refine zk_br R rfl (fun _ => ?_) (fun _ => ?_)
    · refine zk_st R 3 43 [some (.inr (13, 0)), some (.inl (.int x1)), some (.inl (.int x2)), some (.inl (.int x3)), some (.inl (.long x4)), none, some (.inl (.int (x6 + (1 : Int32)))), some (.inl (.int x7)), none, none] [] m rfl ⟨trivial, trivial, trivial, trivial⟩ ?_
      refine zk_mask R [true, true, true, true, true, false, true, false, false, false] rfl ?_
      exact hc43 x1 x2 x3 x4 (x6 + (1 : Int32)) m
    · refine zk_st R 3 182 [some (.inr (13, 0)), some (.inl (.int x1)), some (.inl (.int x2)), some (.inl (.int x3)), some (.inl (.long x4)), none, some (.inl (.int x6)), some (.inl (.int x7)), none, none] [.inl (.int x7), .inl (.int x6), .inr (13, 0)] m rfl ⟨trivial, trivial, trivial, trivial⟩ ?_
      refine zk_br R rfl (fun _ => ?_) (fun _ => ?_)
      · refine zk_st R 1 190 [some (.inr (13, 0)), some (.inl (.int x1)), some (.inl (.int x2)), some (.inl (.int x3)), some (.inl (.long x4)), none, some (.inl (.int x6)), some (.inl (.int x7)), none, none] [.inl (.int (0 : Int32)), .inl (.int x6), .inr (13, 0)] m rfl ⟨trivial, trivial⟩ ?_
        refine zk_mask R [true, true, true, true, true, false, true, true, false, false] rfl ?_
        exact w_X12_contour_190 d k R c43 hc43 x1 x2 x3 x4 x6 x7 x6 (0 : Int32) m
      · refine zk_st R 2 190 [some (.inr (13, 0)), some (.inl (.int x1)), some (.inl (.int x2)), some (.inl (.int x3)), some (.inl (.long x4)), none, some (.inl (.int x6)), some (.inl (.int x7)), none, none] [.inl (.int x1), .inl (.int x6), .inr (13, 0)] m rfl ⟨trivial, trivial, trivial⟩ ?_
        refine zk_mask R [true, true, true, true, true, false, true, true, false, false] rfl ?_
        exact w_X12_contour_190 d k R c43 hc43 x1 x2 x3 x4 x6 x7 x6 x1 m
  · refine zk_st R 2 43 [some (.inr (13, 0)), some (.inl (.int x1)), some (.inl (.int x2)), some (.inl (.int x3)), some (.inl (.long x4)), none, some (.inl (.int (x6 + (1 : Int32)))), some (.inl (.int x7)), none, none] [] m rfl ⟨trivial, trivial, trivial⟩ ?_
    refine zk_mask R [true, true, true, true, true, false, true, false, false, false] rfl ?_
    exact hc43 x1 x2 x3 x4 (x6 + (1 : Int32)) m
theorem w_X12_contour_141 (d k : Nat) {o : zO} {G : Nat → Nat → zL → List zA → zM → Prop} (R : zRu (d + 2) tX12_contour 0 (z_hf []) o G) (c43 : Int32 → Int32 → Int32 → Int64 → Int32 → zM → Option (Int32 × zM)) (hc43 : ∀ (x1 : Int32) (x2 : Int32) (x3 : Int32) (x4 : Int64) (x6 : Int32) (m : zM), zLK G (fun a => (z_cI a.1, a.2) : Int32 × zM → zO) o (c43 x1 x2 x3 x4 x6 m) some (k + 0) 43 [some (.inr (13, 0)), some (.inl (.int x1)), some (.inl (.int x2)), some (.inl (.int x3)), some (.inl (.long x4)), none, some (.inl (.int x6)), none, none, none] [] m) (x1 : Int32) (x2 : Int32) (x3 : Int32) (x4 : Int64) (x6 : Int32) (x7 : Int32) (m : zM) : zLK G (fun a => (z_cI a.1, a.2) : Int32 × zM → zO) o (f_X12_contour_141 c43 x1 x2 x3 x4 x6 x7 m) some (k + 0) 141 [some (.inr (13, 0)), some (.inl (.int x1)), some (.inl (.int x2)), some (.inl (.int x3)), some (.inl (.long x4)), none, some (.inl (.int x6)), some (.inl (.int x7)), none, none] [] m := by
  unfold f_X12_contour_141
  refine zk_gd fun e1 => ?_
  refine zk_st R 3 144 [some (.inr (13, 0)), some (.inl (.int x1)), some (.inl (.int x2)), some (.inl (.int x3)), some (.inl (.long x4)), none, some (.inl (.int x6)), some (.inl (.int x7)), none, none] [.inl (.int (z_irem x2 (2 : Int32)))] m rfl ⟨trivial, trivial, (z_nz_ne e1), trivial⟩ ?_
  refine zk_br R rfl (fun _ => ?_) (fun _ => ?_)
  · refine zk_st R 2 43 [some (.inr (13, 0)), some (.inl (.int x1)), some (.inl (.int x2)), some (.inl (.int x3)), some (.inl (.long x4)), none, some (.inl (.int (x6 + (1 : Int32)))), some (.inl (.int x7)), none, none] [] m rfl ⟨trivial, trivial, trivial⟩ ?_
    refine zk_mask R [true, true, true, true, true, false, true, false, false, false] rfl ?_
    exact hc43 x1 x2 x3 x4 (x6 + (1 : Int32)) m
  · refine zk_st R 3 151 [some (.inr (13, 0)), some (.inl (.int x1)), some (.inl (.int x2)), some (.inl (.int x3)), some (.inl (.long x4)), none, some (.inl (.int x6)), some (.inl (.int x7)), none, none] [.inl (.int (1 : Int32)), .inl (.int x2), .inl (.int x7)] m rfl ⟨trivial, trivial, trivial, trivial⟩ ?_
    refine zk_br R rfl (fun _ => ?_) (fun _ => ?_)
    · refine zk_st R 2 159 [some (.inr (13, 0)), some (.inl (.int x1)), some (.inl (.int x2)), some (.inl (.int x3)), some (.inl (.long x4)), none, some (.inl (.int x6)), some (.inl (.int x7)), none, none] [.inl (.int (1 : Int32)), .inl (.int x7)] m rfl ⟨trivial, trivial, trivial⟩ ?_
      refine zk_mask R [true, true, true, true, true, false, true, true, false, false] rfl ?_
      exact w_X12_contour_159 d k R c43 hc43 x1 x2 x3 x4 x6 x7 x7 (1 : Int32) m
    · refine zk_st R 1 159 [some (.inr (13, 0)), some (.inl (.int x1)), some (.inl (.int x2)), some (.inl (.int x3)), some (.inl (.long x4)), none, some (.inl (.int x6)), some (.inl (.int x7)), none, none] [.inl (.int (0 : Int32)), .inl (.int x7)] m rfl ⟨trivial, trivial⟩ ?_
      refine zk_mask R [true, true, true, true, true, false, true, true, false, false] rfl ?_
      exact w_X12_contour_159 d k R c43 hc43 x1 x2 x3 x4 x6 x7 x7 (0 : Int32) m
theorem w_X12_contour_127 (d k : Nat) {o : zO} {G : Nat → Nat → zL → List zA → zM → Prop} (R : zRu (d + 2) tX12_contour 0 (z_hf []) o G) (c43 : Int32 → Int32 → Int32 → Int64 → Int32 → zM → Option (Int32 × zM)) (c89 : Int32 → Int32 → Int32 → Int64 → Int32 → Int32 → Int32 → zM → Option (Int32 × zM)) (hc43 : ∀ (x1 : Int32) (x2 : Int32) (x3 : Int32) (x4 : Int64) (x6 : Int32) (m : zM), zLK G (fun a => (z_cI a.1, a.2) : Int32 × zM → zO) o (c43 x1 x2 x3 x4 x6 m) some (k + 0) 43 [some (.inr (13, 0)), some (.inl (.int x1)), some (.inl (.int x2)), some (.inl (.int x3)), some (.inl (.long x4)), none, some (.inl (.int x6)), none, none, none] [] m) (hc89 : ∀ (x1 : Int32) (x2 : Int32) (x3 : Int32) (x4 : Int64) (x6 : Int32) (x7 : Int32) (x8 : Int32) (m : zM), zLK G (fun a => (z_cI a.1, a.2) : Int32 × zM → zO) o (c89 x1 x2 x3 x4 x6 x7 x8 m) some (k + 0) 89 [some (.inr (13, 0)), some (.inl (.int x1)), some (.inl (.int x2)), some (.inl (.int x3)), some (.inl (.long x4)), none, some (.inl (.int x6)), some (.inl (.int x7)), some (.inl (.int x8)), none] [] m) (x1 : Int32) (x2 : Int32) (x3 : Int32) (x4 : Int64) (x6 : Int32) (x7 : Int32) (x8 : Int32) (s0 : Int32) (m : zM) : zLK G (fun a => (z_cI a.1, a.2) : Int32 × zM → zO) o (f_X12_contour_127 c43 c89 x1 x2 x3 x4 x6 x7 x8 s0 m) some (k + 0) 127 [some (.inr (13, 0)), some (.inl (.int x1)), some (.inl (.int x2)), some (.inl (.int x3)), some (.inl (.long x4)), none, some (.inl (.int x6)), some (.inl (.int x7)), some (.inl (.int x8)), none] [.inl (.int s0)] m := by
  unfold f_X12_contour_127
  refine zk_st R 1 129 [some (.inr (13, 0)), some (.inl (.int x1)), some (.inl (.int x2)), some (.inl (.int x3)), some (.inl (.long x4)), none, some (.inl (.int x6)), some (.inl (.int x7)), some (.inl (.int x8)), none] [.inl (.int x7), .inl (.int s0)] m rfl ⟨trivial, trivial⟩ ?_
  refine zk_br R rfl (fun _ => ?_) (fun _ => ?_)
  · refine zk_st R 2 89 [some (.inr (13, 0)), some (.inl (.int x1)), some (.inl (.int x2)), some (.inl (.int x3)), some (.inl (.long x4)), none, some (.inl (.int x6)), some (.inl (.int x7)), some (.inl (.int (x8 + (1 : Int32)))), none] [] m rfl ⟨trivial, trivial, trivial⟩ ?_
    refine zk_mask R [true, true, true, true, true, false, true, true, true, false] rfl ?_
    exact hc89 x1 x2 x3 x4 x6 x7 (x8 + (1 : Int32)) m
  · refine zk_st R 3 89 [some (.inr (13, 0)), some (.inl (.int x1)), some (.inl (.int x2)), some (.inl (.int (x3 + (1 : Int32)))), some (.inl (.long x4)), none, some (.inl (.int x6)), some (.inl (.int x7)), some (.inl (.int (x8 + (1 : Int32)))), none] [] m rfl ⟨trivial, trivial, trivial, trivial⟩ ?_
    refine zk_mask R [true, true, true, true, true, false, true, true, true, false] rfl ?_
    exact hc89 x1 x2 (x3 + (1 : Int32)) x4 x6 x7 (x8 + (1 : Int32)) m
theorem w_X12_contour_89 (d k : Nat) {o : zO} {G : Nat → Nat → zL → List zA → zM → Prop} (R : zRu (d + 2) tX12_contour 0 (z_hf []) o G) (c43 : Int32 → Int32 → Int32 → Int64 → Int32 → zM → Option (Int32 × zM)) (hc43 : ∀ (x1 : Int32) (x2 : Int32) (x3 : Int32) (x4 : Int64) (x6 : Int32) (m : zM), zLK G (fun a => (z_cI a.1, a.2) : Int32 × zM → zO) o (c43 x1 x2 x3 x4 x6 m) some (k + 0) 43 [some (.inr (13, 0)), some (.inl (.int x1)), some (.inl (.int x2)), some (.inl (.int x3)), some (.inl (.long x4)), none, some (.inl (.int x6)), none, none, none] [] m) : ∀ (j : Nat) (x1 : Int32) (x2 : Int32) (x3 : Int32) (x4 : Int64) (x6 : Int32) (x7 : Int32) (x8 : Int32) (m : zM), zLK G (fun a => (z_cI a.1, a.2) : Int32 × zM → zO) o (f_X12_contour_89 c43 j x1 x2 x3 x4 x6 x7 x8 m) some (k + 0) 89 [some (.inr (13, 0)), some (.inl (.int x1)), some (.inl (.int x2)), some (.inl (.int x3)), some (.inl (.long x4)), none, some (.inl (.int x6)), some (.inl (.int x7)), some (.inl (.int x8)), none] [] m := by
  intro j
  induction j with
  | zero =>
    intro _ _ _ _ _ _ _ _
    exact zk_none
  | succ j ih =>
    intro x1 x2 x3 x4 x6 x7 x8 m
    unfold f_X12_contour_89
    refine zk_st R 2 92 [some (.inr (13, 0)), some (.inl (.int x1)), some (.inl (.int x2)), some (.inl (.int x3)), some (.inl (.long x4)), none, some (.inl (.int x6)), some (.inl (.int x7)), some (.inl (.int x8)), none] [.inl (.int (3 : Int32)), .inl (.int x8)] m rfl ⟨trivial, trivial, trivial⟩ ?_
    refine zk_br R rfl (fun _ => ?_) (fun _ => ?_)
    · refine zk_mask R [true, true, true, true, true, false, true, true, false, false] rfl ?_
      exact w_X12_contour_141 d k R c43 hc43 x1 x2 x3 x4 x6 x7 m
    · refine zk_st R 3 100 [some (.inr (13, 0)), some (.inl (.int x1)), some (.inl (.int x2)), some (.inl (.int x3)), some (.inl (.long x4)), none, some (.inl (.int x6)), some (.inl (.int x7)), some (.inl (.int x8)), none] [.inl (.int x8), .inl (.int x6), .inr (13, 0)] m rfl ⟨trivial, trivial, trivial, trivial⟩ ?_
      refine zk_call R (fun b => some (.inl (.int b))) (fun _ => m) rfl (r_X12_next (Nat.le_of_ble_eq_true rfl)) (fun b hb => w_X12_next (d + 1) 0 x6 x8 m b hb) (fun r2 => ?_)
      refine zk_br R rfl (fun _ => ?_) (fun _ => ?_)
      · refine zk_st R 2 89 [some (.inr (13, 0)), some (.inl (.int x1)), some (.inl (.int x2)), some (.inl (.int x3)), some (.inl (.long x4)), none, some (.inl (.int x6)), some (.inl (.int x7)), some (.inl (.int (x8 + (1 : Int32)))), none] [] m rfl ⟨trivial, trivial, trivial⟩ ?_
        refine zk_mask R [true, true, true, true, true, false, true, true, true, false] rfl ?_
        exact ih x1 x2 x3 x4 x6 x7 (x8 + (1 : Int32)) m
      · refine zk_st R 4 112 [some (.inr (13, 0)), some (.inl (.int x1)), some (.inl (.int x2)), some (.inl (.int x3)), some (.inl (.long x4)), none, some (.inl (.int x6)), some (.inl (.int x7)), some (.inl (.int x8)), none] [.inl (.int x8), .inl (.int x6), .inr (13, 0), .inr (13, 0)] m rfl ⟨trivial, trivial, trivial, trivial, trivial⟩ ?_
        refine zk_call R (fun b => some (.inl (.int b))) (fun _ => m) rfl (r_X12_next (Nat.le_of_ble_eq_true rfl)) (fun b hb => w_X12_next (d + 1) 0 x6 x8 m b hb) (fun r4 => ?_)
        refine zk_call R (fun b => some (.inl (.int b))) (fun _ => m) rfl (r_X12_height (Nat.le_of_ble_eq_true rfl)) (fun b hb => w_X12_height (d + 1) 0 r4 m b hb) (fun r5 => ?_)
        refine zk_st R 1 119 [some (.inr (13, 0)), some (.inl (.int x1)), some (.inl (.int x2)), some (.inl (.int x3)), some (.inl (.long x4)), none, some (.inl (.int x6)), some (.inl (.int x7)), some (.inl (.int x8)), none] [.inl (.int x1), .inl (.int r5)] m rfl ⟨trivial, trivial⟩ ?_
        refine zk_br R rfl (fun _ => ?_) (fun _ => ?_)
        · refine zk_st R 1 127 [some (.inr (13, 0)), some (.inl (.int x1)), some (.inl (.int x2)), some (.inl (.int x3)), some (.inl (.long x4)), none, some (.inl (.int x6)), some (.inl (.int x7)), some (.inl (.int x8)), none] [.inl (.int (0 : Int32))] m rfl ⟨trivial, trivial⟩ ?_
          refine zk_mask R [true, true, true, true, true, false, true, true, true, false] rfl ?_
          exact w_X12_contour_127 d k R c43 (f_X12_contour_89 c43 j) hc43 ih x1 x2 x3 x4 x6 x7 x8 (0 : Int32) m
        · refine zk_st R 2 127 [some (.inr (13, 0)), some (.inl (.int x1)), some (.inl (.int x2)), some (.inl (.int x3)), some (.inl (.long x4)), none, some (.inl (.int x6)), some (.inl (.int x7)), some (.inl (.int x8)), none] [.inl (.int (1 : Int32))] m rfl ⟨trivial, trivial, trivial⟩ ?_
          refine zk_mask R [true, true, true, true, true, false, true, true, true, false] rfl ?_
          exact w_X12_contour_127 d k R c43 (f_X12_contour_89 c43 j) hc43 ih x1 x2 x3 x4 x6 x7 x8 (1 : Int32) m
theorem w_X12_contour_81 (d k : Nat) {o : zO} {G : Nat → Nat → zL → List zA → zM → Prop} (R : zRu (d + 2) tX12_contour 0 (z_hf []) o G) (c43 : Int32 → Int32 → Int32 → Int64 → Int32 → zM → Option (Int32 × zM)) (hc43 : ∀ (x1 : Int32) (x2 : Int32) (x3 : Int32) (x4 : Int64) (x6 : Int32) (m : zM), zLK G (fun a => (z_cI a.1, a.2) : Int32 × zM → zO) o (c43 x1 x2 x3 x4 x6 m) some (k + 0) 43 [some (.inr (13, 0)), some (.inl (.int x1)), some (.inl (.int x2)), some (.inl (.int x3)), some (.inl (.long x4)), none, some (.inl (.int x6)), none, none, none] [] m) (x1 : Int32) (x2 : Int32) (x3 : Int32) (x4 : Int64) (x6 : Int32) (x7 : Int32) (m : zM) : zLK G (fun a => (z_cI a.1, a.2) : Int32 × zM → zO) o (f_X12_contour_81 c43 x1 x2 x3 x4 x6 x7 m) some (k + 0) 81 [some (.inr (13, 0)), some (.inl (.int x1)), some (.inl (.int x2)), some (.inl (.int x3)), some (.inl (.long x4)), none, some (.inl (.int x6)), some (.inl (.int x7)), none, none] [] m := by
  unfold f_X12_contour_81
  refine zk_st R 2 83 [some (.inr (13, 0)), some (.inl (.int x1)), some (.inl (.int x2)), some (.inl (.int x3)), some (.inl (.long x4)), none, some (.inl (.int x6)), some (.inl (.int x7)), none, none] [.inl (.int (2 : Int32)), .inl (.int x2)] m rfl ⟨trivial, trivial, trivial⟩ ?_
  refine zk_br R rfl (fun _ => ?_) (fun _ => ?_)
  · refine zk_st R 2 89 [some (.inr (13, 0)), some (.inl (.int x1)), some (.inl (.int x2)), some (.inl (.int x3)), some (.inl (.long x4)), none, some (.inl (.int x6)), some (.inl (.int x7)), some (.inl (.int (1 : Int32))), none] [] m rfl ⟨trivial, trivial, trivial⟩ ?_
    refine zk_mask R [true, true, true, true, true, false, true, true, true, false] rfl ?_
    exact w_X12_contour_89 d k R c43 hc43 zF x1 x2 x3 x4 x6 x7 (1 : Int32) m
  · refine zk_mask R [true, true, true, true, true, false, true, true, false, false] rfl ?_
    exact w_X12_contour_141 d k R c43 hc43 x1 x2 x3 x4 x6 x7 m
theorem w_X12_contour_67 (d k : Nat) {o : zO} {G : Nat → Nat → zL → List zA → zM → Prop} (R : zRu (d + 2) tX12_contour 0 (z_hf []) o G) (c43 : Int32 → Int32 → Int32 → Int64 → Int32 → zM → Option (Int32 × zM)) (hc43 : ∀ (x1 : Int32) (x2 : Int32) (x3 : Int32) (x4 : Int64) (x6 : Int32) (m : zM), zLK G (fun a => (z_cI a.1, a.2) : Int32 × zM → zO) o (c43 x1 x2 x3 x4 x6 m) some (k + 0) 43 [some (.inr (13, 0)), some (.inl (.int x1)), some (.inl (.int x2)), some (.inl (.int x3)), some (.inl (.long x4)), none, some (.inl (.int x6)), none, none, none] [] m) (x1 : Int32) (x2 : Int32) (x3 : Int32) (x4 : Int64) (x6 : Int32) (s0 : Int32) (m : zM) : zLK G (fun a => (z_cI a.1, a.2) : Int32 × zM → zO) o (f_X12_contour_67 c43 x1 x2 x3 x4 x6 s0 m) some (k + 0) 67 [some (.inr (13, 0)), some (.inl (.int x1)), some (.inl (.int x2)), some (.inl (.int x3)), some (.inl (.long x4)), none, some (.inl (.int x6)), none, none, none] [.inl (.int s0)] m := by
  unfold f_X12_contour_67
  refine zk_st R 2 70 [some (.inr (13, 0)), some (.inl (.int x1)), some (.inl (.int x2)), some (.inl (.int x3)), some (.inl (.long x4)), none, some (.inl (.int x6)), some (.inl (.int s0)), none, none] [.inl (.int x2)] m rfl ⟨trivial, trivial, trivial⟩ ?_
  refine zk_br R rfl (fun _ => ?_) (fun _ => ?_)
  · refine zk_st R 1 75 [some (.inr (13, 0)), some (.inl (.int x1)), some (.inl (.int x2)), some (.inl (.int x3)), some (.inl (.long x4)), none, some (.inl (.int x6)), some (.inl (.int s0)), none, none] [.inl (.int s0)] m rfl ⟨trivial, trivial⟩ ?_
    refine zk_br R rfl (fun _ => ?_) (fun _ => ?_)
    · refine zk_mask R [true, true, true, true, true, false, true, true, false, false] rfl ?_
      exact w_X12_contour_81 d k R c43 hc43 x1 x2 x3 x4 x6 s0 m
    · refine zk_st R 1 81 [some (.inr (13, 0)), some (.inl (.int x1)), some (.inl (.int x2)), some (.inl (.int (x3 + (1 : Int32)))), some (.inl (.long x4)), none, some (.inl (.int x6)), some (.inl (.int s0)), none, none] [] m rfl ⟨trivial, trivial⟩ ?_
      refine zk_mask R [true, true, true, true, true, false, true, true, false, false] rfl ?_
      exact w_X12_contour_81 d k R c43 hc43 x1 x2 (x3 + (1 : Int32)) x4 x6 s0 m
  · refine zk_mask R [true, true, true, true, true, false, true, true, false, false] rfl ?_
    exact w_X12_contour_81 d k R c43 hc43 x1 x2 x3 x4 x6 s0 m
theorem w_X12_contour_43 (d k : Nat) {o : zO} {G : Nat → Nat → zL → List zA → zM → Prop} (R : zRu (d + 2) tX12_contour 0 (z_hf []) o G) : ∀ (j : Nat) (x1 : Int32) (x2 : Int32) (x3 : Int32) (x4 : Int64) (x6 : Int32) (m : zM), zLK G (fun a => (z_cI a.1, a.2) : Int32 × zM → zO) o (f_X12_contour_43 j x1 x2 x3 x4 x6 m) some (k + 0) 43 [some (.inr (13, 0)), some (.inl (.int x1)), some (.inl (.int x2)), some (.inl (.int x3)), some (.inl (.long x4)), none, some (.inl (.int x6)), none, none, none] [] m := by
  intro j
  induction j with
  | zero =>
    intro _ _ _ _ _ _
    exact zk_none
  | succ j ih =>
    intro x1 x2 x3 x4 x6 m
    unfold f_X12_contour_43
    refine zk_st R 2 46 [some (.inr (13, 0)), some (.inl (.int x1)), some (.inl (.int x2)), some (.inl (.int x3)), some (.inl (.long x4)), none, some (.inl (.int x6)), none, none, none] [.inr (13, 0), .inl (.int x6)] m rfl ⟨trivial, trivial, trivial⟩ ?_
    refine zk_call R (fun b => some (.inl (.int b))) (fun _ => m) rfl (r_X12_cells (Nat.le_of_ble_eq_true rfl)) (fun b hb => w_X12_cells (d + 1) 0 m b hb) (fun r1 => ?_)
    refine zk_br R rfl (fun _ => ?_) (fun _ => ?_)
    · refine zk_st R 1 282 [some (.inr (13, 0)), some (.inl (.int x1)), some (.inl (.int x2)), some (.inl (.int x3)), some (.inl (.long x4)), none, some (.inl (.int x6)), none, none, none] [.inl (.int x3)] m rfl ⟨trivial, trivial⟩ ?_
      exact zk_ret R rfl trivial rfl
    · refine zk_st R 2 55 [some (.inr (13, 0)), some (.inl (.int x1)), some (.inl (.int x2)), some (.inl (.int x3)), some (.inl (.long x4)), none, some (.inl (.int x6)), none, none, none] [.inl (.int x6), .inr (13, 0)] m rfl ⟨trivial, trivial, trivial⟩ ?_
      refine zk_call R (fun b => some (.inl (.int b))) (fun _ => m) rfl (r_X12_height (Nat.le_of_ble_eq_true rfl)) (fun b hb => w_X12_height (d + 1) 0 x6 m b hb) (fun r3 => ?_)
      refine zk_st R 1 59 [some (.inr (13, 0)), some (.inl (.int x1)), some (.inl (.int x2)), some (.inl (.int x3)), some (.inl (.long x4)), none, some (.inl (.int x6)), none, none, none] [.inl (.int x1), .inl (.int r3)] m rfl ⟨trivial, trivial⟩ ?_
      refine zk_br R rfl (fun _ => ?_) (fun _ => ?_)
      · refine zk_st R 1 67 [some (.inr (13, 0)), some (.inl (.int x1)), some (.inl (.int x2)), some (.inl (.int x3)), some (.inl (.long x4)), none, some (.inl (.int x6)), none, none, none] [.inl (.int (0 : Int32))] m rfl ⟨trivial, trivial⟩ ?_
        refine zk_mask R [true, true, true, true, true, false, true, false, false, false] rfl ?_
        exact w_X12_contour_67 d k R (f_X12_contour_43 j) ih x1 x2 x3 x4 x6 (0 : Int32) m
      · refine zk_st R 2 67 [some (.inr (13, 0)), some (.inl (.int x1)), some (.inl (.int x2)), some (.inl (.int x3)), some (.inl (.long x4)), none, some (.inl (.int x6)), none, none, none] [.inl (.int (1 : Int32))] m rfl ⟨trivial, trivial, trivial⟩ ?_
        refine zk_mask R [true, true, true, true, true, false, true, false, false, false] rfl ?_
        exact w_X12_contour_67 d k R (f_X12_contour_43 j) ih x1 x2 x3 x4 x6 (1 : Int32) m
theorem w_X12_contour (d k : Nat) (x1 : Int32) (x2 : Int32) (m : zM) (a : Int32 × zM) (ha : f_X12_contour x1 x2 m = some a) : z_Ev z_MT zN zRf (d + 3) (k + 0) 235 [.inr (13, 0), .inl (.int x1), .inl (.int x2)] m ((fun a => (z_cI a.1, a.2) : Int32 × zM → zO) a) := by
  refine zk_top (I := (yX12_contour, cX12_contour, 10, (some .int), [], tX12_contour, 13, 2, 13, 0, 0, 0)) (oc := (fun a => (z_cI a.1, a.2) : Int32 × zM → zO)) (a := a) rfl (Nat.le_of_ble_eq_true rfl) (fun G R => ?_) ha
  unfold f_X12_contour
  refine zk_st R 7 11 [some (.inr (13, 0)), some (.inl (.int x1)), some (.inl (.int x2)), none, none, none, none, none, none, none] [.inl (.long (99 : Int64)), .inl (.long (1 : Int64)), .inl (.long (Int32.toInt64 x1))] (z_sI m 13 0 0 (0 : Int32)) rfl ⟨trivial, trivial, (Nat.le_of_ble_eq_true rfl), trivial, trivial, trivial, trivial, trivial⟩ ?_
  refine zk_call R (fun b => some (.inl (.int (z_bi b)))) (fun _ => (z_sI m 13 0 0 (0 : Int32))) rfl (r_X12_in) (fun b hb => w_X12_in (d + 1) 0 (Int32.toInt64 x1) (1 : Int64) (99 : Int64) (z_sI m 13 0 0 (0 : Int32)) b hb) (fun r1 => ?_)
  refine zk_br R rfl (fun _ => ?_) (fun _ => ?_)
  · refine zk_mask R [true, false, false, false, false, false, false, false, false, false] rfl ?_
    exact w_X12_contour_29 d k R (z_sI m 13 0 0 (0 : Int32))
  · refine zk_st R 4 23 [some (.inr (13, 0)), some (.inl (.int x1)), some (.inl (.int x2)), none, none, none, none, none, none, none] [.inl (.long (3 : Int64)), .inl (.long (0 : Int64)), .inl (.long (Int32.toInt64 x2))] (z_sI m 13 0 0 (0 : Int32)) rfl ⟨trivial, trivial, trivial, trivial, trivial⟩ ?_
    refine zk_call R (fun b => some (.inl (.int (z_bi b)))) (fun _ => (z_sI m 13 0 0 (0 : Int32))) rfl (r_X12_in) (fun b hb => w_X12_in (d + 1) 0 (Int32.toInt64 x2) (0 : Int64) (3 : Int64) (z_sI m 13 0 0 (0 : Int32)) b hb) (fun r3 => ?_)
    refine zk_br R rfl (fun _ => ?_) (fun _ => ?_)
    · refine zk_mask R [true, false, false, false, false, false, false, false, false, false] rfl ?_
      exact w_X12_contour_29 d k R (z_sI m 13 0 0 (0 : Int32))
    · refine zk_st R 6 43 [some (.inr (13, 0)), some (.inl (.int x1)), some (.inl (.int x2)), some (.inl (.int (0 : Int32))), some (.inl (.long (0 : Int64))), none, some (.inl (.int (0 : Int32))), none, none, none] [] (z_sI m 13 0 0 (0 : Int32)) rfl ⟨trivial, trivial, trivial, trivial, trivial, trivial, trivial⟩ ?_
      refine zk_mask R [true, true, true, true, true, false, true, false, false, false] rfl ?_
      exact w_X12_contour_43 d k R zF x1 x2 (0 : Int32) (0 : Int64) (0 : Int32) (z_sI m 13 0 0 (0 : Int32))
theorem r_X12_along {i : Nat} {t : List zA} (h : i < zN 13) : z_rcv zN (zKD 237) (.inr (13, i) :: t) := by
  rw [show zKD 237 = 13 from rfl]
  exact ⟨rfl, h⟩
noncomputable def f_X12_along (x1 : Int32) (x2 : Int32) (x3 : Int32) (m : zM) : Option (Int32) :=
  Option.bind (f_X12_far x1 x2 m) fun r1 =>
  if r1 = 0 then
    some x1
  else
    z_gd (z_inb (0 : Int32) (z_alen 23)) <| z_gd (z_nz (m.1 23 0 (Int32.toNatClampNeg (0 : Int32)))) <| Option.bind (f_J9_floorDiv_7cf53 ((((2 : Int32) * x3) * ((z_irem x2 (m.1 23 0 (Int32.toNatClampNeg (0 : Int32)))) - (z_irem x1 (m.1 23 0 (Int32.toNatClampNeg (0 : Int32)))))) + r1) ((2 : Int32) * r1) m) fun r5 =>
    z_gd (z_nz (m.1 23 0 (Int32.toNatClampNeg (0 : Int32)))) <| Option.bind (f_J9_floorDiv_7cf53 ((((2 : Int32) * x3) * ((x2 / (m.1 23 0 (Int32.toNatClampNeg (0 : Int32)))) - (x1 / (m.1 23 0 (Int32.toNatClampNeg (0 : Int32)))))) + r1) ((2 : Int32) * r1) m) fun r7 =>
    some (((m.1 23 0 (Int32.toNatClampNeg (0 : Int32))) * ((x1 / (m.1 23 0 (Int32.toNatClampNeg (0 : Int32)))) + r7)) + ((z_irem x1 (m.1 23 0 (Int32.toNatClampNeg (0 : Int32)))) + r5))
theorem w_X12_along (d k : Nat) (x1 : Int32) (x2 : Int32) (x3 : Int32) (m : zM) (a : Int32) (ha : f_X12_along x1 x2 x3 m = some a) : z_Ev z_MT zN zRf (d + 3) (k + 0) 237 [.inr (13, 0), .inl (.int x1), .inl (.int x2), .inl (.int x3)] m ((fun a => (z_cI a, m) : Int32 → zO) a) := by
  refine zk_top (I := (yX12_along, cX12_along, 8, (some .int), [], tX12_along, 13, 3, 13, 0, 0, 0)) (oc := (fun a => (z_cI a, m) : Int32 → zO)) (a := a) rfl (Nat.le_of_ble_eq_true rfl) (fun G R => ?_) ha
  unfold f_X12_along
  refine zk_st R 3 3 [some (.inr (13, 0)), some (.inl (.int x1)), some (.inl (.int x2)), some (.inl (.int x3)), none, none, none, none] [.inl (.int x2), .inl (.int x1), .inr (13, 0)] m rfl ⟨trivial, trivial, trivial, trivial⟩ ?_
  refine zk_call R (fun b => some (.inl (.int b))) (fun _ => m) rfl (r_X12_far (Nat.le_of_ble_eq_true rfl)) (fun b hb => w_X12_far d 0 x1 x2 m b hb) (fun r1 => ?_)
  refine zk_st R 2 10 [some (.inr (13, 0)), some (.inl (.int x1)), some (.inl (.int x2)), some (.inl (.int x3)), some (.inl (.int r1)), none, none, none] [.inl (.int r1)] m rfl ⟨trivial, trivial, trivial⟩ ?_
  refine zk_br R rfl (fun _ => ?_) (fun _ => ?_)
  · refine zk_st R 1 14 [some (.inr (13, 0)), some (.inl (.int x1)), some (.inl (.int x2)), some (.inl (.int x3)), some (.inl (.int r1)), none, none, none] [.inl (.int x1)] m rfl ⟨trivial, trivial⟩ ?_
    exact zk_ret R rfl trivial rfl
  · refine zk_gd fun e3 => ?_
    refine zk_gd fun e4 => ?_
    refine zk_st R 24 47 [some (.inr (13, 0)), some (.inl (.int x1)), some (.inl (.int x2)), some (.inl (.int x3)), some (.inl (.int r1)), some (.inl (.int (m.1 23 0 (Int32.toNatClampNeg (0 : Int32))))), none, none] [.inl (.int ((2 : Int32) * r1)), .inl (.int ((((2 : Int32) * x3) * ((z_irem x2 (m.1 23 0 (Int32.toNatClampNeg (0 : Int32)))) - (z_irem x1 (m.1 23 0 (Int32.toNatClampNeg (0 : Int32)))))) + r1)), .inl (.int (z_irem x1 (m.1 23 0 (Int32.toNatClampNeg (0 : Int32)))))] m rfl ⟨trivial, (Nat.le_of_ble_eq_true rfl), trivial, ⟨(Nat.le_of_ble_eq_true rfl), z_inb_in e3⟩, trivial, trivial, trivial, (z_nz_ne e4), trivial, trivial, trivial, trivial, trivial, (z_nz_ne e4), trivial, trivial, (z_nz_ne e4), trivial, trivial, trivial, trivial, trivial, trivial, trivial, trivial⟩ ?_
    refine zk_call R (fun b => some (.inl (.int b))) (fun _ => m) rfl (r_J9_floorDiv_7cf53) (fun b hb => w_J9_floorDiv_7cf53 (d + 1) 0 ((((2 : Int32) * x3) * ((z_irem x2 (m.1 23 0 (Int32.toNatClampNeg (0 : Int32)))) - (z_irem x1 (m.1 23 0 (Int32.toNatClampNeg (0 : Int32)))))) + r1) ((2 : Int32) * r1) m b hb) (fun r5 => ?_)
    refine zk_gd fun e6 => ?_
    refine zk_st R 21 77 [some (.inr (13, 0)), some (.inl (.int x1)), some (.inl (.int x2)), some (.inl (.int x3)), some (.inl (.int r1)), some (.inl (.int (m.1 23 0 (Int32.toNatClampNeg (0 : Int32))))), some (.inl (.int ((z_irem x1 (m.1 23 0 (Int32.toNatClampNeg (0 : Int32)))) + r5))), none] [.inl (.int ((2 : Int32) * r1)), .inl (.int ((((2 : Int32) * x3) * ((x2 / (m.1 23 0 (Int32.toNatClampNeg (0 : Int32)))) - (x1 / (m.1 23 0 (Int32.toNatClampNeg (0 : Int32)))))) + r1)), .inl (.int (x1 / (m.1 23 0 (Int32.toNatClampNeg (0 : Int32)))))] m rfl ⟨trivial, trivial, trivial, trivial, (z_nz_ne e6), trivial, trivial, trivial, trivial, trivial, (z_nz_ne e6), trivial, trivial, (z_nz_ne e6), trivial, trivial, trivial, trivial, trivial, trivial, trivial, trivial⟩ ?_
    refine zk_call R (fun b => some (.inl (.int b))) (fun _ => m) rfl (r_J9_floorDiv_7cf53) (fun b hb => w_J9_floorDiv_7cf53 (d + 1) 0 ((((2 : Int32) * x3) * ((x2 / (m.1 23 0 (Int32.toNatClampNeg (0 : Int32)))) - (x1 / (m.1 23 0 (Int32.toNatClampNeg (0 : Int32)))))) + r1) ((2 : Int32) * r1) m b hb) (fun r7 => ?_)
    refine zk_st R 7 91 [some (.inr (13, 0)), some (.inl (.int x1)), some (.inl (.int x2)), some (.inl (.int x3)), some (.inl (.int r1)), some (.inl (.int (m.1 23 0 (Int32.toNatClampNeg (0 : Int32))))), some (.inl (.int ((z_irem x1 (m.1 23 0 (Int32.toNatClampNeg (0 : Int32)))) + r5))), some (.inl (.int ((x1 / (m.1 23 0 (Int32.toNatClampNeg (0 : Int32)))) + r7)))] [.inl (.int (((m.1 23 0 (Int32.toNatClampNeg (0 : Int32))) * ((x1 / (m.1 23 0 (Int32.toNatClampNeg (0 : Int32)))) + r7)) + ((z_irem x1 (m.1 23 0 (Int32.toNatClampNeg (0 : Int32)))) + r5)))] m rfl ⟨trivial, trivial, trivial, trivial, trivial, trivial, trivial, trivial⟩ ?_
    exact zk_ret R rfl trivial rfl
