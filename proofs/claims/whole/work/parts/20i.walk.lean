theorem r_X11_save {i : Nat} {t : List zA} (h : i < zN 12) : z_rcv zN (zKD 149) (.inr (12, i) :: t) := by
  rw [show zKD 149 = 12 from rfl]
  exact ⟨rfl, h⟩
noncomputable def f_X11_save (m : zM) : Option (Int32 × zM) :=
  Option.bind (f_X4_copyFrom 2 0 m) fun r1 =>
  Option.bind (f_X4_size 0 (z_sI r1 12 0 3 (1 : Int32))) fun r2 =>
  some (r2, (z_sI r1 12 0 3 (1 : Int32)))
theorem w_X11_save (d k : Nat) (m : zM) (a : Int32 × zM) (ha : f_X11_save m = some a) : z_Ev z_MT zN zRf (d + 3) (k + 0) 149 [.inr (12, 0)] m ((fun a => (z_cI a.1, a.2) : Int32 × zM → zO) a) := by
  refine zk_top (I := (yX11_save, cX11_save, 1, (some .int), [], tX11_save, 12, 0, 12, 0, 0, 0)) (oc := (fun a => (z_cI a.1, a.2) : Int32 × zM → zO)) (a := a) rfl (Nat.le_of_ble_eq_true rfl) (fun G R => ?_) ha
  unfold f_X11_save
  refine zk_st R 4 8 [some (.inr (12, 0))] [.inr (6, 0), .inr (6, 2)] m rfl ⟨trivial, (Nat.le_of_ble_eq_true rfl), trivial, (Nat.le_of_ble_eq_true rfl), trivial⟩ ?_
  refine zk_call R (fun _ => none) id rfl (r_X4_copyFrom (Nat.le_of_ble_eq_true rfl)) (fun b hb => w_X4_copyFrom d 0 2 0 (Nat.le_of_ble_eq_true rfl) (Nat.le_of_ble_eq_true rfl) m b hb) (fun r1 => ?_)
  refine zk_st R 5 20 [some (.inr (12, 0))] [.inr (6, 0)] (z_sI r1 12 0 3 (1 : Int32)) rfl ⟨trivial, trivial, ⟨(Nat.le_of_ble_eq_true rfl), Or.inr rfl⟩, trivial, (Nat.le_of_ble_eq_true rfl), trivial⟩ ?_
  refine zk_call R (fun b => some (.inl (.int b))) (fun _ => (z_sI r1 12 0 3 (1 : Int32))) rfl (r_X4_size (Nat.le_of_ble_eq_true rfl)) (fun b hb => w_X4_size (d + 1) 0 0 (Nat.le_of_ble_eq_true rfl) (z_sI r1 12 0 3 (1 : Int32)) b hb) (fun r2 => ?_)
  exact zk_ret R rfl trivial rfl
theorem r_X12_sets {i : Nat} {t : List zA} (h : i < zN 13) : z_rcv zN (zKD 170) (.inr (13, i) :: t) := by
  rw [show zKD 170 = 13 from rfl]
  exact ⟨rfl, h⟩
noncomputable def f_X12_sets_30 (x1 : Int32) (x2 : Int32) (x3 : Int32) (s1 : Int32) (m : zM) : Option (Int32 × zM) :=
  if ((z_sI m 13 0 0 s1).1 13 0 0) ≤ 0 then
    Option.bind (f_X12_changes (z_sI m 13 0 0 s1)) fun r2 =>
    z_gd (z_inb (x1 + x2) (z_alen 23)) <| some ((r2.1 23 0 (Int32.toNatClampNeg (x1 + x2))), (z_sI r2 23 0 (Int32.toNatClampNeg (x1 + x2)) x3))
  else
    some ((0 : Int32), (z_sI m 13 0 0 s1))
noncomputable def f_X12_sets (x1 : Int32) (x2 : Int32) (x3 : Int32) (x4 : Int32) (m : zM) : Option (Int32 × zM) :=
  Option.bind (f_X12_isCell x2 m) fun r1 =>
  if (z_bi r1) = 0 then
    f_X12_sets_30 x1 x2 x3 (1 : Int32) m
  else
    Option.bind (f_X12_in (Int32.toInt64 x3) (0 : Int64) (Int32.toInt64 x4) m) fun r3 =>
    if (z_bi r3) = 0 then
      f_X12_sets_30 x1 x2 x3 (2 : Int32) m
    else
      f_X12_sets_30 x1 x2 x3 (0 : Int32) m
theorem w_X12_sets_30 (d k : Nat) {o : zO} {G : Nat → Nat → zL → List zA → zM → Prop} (R : zRu (d + 2) tX12_sets 0 (z_hf []) o G) (x1 : Int32) (x2 : Int32) (x3 : Int32) (s1 : Int32) (m : zM) : zLK G (fun a => (z_cI a.1, a.2) : Int32 × zM → zO) o (f_X12_sets_30 x1 x2 x3 s1 m) some (k + 0) 30 [some (.inr (13, 0)), some (.inl (.int x1)), some (.inl (.int x2)), some (.inl (.int x3)), none, none] [.inl (.int s1), .inr (13, 0)] m := by
  unfold f_X12_sets_30
  refine zk_st R 3 37 [some (.inr (13, 0)), some (.inl (.int x1)), some (.inl (.int x2)), some (.inl (.int x3)), none, none] [.inl (.int ((z_sI m 13 0 0 s1).1 13 0 0))] (z_sI m 13 0 0 s1) rfl ⟨(Nat.le_of_ble_eq_true rfl), trivial, (Nat.le_of_ble_eq_true rfl), trivial⟩ ?_
  refine zk_br R rfl (fun _ => ?_) (fun _ => ?_)
  · refine zk_st R 1 43 [some (.inr (13, 0)), some (.inl (.int x1)), some (.inl (.int x2)), some (.inl (.int x3)), none, none] [.inr (13, 0)] (z_sI m 13 0 0 s1) rfl ⟨trivial, trivial⟩ ?_
    refine zk_call R (fun _ => none) id rfl (r_X12_changes (Nat.le_of_ble_eq_true rfl)) (fun b hb => w_X12_changes (d + 1) 0 (z_sI m 13 0 0 s1) b hb) (fun r2 => ?_)
    refine zk_gd fun e3 => ?_
    refine zk_st R 15 67 [some (.inr (13, 0)), some (.inl (.int x1)), some (.inl (.int x2)), some (.inl (.int x3)), none, some (.inl (.int (r2.1 23 0 (Int32.toNatClampNeg (x1 + x2)))))] [.inl (.int (r2.1 23 0 (Int32.toNatClampNeg (x1 + x2))))] (z_sI r2 23 0 (Int32.toNatClampNeg (x1 + x2)) x3) rfl ⟨trivial, (Nat.le_of_ble_eq_true rfl), trivial, trivial, trivial, ⟨(Nat.le_of_ble_eq_true rfl), z_inb_in e3⟩, trivial, trivial, (Nat.le_of_ble_eq_true rfl), trivial, trivial, trivial, trivial, ⟨(Nat.le_of_ble_eq_true rfl), z_inb_in e3⟩, trivial, trivial⟩ ?_
    exact zk_ret R rfl trivial rfl
  · refine zk_st R 1 41 [some (.inr (13, 0)), some (.inl (.int x1)), some (.inl (.int x2)), some (.inl (.int x3)), none, none] [.inl (.int (0 : Int32))] (z_sI m 13 0 0 s1) rfl ⟨trivial, trivial⟩ ?_
    exact zk_ret R rfl trivial rfl
theorem w_X12_sets (d k : Nat) (x1 : Int32) (x2 : Int32) (x3 : Int32) (x4 : Int32) (m : zM) (a : Int32 × zM) (ha : f_X12_sets x1 x2 x3 x4 m = some a) : z_Ev z_MT zN zRf (d + 3) (k + 0) 170 [.inr (13, 0), .inl (.int x1), .inl (.int x2), .inl (.int x3), .inl (.int x4)] m ((fun a => (z_cI a.1, a.2) : Int32 × zM → zO) a) := by
  refine zk_top (I := (yX12_sets, cX12_sets, 6, (some .int), [], tX12_sets, 13, 4, 13, 0, 0, 0)) (oc := (fun a => (z_cI a.1, a.2) : Int32 × zM → zO)) (a := a) rfl (Nat.le_of_ble_eq_true rfl) (fun G R => ?_) ha
  unfold f_X12_sets
  refine zk_st R 3 3 [some (.inr (13, 0)), some (.inl (.int x1)), some (.inl (.int x2)), some (.inl (.int x3)), some (.inl (.int x4)), none] [.inl (.int x2), .inr (13, 0), .inr (13, 0)] m rfl ⟨trivial, trivial, trivial, trivial⟩ ?_
  refine zk_call R (fun b => some (.inl (.int (z_bi b)))) (fun _ => m) rfl (r_X12_isCell (Nat.le_of_ble_eq_true rfl)) (fun b hb => w_X12_isCell d 0 x2 m b hb) (fun r1 => ?_)
  refine zk_br R rfl (fun _ => ?_) (fun _ => ?_)
  · refine zk_st R 2 30 [some (.inr (13, 0)), some (.inl (.int x1)), some (.inl (.int x2)), some (.inl (.int x3)), some (.inl (.int x4)), none] [.inl (.int (1 : Int32)), .inr (13, 0)] m rfl ⟨trivial, trivial, trivial⟩ ?_
    refine zk_mask R [true, true, true, true, false, false] rfl ?_
    exact w_X12_sets_30 d k R x1 x2 x3 (1 : Int32) m
  · refine zk_st R 5 19 [some (.inr (13, 0)), some (.inl (.int x1)), some (.inl (.int x2)), some (.inl (.int x3)), some (.inl (.int x4)), none] [.inl (.long (Int32.toInt64 x4)), .inl (.long (0 : Int64)), .inl (.long (Int32.toInt64 x3)), .inr (13, 0)] m rfl ⟨trivial, trivial, trivial, trivial, trivial, trivial⟩ ?_
    refine zk_call R (fun b => some (.inl (.int (z_bi b)))) (fun _ => m) rfl (r_X12_in) (fun b hb => w_X12_in (d + 1) 0 (Int32.toInt64 x3) (0 : Int64) (Int32.toInt64 x4) m b hb) (fun r3 => ?_)
    refine zk_br R rfl (fun _ => ?_) (fun _ => ?_)
    · refine zk_st R 1 30 [some (.inr (13, 0)), some (.inl (.int x1)), some (.inl (.int x2)), some (.inl (.int x3)), some (.inl (.int x4)), none] [.inl (.int (2 : Int32)), .inr (13, 0)] m rfl ⟨trivial, trivial⟩ ?_
      refine zk_mask R [true, true, true, true, false, false] rfl ?_
      exact w_X12_sets_30 d k R x1 x2 x3 (2 : Int32) m
    · refine zk_st R 2 30 [some (.inr (13, 0)), some (.inl (.int x1)), some (.inl (.int x2)), some (.inl (.int x3)), some (.inl (.int x4)), none] [.inl (.int (0 : Int32)), .inr (13, 0)] m rfl ⟨trivial, trivial, trivial⟩ ?_
      refine zk_mask R [true, true, true, true, false, false] rfl ?_
      exact w_X12_sets_30 d k R x1 x2 x3 (0 : Int32) m
theorem r_X12_raise {i : Nat} {t : List zA} (h : i < zN 13) : z_rcv zN (zKD 172) (.inr (13, i) :: t) := by
  rw [show zKD 172 = 13 from rfl]
  exact ⟨rfl, h⟩
noncomputable def f_X12_raise_21 (m : zM) : Option (Int32 × zM) :=
  Option.bind (f_X12_raises (1 : Int32) m) fun r1 =>
  some (r1.1, r1.2)
noncomputable def f_X12_raise_182 (c65 : Int32 → Int32 → Int32 → Int32 → Int32 → Int32 → zM → Option (Int32 × zM)) (x1 : Int32) (x2 : Int32) (x3 : Int32) (x4 : Int32) (x5 : Int32) (x6 : Int32) (x7 : Int32) (m : zM) : Option (Int32 × zM) :=
  z_gd (z_inb ((3 : Int32) + x6) (z_alen 23)) <| c65 x1 x2 x3 x4 x5 (x6 + (1 : Int32)) (z_sI m 23 0 (Int32.toNatClampNeg ((3 : Int32) + x6)) x7)
noncomputable def f_X12_raise_65 : Nat → Int32 → Int32 → Int32 → Int32 → Int32 → Int32 → zM → Option (Int32 × zM)
  | 0, _, _, _, _, _, _, _ => none
  | j + 1, x1, x2, x3, x4, x5, x6, m =>
    Option.bind (f_X12_cells m) fun r1 =>
    if r1 ≤ x6 then
      some (x5, m)
    else
      z_gd (z_nz x4) <| Option.bind (f_J9_min_7cf53 (z_irem x1 x4) (z_irem x2 x4) m) fun r4 =>
      z_gd (z_nz x4) <| Option.bind (f_J9_max_7cf53 (z_irem x1 x4) (z_irem x2 x4) m) fun r6 =>
      Option.bind (f_X12_in (Int32.toInt64 (z_irem x6 x4)) (Int32.toInt64 r4) (Int32.toInt64 r6) m) fun r7 =>
      if (z_bi r7) = 0 then
        f_X12_raise_65 j x1 x2 x3 x4 x5 (x6 + (1 : Int32)) m
      else
        z_gd (z_nz x4) <| Option.bind (f_J9_min_7cf53 (x1 / x4) (x2 / x4) m) fun r10 =>
        z_gd (z_nz x4) <| Option.bind (f_J9_max_7cf53 (x1 / x4) (x2 / x4) m) fun r12 =>
        Option.bind (f_X12_in (Int32.toInt64 (x6 / x4)) (Int32.toInt64 r10) (Int32.toInt64 r12) m) fun r13 =>
        if (z_bi r13) = 0 then
          f_X12_raise_65 j x1 x2 x3 x4 x5 (x6 + (1 : Int32)) m
        else
          Option.bind (f_X12_height x6 m) fun r15 =>
          Option.bind (f_J9_min_7cf53 (99 : Int32) (r15 + x3) m) fun r16 =>
          Option.bind (f_J9_max_7cf53 (0 : Int32) r16 m) fun r17 =>
          Option.bind (f_X12_height x6 m) fun r18 =>
          if r17 = r18 then
            f_X12_raise_182 (f_X12_raise_65 j) x1 x2 x3 x4 x5 x6 r17 m
          else
            f_X12_raise_182 (f_X12_raise_65 j) x1 x2 x3 x4 (x5 + (1 : Int32)) x6 r17 m
noncomputable def f_X12_raise (x1 : Int32) (x2 : Int32) (x3 : Int32) (m : zM) : Option (Int32 × zM) :=
  Option.bind (f_X12_isCell x1 (z_sI m 13 0 0 (0 : Int32))) fun r1 =>
  if (z_bi r1) = 0 then
    f_X12_raise_21 (z_sI m 13 0 0 (0 : Int32))
  else
    Option.bind (f_X12_isCell x2 (z_sI m 13 0 0 (0 : Int32))) fun r3 =>
    if (z_bi r3) = 0 then
      f_X12_raise_21 (z_sI m 13 0 0 (0 : Int32))
    else
      Option.bind (f_X12_in (Int32.toInt64 x3) (-99 : Int64) (99 : Int64) (z_sI m 13 0 0 (0 : Int32))) fun r5 =>
      if (z_bi r5) = 0 then
        Option.bind (f_X12_raises (2 : Int32) (z_sI m 13 0 0 (0 : Int32))) fun r7 =>
        some (r7.1, r7.2)
      else
        Option.bind (f_X12_changes (z_sI m 13 0 0 (0 : Int32))) fun r8 =>
        z_gd (z_inb (0 : Int32) (z_alen 23)) <| f_X12_raise_65 zF x1 x2 x3 (r8.1 23 0 (Int32.toNatClampNeg (0 : Int32))) (0 : Int32) (0 : Int32) r8
theorem w_X12_raise_21 (d k : Nat) {o : zO} {G : Nat → Nat → zL → List zA → zM → Prop} (R : zRu (d + 2) tX12_raise 0 (z_hf []) o G) (m : zM) : zLK G (fun a => (z_cI a.1, a.2) : Int32 × zM → zO) o (f_X12_raise_21 m) some (k + 0) 21 [some (.inr (13, 0)), none, none, none, none, none, none, none] [] m := by
  unfold f_X12_raise_21
  refine zk_st R 2 23 [some (.inr (13, 0)), none, none, none, none, none, none, none] [.inl (.int (1 : Int32)), .inr (13, 0)] m rfl ⟨trivial, trivial, trivial⟩ ?_
  refine zk_call R (fun b => some (.inl (.int b.1))) (fun b => b.2) rfl (r_X12_raises (Nat.le_of_ble_eq_true rfl)) (fun b hb => w_X12_raises (d + 1) 0 (1 : Int32) m b hb) (fun r1 => ?_)
  exact zk_ret R rfl trivial rfl
theorem w_X12_raise_182 (d k : Nat) {o : zO} {G : Nat → Nat → zL → List zA → zM → Prop} (R : zRu (d + 2) tX12_raise 0 (z_hf []) o G) (c65 : Int32 → Int32 → Int32 → Int32 → Int32 → Int32 → zM → Option (Int32 × zM)) (hc65 : ∀ (x1 : Int32) (x2 : Int32) (x3 : Int32) (x4 : Int32) (x5 : Int32) (x6 : Int32) (m : zM), zLK G (fun a => (z_cI a.1, a.2) : Int32 × zM → zO) o (c65 x1 x2 x3 x4 x5 x6 m) some (k + 0) 65 [some (.inr (13, 0)), some (.inl (.int x1)), some (.inl (.int x2)), some (.inl (.int x3)), some (.inl (.int x4)), some (.inl (.int x5)), some (.inl (.int x6)), none] [] m) (x1 : Int32) (x2 : Int32) (x3 : Int32) (x4 : Int32) (x5 : Int32) (x6 : Int32) (x7 : Int32) (m : zM) : zLK G (fun a => (z_cI a.1, a.2) : Int32 × zM → zO) o (f_X12_raise_182 c65 x1 x2 x3 x4 x5 x6 x7 m) some (k + 0) 182 [some (.inr (13, 0)), some (.inl (.int x1)), some (.inl (.int x2)), some (.inl (.int x3)), some (.inl (.int x4)), some (.inl (.int x5)), some (.inl (.int x6)), some (.inl (.int x7))] [] m := by
  unfold f_X12_raise_182
  refine zk_gd fun e1 => ?_
  refine zk_st R 9 65 [some (.inr (13, 0)), some (.inl (.int x1)), some (.inl (.int x2)), some (.inl (.int x3)), some (.inl (.int x4)), some (.inl (.int x5)), some (.inl (.int (x6 + (1 : Int32)))), some (.inl (.int x7))] [] (z_sI m 23 0 (Int32.toNatClampNeg ((3 : Int32) + x6)) x7) rfl ⟨trivial, (Nat.le_of_ble_eq_true rfl), trivial, trivial, trivial, trivial, ⟨(Nat.le_of_ble_eq_true rfl), z_inb_in e1⟩, trivial, trivial, trivial⟩ ?_
  refine zk_mask R [true, true, true, true, true, true, true, false] rfl ?_
  exact hc65 x1 x2 x3 x4 x5 (x6 + (1 : Int32)) (z_sI m 23 0 (Int32.toNatClampNeg ((3 : Int32) + x6)) x7)
theorem w_X12_raise_65 (d k : Nat) {o : zO} {G : Nat → Nat → zL → List zA → zM → Prop} (R : zRu (d + 2) tX12_raise 0 (z_hf []) o G) : ∀ (j : Nat) (x1 : Int32) (x2 : Int32) (x3 : Int32) (x4 : Int32) (x5 : Int32) (x6 : Int32) (m : zM), zLK G (fun a => (z_cI a.1, a.2) : Int32 × zM → zO) o (f_X12_raise_65 j x1 x2 x3 x4 x5 x6 m) some (k + 0) 65 [some (.inr (13, 0)), some (.inl (.int x1)), some (.inl (.int x2)), some (.inl (.int x3)), some (.inl (.int x4)), some (.inl (.int x5)), some (.inl (.int x6)), none] [] m := by
  intro j
  induction j with
  | zero =>
    intro _ _ _ _ _ _ _
    exact zk_none
  | succ j ih =>
    intro x1 x2 x3 x4 x5 x6 m
    unfold f_X12_raise_65
    refine zk_st R 2 68 [some (.inr (13, 0)), some (.inl (.int x1)), some (.inl (.int x2)), some (.inl (.int x3)), some (.inl (.int x4)), some (.inl (.int x5)), some (.inl (.int x6)), none] [.inr (13, 0), .inl (.int x6)] m rfl ⟨trivial, trivial, trivial⟩ ?_
    refine zk_call R (fun b => some (.inl (.int b))) (fun _ => m) rfl (r_X12_cells (Nat.le_of_ble_eq_true rfl)) (fun b hb => w_X12_cells (d + 1) 0 m b hb) (fun r1 => ?_)
    refine zk_br R rfl (fun _ => ?_) (fun _ => ?_)
    · refine zk_st R 1 201 [some (.inr (13, 0)), some (.inl (.int x1)), some (.inl (.int x2)), some (.inl (.int x3)), some (.inl (.int x4)), some (.inl (.int x5)), some (.inl (.int x6)), none] [.inl (.int x5)] m rfl ⟨trivial, trivial⟩ ?_
      exact zk_ret R rfl trivial rfl
    · refine zk_gd fun e3 => ?_
      refine zk_st R 10 88 [some (.inr (13, 0)), some (.inl (.int x1)), some (.inl (.int x2)), some (.inl (.int x3)), some (.inl (.int x4)), some (.inl (.int x5)), some (.inl (.int x6)), none] [.inl (.int (z_irem x2 x4)), .inl (.int (z_irem x1 x4)), .inl (.long (Int32.toInt64 (z_irem x6 x4)))] m rfl ⟨trivial, trivial, (z_nz_ne e3), trivial, trivial, trivial, (z_nz_ne e3), trivial, trivial, (z_nz_ne e3), trivial⟩ ?_
      refine zk_call R (fun b => some (.inl (.int b))) (fun _ => m) rfl (r_J9_min_7cf53) (fun b hb => w_J9_min_7cf53 (d + 1) 0 (z_irem x1 x4) (z_irem x2 x4) m b hb) (fun r4 => ?_)
      refine zk_gd fun e5 => ?_
      refine zk_st R 7 100 [some (.inr (13, 0)), some (.inl (.int x1)), some (.inl (.int x2)), some (.inl (.int x3)), some (.inl (.int x4)), some (.inl (.int x5)), some (.inl (.int x6)), none] [.inl (.int (z_irem x2 x4)), .inl (.int (z_irem x1 x4)), .inl (.long (Int32.toInt64 r4)), .inl (.long (Int32.toInt64 (z_irem x6 x4)))] m rfl ⟨trivial, trivial, trivial, (z_nz_ne e5), trivial, trivial, (z_nz_ne e5), trivial⟩ ?_
      refine zk_call R (fun b => some (.inl (.int b))) (fun _ => m) rfl (r_J9_max_7cf53) (fun b hb => w_J9_max_7cf53 (d + 1) 0 (z_irem x1 x4) (z_irem x2 x4) m b hb) (fun r6 => ?_)
      refine zk_st R 1 104 [some (.inr (13, 0)), some (.inl (.int x1)), some (.inl (.int x2)), some (.inl (.int x3)), some (.inl (.int x4)), some (.inl (.int x5)), some (.inl (.int x6)), none] [.inl (.long (Int32.toInt64 r6)), .inl (.long (Int32.toInt64 r4)), .inl (.long (Int32.toInt64 (z_irem x6 x4)))] m rfl ⟨trivial, trivial⟩ ?_
      refine zk_call R (fun b => some (.inl (.int (z_bi b)))) (fun _ => m) rfl (r_X12_in) (fun b hb => w_X12_in (d + 1) 0 (Int32.toInt64 (z_irem x6 x4)) (Int32.toInt64 r4) (Int32.toInt64 r6) m b hb) (fun r7 => ?_)
      refine zk_br R rfl (fun _ => ?_) (fun _ => ?_)
      · refine zk_st R 2 65 [some (.inr (13, 0)), some (.inl (.int x1)), some (.inl (.int x2)), some (.inl (.int x3)), some (.inl (.int x4)), some (.inl (.int x5)), some (.inl (.int (x6 + (1 : Int32)))), none] [] m rfl ⟨trivial, trivial, trivial⟩ ?_
        refine zk_mask R [true, true, true, true, true, true, true, false] rfl ?_
        exact ih x1 x2 x3 x4 x5 (x6 + (1 : Int32)) m
      · refine zk_gd fun e9 => ?_
        refine zk_st R 10 124 [some (.inr (13, 0)), some (.inl (.int x1)), some (.inl (.int x2)), some (.inl (.int x3)), some (.inl (.int x4)), some (.inl (.int x5)), some (.inl (.int x6)), none] [.inl (.int (x2 / x4)), .inl (.int (x1 / x4)), .inl (.long (Int32.toInt64 (x6 / x4)))] m rfl ⟨trivial, trivial, (z_nz_ne e9), trivial, trivial, trivial, (z_nz_ne e9), trivial, trivial, (z_nz_ne e9), trivial⟩ ?_
        refine zk_call R (fun b => some (.inl (.int b))) (fun _ => m) rfl (r_J9_min_7cf53) (fun b hb => w_J9_min_7cf53 (d + 1) 0 (x1 / x4) (x2 / x4) m b hb) (fun r10 => ?_)
        refine zk_gd fun e11 => ?_
        refine zk_st R 7 136 [some (.inr (13, 0)), some (.inl (.int x1)), some (.inl (.int x2)), some (.inl (.int x3)), some (.inl (.int x4)), some (.inl (.int x5)), some (.inl (.int x6)), none] [.inl (.int (x2 / x4)), .inl (.int (x1 / x4)), .inl (.long (Int32.toInt64 r10)), .inl (.long (Int32.toInt64 (x6 / x4)))] m rfl ⟨trivial, trivial, trivial, (z_nz_ne e11), trivial, trivial, (z_nz_ne e11), trivial⟩ ?_
        refine zk_call R (fun b => some (.inl (.int b))) (fun _ => m) rfl (r_J9_max_7cf53) (fun b hb => w_J9_max_7cf53 (d + 1) 0 (x1 / x4) (x2 / x4) m b hb) (fun r12 => ?_)
        refine zk_st R 1 140 [some (.inr (13, 0)), some (.inl (.int x1)), some (.inl (.int x2)), some (.inl (.int x3)), some (.inl (.int x4)), some (.inl (.int x5)), some (.inl (.int x6)), none] [.inl (.long (Int32.toInt64 r12)), .inl (.long (Int32.toInt64 r10)), .inl (.long (Int32.toInt64 (x6 / x4)))] m rfl ⟨trivial, trivial⟩ ?_
        refine zk_call R (fun b => some (.inl (.int (z_bi b)))) (fun _ => m) rfl (r_X12_in) (fun b hb => w_X12_in (d + 1) 0 (Int32.toInt64 (x6 / x4)) (Int32.toInt64 r10) (Int32.toInt64 r12) m b hb) (fun r13 => ?_)
        refine zk_br R rfl (fun _ => ?_) (fun _ => ?_)
        · refine zk_st R 3 65 [some (.inr (13, 0)), some (.inl (.int x1)), some (.inl (.int x2)), some (.inl (.int x3)), some (.inl (.int x4)), some (.inl (.int x5)), some (.inl (.int (x6 + (1 : Int32)))), none] [] m rfl ⟨trivial, trivial, trivial, trivial⟩ ?_
          refine zk_mask R [true, true, true, true, true, true, true, false] rfl ?_
          exact ih x1 x2 x3 x4 x5 (x6 + (1 : Int32)) m
        · refine zk_st R 4 155 [some (.inr (13, 0)), some (.inl (.int x1)), some (.inl (.int x2)), some (.inl (.int x3)), some (.inl (.int x4)), some (.inl (.int x5)), some (.inl (.int x6)), none] [.inl (.int x6), .inr (13, 0), .inl (.int (99 : Int32)), .inl (.int (0 : Int32))] m rfl ⟨trivial, trivial, trivial, trivial, trivial⟩ ?_
          refine zk_call R (fun b => some (.inl (.int b))) (fun _ => m) rfl (r_X12_height (Nat.le_of_ble_eq_true rfl)) (fun b hb => w_X12_height (d + 1) 0 x6 m b hb) (fun r15 => ?_)
          refine zk_st R 2 160 [some (.inr (13, 0)), some (.inl (.int x1)), some (.inl (.int x2)), some (.inl (.int x3)), some (.inl (.int x4)), some (.inl (.int x5)), some (.inl (.int x6)), none] [.inl (.int (r15 + x3)), .inl (.int (99 : Int32)), .inl (.int (0 : Int32))] m rfl ⟨trivial, trivial, trivial⟩ ?_
          refine zk_call R (fun b => some (.inl (.int b))) (fun _ => m) rfl (r_J9_min_7cf53) (fun b hb => w_J9_min_7cf53 (d + 1) 0 (99 : Int32) (r15 + x3) m b hb) (fun r16 => ?_)
          refine zk_call R (fun b => some (.inl (.int b))) (fun _ => m) rfl (r_J9_max_7cf53) (fun b hb => w_J9_max_7cf53 (d + 1) 0 (0 : Int32) r16 m b hb) (fun r17 => ?_)
          refine zk_st R 4 173 [some (.inr (13, 0)), some (.inl (.int x1)), some (.inl (.int x2)), some (.inl (.int x3)), some (.inl (.int x4)), some (.inl (.int x5)), some (.inl (.int x6)), some (.inl (.int r17))] [.inl (.int x6), .inr (13, 0), .inl (.int r17)] m rfl ⟨trivial, trivial, trivial, trivial, trivial⟩ ?_
          refine zk_call R (fun b => some (.inl (.int b))) (fun _ => m) rfl (r_X12_height (Nat.le_of_ble_eq_true rfl)) (fun b hb => w_X12_height (d + 1) 0 x6 m b hb) (fun r18 => ?_)
          refine zk_br R rfl (fun _ => ?_) (fun _ => ?_)
          · refine zk_mask R [true, true, true, true, true, true, true, true] rfl ?_
            exact w_X12_raise_182 d k R (f_X12_raise_65 j) ih x1 x2 x3 x4 x5 x6 r17 m
          · refine zk_st R 1 182 [some (.inr (13, 0)), some (.inl (.int x1)), some (.inl (.int x2)), some (.inl (.int x3)), some (.inl (.int x4)), some (.inl (.int (x5 + (1 : Int32)))), some (.inl (.int x6)), some (.inl (.int r17))] [] m rfl ⟨trivial, trivial⟩ ?_
            refine zk_mask R [true, true, true, true, true, true, true, true] rfl ?_
            exact w_X12_raise_182 d k R (f_X12_raise_65 j) ih x1 x2 x3 x4 (x5 + (1 : Int32)) x6 r17 m
theorem w_X12_raise (d k : Nat) (x1 : Int32) (x2 : Int32) (x3 : Int32) (m : zM) (a : Int32 × zM) (ha : f_X12_raise x1 x2 x3 m = some a) : z_Ev z_MT zN zRf (d + 3) (k + 0) 172 [.inr (13, 0), .inl (.int x1), .inl (.int x2), .inl (.int x3)] m ((fun a => (z_cI a.1, a.2) : Int32 × zM → zO) a) := by
  refine zk_top (I := (yX12_raise, cX12_raise, 8, (some .int), [], tX12_raise, 13, 3, 13, 0, 0, 0)) (oc := (fun a => (z_cI a.1, a.2) : Int32 × zM → zO)) (a := a) rfl (Nat.le_of_ble_eq_true rfl) (fun G R => ?_) ha
  unfold f_X12_raise
  refine zk_st R 5 7 [some (.inr (13, 0)), some (.inl (.int x1)), some (.inl (.int x2)), some (.inl (.int x3)), none, none, none, none] [.inl (.int x1), .inr (13, 0)] (z_sI m 13 0 0 (0 : Int32)) rfl ⟨trivial, trivial, (Nat.le_of_ble_eq_true rfl), trivial, trivial, trivial⟩ ?_
  refine zk_call R (fun b => some (.inl (.int (z_bi b)))) (fun _ => (z_sI m 13 0 0 (0 : Int32))) rfl (r_X12_isCell (Nat.le_of_ble_eq_true rfl)) (fun b hb => w_X12_isCell d 0 x1 (z_sI m 13 0 0 (0 : Int32)) b hb) (fun r1 => ?_)
  refine zk_br R rfl (fun _ => ?_) (fun _ => ?_)
  · refine zk_mask R [true, false, false, false, false, false, false, false] rfl ?_
    exact w_X12_raise_21 d k R (z_sI m 13 0 0 (0 : Int32))
  · refine zk_st R 2 15 [some (.inr (13, 0)), some (.inl (.int x1)), some (.inl (.int x2)), some (.inl (.int x3)), none, none, none, none] [.inl (.int x2), .inr (13, 0)] (z_sI m 13 0 0 (0 : Int32)) rfl ⟨trivial, trivial, trivial⟩ ?_
    refine zk_call R (fun b => some (.inl (.int (z_bi b)))) (fun _ => (z_sI m 13 0 0 (0 : Int32))) rfl (r_X12_isCell (Nat.le_of_ble_eq_true rfl)) (fun b hb => w_X12_isCell d 0 x2 (z_sI m 13 0 0 (0 : Int32)) b hb) (fun r3 => ?_)
    refine zk_br R rfl (fun _ => ?_) (fun _ => ?_)
    · refine zk_mask R [true, false, false, false, false, false, false, false] rfl ?_
      exact w_X12_raise_21 d k R (z_sI m 13 0 0 (0 : Int32))
    · refine zk_st R 4 35 [some (.inr (13, 0)), some (.inl (.int x1)), some (.inl (.int x2)), some (.inl (.int x3)), none, none, none, none] [.inl (.long (99 : Int64)), .inl (.long (-99 : Int64)), .inl (.long (Int32.toInt64 x3))] (z_sI m 13 0 0 (0 : Int32)) rfl ⟨trivial, trivial, trivial, trivial, trivial⟩ ?_
      refine zk_call R (fun b => some (.inl (.int (z_bi b)))) (fun _ => (z_sI m 13 0 0 (0 : Int32))) rfl (r_X12_in) (fun b hb => w_X12_in (d + 1) 0 (Int32.toInt64 x3) (-99 : Int64) (99 : Int64) (z_sI m 13 0 0 (0 : Int32)) b hb) (fun r5 => ?_)
      refine zk_br R rfl (fun _ => ?_) (fun _ => ?_)
      · refine zk_st R 2 43 [some (.inr (13, 0)), some (.inl (.int x1)), some (.inl (.int x2)), some (.inl (.int x3)), none, none, none, none] [.inl (.int (2 : Int32)), .inr (13, 0)] (z_sI m 13 0 0 (0 : Int32)) rfl ⟨trivial, trivial, trivial⟩ ?_
        refine zk_call R (fun b => some (.inl (.int b.1))) (fun b => b.2) rfl (r_X12_raises (Nat.le_of_ble_eq_true rfl)) (fun b hb => w_X12_raises (d + 1) 0 (2 : Int32) (z_sI m 13 0 0 (0 : Int32)) b hb) (fun r7 => ?_)
        exact zk_ret R rfl trivial rfl
      · refine zk_st R 1 48 [some (.inr (13, 0)), some (.inl (.int x1)), some (.inl (.int x2)), some (.inl (.int x3)), none, none, none, none] [.inr (13, 0)] (z_sI m 13 0 0 (0 : Int32)) rfl ⟨trivial, trivial⟩ ?_
        refine zk_call R (fun _ => none) id rfl (r_X12_changes (Nat.le_of_ble_eq_true rfl)) (fun b hb => w_X12_changes (d + 1) 0 (z_sI m 13 0 0 (0 : Int32)) b hb) (fun r8 => ?_)
        refine zk_gd fun e9 => ?_
        refine zk_st R 9 65 [some (.inr (13, 0)), some (.inl (.int x1)), some (.inl (.int x2)), some (.inl (.int x3)), some (.inl (.int (r8.1 23 0 (Int32.toNatClampNeg (0 : Int32))))), some (.inl (.int (0 : Int32))), some (.inl (.int (0 : Int32))), none] [] r8 rfl ⟨trivial, (Nat.le_of_ble_eq_true rfl), trivial, ⟨(Nat.le_of_ble_eq_true rfl), z_inb_in e9⟩, trivial, trivial, trivial, trivial, trivial, trivial⟩ ?_
        refine zk_mask R [true, true, true, true, true, true, true, false] rfl ?_
        exact w_X12_raise_65 d k R zF x1 x2 x3 (r8.1 23 0 (Int32.toNatClampNeg (0 : Int32))) (0 : Int32) (0 : Int32) r8
theorem r_X12_setOutlet {i : Nat} {t : List zA} (h : i < zN 13) : z_rcv zN (zKD 175) (.inr (13, i) :: t) := by
  rw [show zKD 175 = 13 from rfl]
  exact ⟨rfl, h⟩
noncomputable def f_X12_setOutlet_78 (x3 : Int32) (s1 : Int32) (s2 : Int32) (m : zM) : Option (Bool × zM) :=
  z_gd (z_inb s1 (z_alen 23)) <| z_gd (z_b01 x3) <| some ((decide (x3 = 1)), (z_sI m 23 0 (Int32.toNatClampNeg s1) s2))
noncomputable def f_X12_setOutlet_38 (x1 : Int32) (x2 : Int32) (s1 : Int32) (m : zM) : Option (Bool × zM) :=
  if ((z_sI m 13 0 0 s1).1 13 0 0) ≤ 0 then
    Option.bind (f_X12_changes (z_sI m 13 0 0 s1)) fun r2 =>
    Option.bind (f_X12_isOutlet x1 r2) fun r3 =>
    if x2 = 0 then
      f_X12_setOutlet_78 (z_bi r3) ((195 : Int32) + x1) (0 : Int32) r2
    else
      f_X12_setOutlet_78 (z_bi r3) ((195 : Int32) + x1) (1 : Int32) r2
  else
    some (false, (z_sI m 13 0 0 s1))
noncomputable def f_X12_setOutlet_37 (x1 : Int32) (x2 : Int32) (m : zM) : Option (Bool × zM) :=
  f_X12_setOutlet_38 x1 x2 (0 : Int32) m
noncomputable def f_X12_setOutlet (x1 : Int32) (x2 : Int32) (m : zM) : Option (Bool × zM) :=
  Option.bind (f_X12_isCell x1 m) fun r1 =>
  if (z_bi r1) = 0 then
    f_X12_setOutlet_38 x1 x2 (1 : Int32) m
  else
    if x2 = 0 then
      Option.bind (f_X12_isOutlet x1 m) fun r4 =>
      if (z_bi r4) = 0 then
        f_X12_setOutlet_37 x1 x2 m
      else
        Option.bind (f_X12_outlets m) fun r6 =>
        if r6 = (1 : Int32) then
          f_X12_setOutlet_38 x1 x2 (2 : Int32) m
        else
          f_X12_setOutlet_37 x1 x2 m
    else
      f_X12_setOutlet_37 x1 x2 m
theorem w_X12_setOutlet_78 (d k : Nat) {o : zO} {G : Nat → Nat → zL → List zA → zM → Prop} (R : zRu (d + 2) tX12_setOutlet 1 (z_hf []) o G) (x3 : Int32) (s1 : Int32) (s2 : Int32) (m : zM) : zLK G (fun a => (z_cB a.1, a.2) : Bool × zM → zO) o (f_X12_setOutlet_78 x3 s1 s2 m) some (k + 0) 78 [none, none, none, some (.inl (.int x3))] [.inl (.int s2), .inl (.int s1), .inr (23, 0)] m := by
  unfold f_X12_setOutlet_78
  refine zk_gd fun e1 => ?_
  refine zk_gd fun e2 => ?_
  refine zk_st R 2 80 [none, none, none, some (.inl (.int x3))] [.inl (.int x3)] (z_sI m 23 0 (Int32.toNatClampNeg s1) s2) rfl ⟨⟨(Nat.le_of_ble_eq_true rfl), z_inb_in e1⟩, trivial, trivial⟩ ?_
  exact zk_retb R e2 rfl (z_b01_of e2) rfl
theorem w_X12_setOutlet_38 (d k : Nat) {o : zO} {G : Nat → Nat → zL → List zA → zM → Prop} (R : zRu (d + 2) tX12_setOutlet 1 (z_hf []) o G) (x1 : Int32) (x2 : Int32) (s1 : Int32) (m : zM) : zLK G (fun a => (z_cB a.1, a.2) : Bool × zM → zO) o (f_X12_setOutlet_38 x1 x2 s1 m) some (k + 0) 38 [some (.inr (13, 0)), some (.inl (.int x1)), some (.inl (.int x2)), none] [.inl (.int s1), .inr (13, 0)] m := by
  unfold f_X12_setOutlet_38
  refine zk_st R 3 45 [some (.inr (13, 0)), some (.inl (.int x1)), some (.inl (.int x2)), none] [.inl (.int ((z_sI m 13 0 0 s1).1 13 0 0))] (z_sI m 13 0 0 s1) rfl ⟨(Nat.le_of_ble_eq_true rfl), trivial, (Nat.le_of_ble_eq_true rfl), trivial⟩ ?_
  refine zk_br R rfl (fun _ => ?_) (fun _ => ?_)
  · refine zk_st R 1 51 [some (.inr (13, 0)), some (.inl (.int x1)), some (.inl (.int x2)), none] [.inr (13, 0)] (z_sI m 13 0 0 s1) rfl ⟨trivial, trivial⟩ ?_
    refine zk_call R (fun _ => none) id rfl (r_X12_changes (Nat.le_of_ble_eq_true rfl)) (fun b hb => w_X12_changes (d + 1) 0 (z_sI m 13 0 0 s1) b hb) (fun r2 => ?_)
    refine zk_st R 2 56 [some (.inr (13, 0)), some (.inl (.int x1)), some (.inl (.int x2)), none] [.inl (.int x1), .inr (13, 0)] r2 rfl ⟨trivial, trivial, trivial⟩ ?_
    refine zk_call R (fun b => some (.inl (.int (z_bi b)))) (fun _ => r2) rfl (r_X12_isOutlet (Nat.le_of_ble_eq_true rfl)) (fun b hb => w_X12_isOutlet (d + 1) 0 x1 r2 b hb) (fun r3 => ?_)
    refine zk_st R 7 70 [some (.inr (13, 0)), some (.inl (.int x1)), some (.inl (.int x2)), some (.inl (.int (z_bi r3)))] [.inl (.int x2), .inl (.int ((195 : Int32) + x1)), .inr (23, 0)] r2 rfl ⟨trivial, trivial, (Nat.le_of_ble_eq_true rfl), trivial, trivial, trivial, trivial, trivial⟩ ?_
    refine zk_br R rfl (fun _ => ?_) (fun _ => ?_)
    · refine zk_st R 1 78 [some (.inr (13, 0)), some (.inl (.int x1)), some (.inl (.int x2)), some (.inl (.int (z_bi r3)))] [.inl (.int (0 : Int32)), .inl (.int ((195 : Int32) + x1)), .inr (23, 0)] r2 rfl ⟨trivial, trivial⟩ ?_
      refine zk_mask R [false, false, false, true] rfl ?_
      exact w_X12_setOutlet_78 d k R (z_bi r3) ((195 : Int32) + x1) (0 : Int32) r2
    · refine zk_st R 2 78 [some (.inr (13, 0)), some (.inl (.int x1)), some (.inl (.int x2)), some (.inl (.int (z_bi r3)))] [.inl (.int (1 : Int32)), .inl (.int ((195 : Int32) + x1)), .inr (23, 0)] r2 rfl ⟨trivial, trivial, trivial⟩ ?_
      refine zk_mask R [false, false, false, true] rfl ?_
      exact w_X12_setOutlet_78 d k R (z_bi r3) ((195 : Int32) + x1) (1 : Int32) r2
  · refine zk_st R 1 49 [some (.inr (13, 0)), some (.inl (.int x1)), some (.inl (.int x2)), none] [.inl (.int (0 : Int32))] (z_sI m 13 0 0 s1) rfl ⟨trivial, trivial⟩ ?_
    exact zk_ret R rfl (Or.inl rfl) rfl
theorem w_X12_setOutlet_37 (d k : Nat) {o : zO} {G : Nat → Nat → zL → List zA → zM → Prop} (R : zRu (d + 2) tX12_setOutlet 1 (z_hf []) o G) (x1 : Int32) (x2 : Int32) (m : zM) : zLK G (fun a => (z_cB a.1, a.2) : Bool × zM → zO) o (f_X12_setOutlet_37 x1 x2 m) some (k + 0) 37 [some (.inr (13, 0)), some (.inl (.int x1)), some (.inl (.int x2)), none] [.inr (13, 0)] m := by
  unfold f_X12_setOutlet_37
  refine zk_st R 1 38 [some (.inr (13, 0)), some (.inl (.int x1)), some (.inl (.int x2)), none] [.inl (.int (0 : Int32)), .inr (13, 0)] m rfl ⟨trivial, trivial⟩ ?_
  refine zk_mask R [true, true, true, false] rfl ?_
  exact w_X12_setOutlet_38 d k R x1 x2 (0 : Int32) m
theorem w_X12_setOutlet (d k : Nat) (x1 : Int32) (x2 : Int32) (m : zM) (a : Bool × zM) (ha : f_X12_setOutlet x1 x2 m = some a) : z_Ev z_MT zN zRf (d + 3) (k + 0) 175 [.inr (13, 0), .inl (.int x1), .inl (.int x2)] m ((fun a => (z_cB a.1, a.2) : Bool × zM → zO) a) := by
  refine zk_top (I := (yX12_setOutlet, cX12_setOutlet, 4, (some .boolean), [], tX12_setOutlet, 13, 2, 13, 0, 0, 0)) (oc := (fun a => (z_cB a.1, a.2) : Bool × zM → zO)) (a := a) rfl (Nat.le_of_ble_eq_true rfl) (fun G R => ?_) ha
  unfold f_X12_setOutlet
  refine zk_st R 3 3 [some (.inr (13, 0)), some (.inl (.int x1)), some (.inl (.int x2)), none] [.inl (.int x1), .inr (13, 0), .inr (13, 0)] m rfl ⟨trivial, trivial, trivial, trivial⟩ ?_
  refine zk_call R (fun b => some (.inl (.int (z_bi b)))) (fun _ => m) rfl (r_X12_isCell (Nat.le_of_ble_eq_true rfl)) (fun b hb => w_X12_isCell d 0 x1 m b hb) (fun r1 => ?_)
  refine zk_br R rfl (fun _ => ?_) (fun _ => ?_)
  · refine zk_st R 2 38 [some (.inr (13, 0)), some (.inl (.int x1)), some (.inl (.int x2)), none] [.inl (.int (1 : Int32)), .inr (13, 0)] m rfl ⟨trivial, trivial, trivial⟩ ?_
    refine zk_mask R [true, true, true, false] rfl ?_
    exact w_X12_setOutlet_38 d k R x1 x2 (1 : Int32) m
  · refine zk_st R 1 14 [some (.inr (13, 0)), some (.inl (.int x1)), some (.inl (.int x2)), none] [.inl (.int x2), .inr (13, 0)] m rfl ⟨trivial, trivial⟩ ?_
    refine zk_br R rfl (fun _ => ?_) (fun _ => ?_)
    · refine zk_st R 2 19 [some (.inr (13, 0)), some (.inl (.int x1)), some (.inl (.int x2)), none] [.inl (.int x1), .inr (13, 0), .inr (13, 0)] m rfl ⟨trivial, trivial, trivial⟩ ?_
      refine zk_call R (fun b => some (.inl (.int (z_bi b)))) (fun _ => m) rfl (r_X12_isOutlet (Nat.le_of_ble_eq_true rfl)) (fun b hb => w_X12_isOutlet (d + 1) 0 x1 m b hb) (fun r4 => ?_)
      refine zk_br R rfl (fun _ => ?_) (fun _ => ?_)
      · refine zk_mask R [true, true, true, false] rfl ?_
        exact w_X12_setOutlet_37 d k R x1 x2 m
      · refine zk_st R 1 26 [some (.inr (13, 0)), some (.inl (.int x1)), some (.inl (.int x2)), none] [.inr (13, 0), .inr (13, 0)] m rfl ⟨trivial, trivial⟩ ?_
        refine zk_call R (fun b => some (.inl (.int b))) (fun _ => m) rfl (r_X12_outlets (Nat.le_of_ble_eq_true rfl)) (fun b hb => w_X12_outlets d 0 m b hb) (fun r6 => ?_)
        refine zk_st R 1 30 [some (.inr (13, 0)), some (.inl (.int x1)), some (.inl (.int x2)), none] [.inl (.int (1 : Int32)), .inl (.int r6), .inr (13, 0)] m rfl ⟨trivial, trivial⟩ ?_
        refine zk_br R rfl (fun _ => ?_) (fun _ => ?_)
        · refine zk_st R 2 38 [some (.inr (13, 0)), some (.inl (.int x1)), some (.inl (.int x2)), none] [.inl (.int (2 : Int32)), .inr (13, 0)] m rfl ⟨trivial, trivial, trivial⟩ ?_
          refine zk_mask R [true, true, true, false] rfl ?_
          exact w_X12_setOutlet_38 d k R x1 x2 (2 : Int32) m
        · refine zk_mask R [true, true, true, false] rfl ?_
          exact w_X12_setOutlet_37 d k R x1 x2 m
    · refine zk_mask R [true, true, true, false] rfl ?_
      exact w_X12_setOutlet_37 d k R x1 x2 m
theorem r_X12_cell {i : Nat} {t : List zA} (h : i < zN 13) : z_rcv zN (zKD 177) (.inr (13, i) :: t) := by
  rw [show zKD 177 = 13 from rfl]
  exact ⟨rfl, h⟩
noncomputable def f_X12_cell (x1 : Int32) (x2 : Int32) (m : zM) : Option (Int32 × zM) :=
  Option.bind (f_X12_isCell x1 (z_sI m 13 0 0 (0 : Int32))) fun r1 =>
  if (z_bi r1) = 0 then
    Option.bind (f_X12_raises (1 : Int32) (z_sI m 13 0 0 (0 : Int32))) fun r3 =>
    some (r3.1, r3.2)
  else
    Option.bind (f_X12_in (Int32.toInt64 x2) (0 : Int64) (3 : Int64) (z_sI m 13 0 0 (0 : Int32))) fun r4 =>
    if (z_bi r4) = 0 then
      Option.bind (f_X12_raises (2 : Int32) (z_sI m 13 0 0 (0 : Int32))) fun r6 =>
      some (r6.1, r6.2)
    else
      z_gd (z_inb (((3 : Int32) + ((64 : Int32) * x2)) + x1) (z_alen 23)) <| some (((z_sI m 13 0 0 (0 : Int32)).1 23 0 (Int32.toNatClampNeg (((3 : Int32) + ((64 : Int32) * x2)) + x1))), (z_sI m 13 0 0 (0 : Int32)))
theorem w_X12_cell (d k : Nat) (x1 : Int32) (x2 : Int32) (m : zM) (a : Int32 × zM) (ha : f_X12_cell x1 x2 m = some a) : z_Ev z_MT zN zRf (d + 3) (k + 0) 177 [.inr (13, 0), .inl (.int x1), .inl (.int x2)] m ((fun a => (z_cI a.1, a.2) : Int32 × zM → zO) a) := by
  refine zk_top (I := (yX12_cell, cX12_cell, 3, (some .int), [], tX12_cell, 13, 2, 13, 0, 0, 0)) (oc := (fun a => (z_cI a.1, a.2) : Int32 × zM → zO)) (a := a) rfl (Nat.le_of_ble_eq_true rfl) (fun G R => ?_) ha
  unfold f_X12_cell
  refine zk_st R 5 7 [some (.inr (13, 0)), some (.inl (.int x1)), some (.inl (.int x2))] [.inl (.int x1), .inr (13, 0)] (z_sI m 13 0 0 (0 : Int32)) rfl ⟨trivial, trivial, (Nat.le_of_ble_eq_true rfl), trivial, trivial, trivial⟩ ?_
  refine zk_call R (fun b => some (.inl (.int (z_bi b)))) (fun _ => (z_sI m 13 0 0 (0 : Int32))) rfl (r_X12_isCell (Nat.le_of_ble_eq_true rfl)) (fun b hb => w_X12_isCell d 0 x1 (z_sI m 13 0 0 (0 : Int32)) b hb) (fun r1 => ?_)
  refine zk_br R rfl (fun _ => ?_) (fun _ => ?_)
  · refine zk_st R 2 15 [some (.inr (13, 0)), some (.inl (.int x1)), some (.inl (.int x2))] [.inl (.int (1 : Int32)), .inr (13, 0)] (z_sI m 13 0 0 (0 : Int32)) rfl ⟨trivial, trivial, trivial⟩ ?_
    refine zk_call R (fun b => some (.inl (.int b.1))) (fun b => b.2) rfl (r_X12_raises (Nat.le_of_ble_eq_true rfl)) (fun b hb => w_X12_raises (d + 1) 0 (1 : Int32) (z_sI m 13 0 0 (0 : Int32)) b hb) (fun r3 => ?_)
    exact zk_ret R rfl trivial rfl
  · refine zk_st R 4 25 [some (.inr (13, 0)), some (.inl (.int x1)), some (.inl (.int x2))] [.inl (.long (3 : Int64)), .inl (.long (0 : Int64)), .inl (.long (Int32.toInt64 x2))] (z_sI m 13 0 0 (0 : Int32)) rfl ⟨trivial, trivial, trivial, trivial, trivial⟩ ?_
    refine zk_call R (fun b => some (.inl (.int (z_bi b)))) (fun _ => (z_sI m 13 0 0 (0 : Int32))) rfl (r_X12_in) (fun b hb => w_X12_in (d + 1) 0 (Int32.toInt64 x2) (0 : Int64) (3 : Int64) (z_sI m 13 0 0 (0 : Int32)) b hb) (fun r4 => ?_)
    refine zk_br R rfl (fun _ => ?_) (fun _ => ?_)
    · refine zk_st R 2 49 [some (.inr (13, 0)), some (.inl (.int x1)), some (.inl (.int x2))] [.inl (.int (2 : Int32)), .inr (13, 0)] (z_sI m 13 0 0 (0 : Int32)) rfl ⟨trivial, trivial, trivial⟩ ?_
      refine zk_call R (fun b => some (.inl (.int b.1))) (fun b => b.2) rfl (r_X12_raises (Nat.le_of_ble_eq_true rfl)) (fun b hb => w_X12_raises (d + 1) 0 (2 : Int32) (z_sI m 13 0 0 (0 : Int32)) b hb) (fun r6 => ?_)
      exact zk_ret R rfl trivial rfl
    · refine zk_gd fun e7 => ?_
      refine zk_st R 11 52 [some (.inr (13, 0)), some (.inl (.int x1)), some (.inl (.int x2))] [.inl (.int ((z_sI m 13 0 0 (0 : Int32)).1 23 0 (Int32.toNatClampNeg (((3 : Int32) + ((64 : Int32) * x2)) + x1))))] (z_sI m 13 0 0 (0 : Int32)) rfl ⟨trivial, (Nat.le_of_ble_eq_true rfl), trivial, trivial, trivial, trivial, trivial, trivial, trivial, ⟨(Nat.le_of_ble_eq_true rfl), z_inb_in e7⟩, trivial, trivial⟩ ?_
      exact zk_ret R rfl trivial rfl
