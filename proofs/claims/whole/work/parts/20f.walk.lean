theorem r_X12_isSloping {i : Nat} {t : List zA} (h : i < zN 13) : z_rcv zN (zKD 180) (.inr (13, i) :: t) := by
  rw [show zKD 180 = 13 from rfl]
  exact ⟨rfl, h⟩
noncomputable def f_X12_isSloping_12 (m : zM) : Nat → Int32 → Int32 → Option (Bool)
  | 0, _, _ => none
  | j + 1, x1, x2 =>
    if (4 : Int32) ≤ x2 then
      some false
    else
      Option.bind (f_X12_next x1 x2 m) fun r2 =>
      if r2 < 0 then
        f_X12_isSloping_12 m j x1 (x2 + (1 : Int32))
      else
        Option.bind (f_X12_next x1 x2 m) fun r4 =>
        z_gd (z_inb r4 (z_alen 20)) <| z_gd (z_inb x1 (z_alen 20)) <| if (m.1 20 59 (Int32.toNatClampNeg x1)) ≤ (m.1 20 59 (Int32.toNatClampNeg r4)) then
          f_X12_isSloping_12 m j x1 (x2 + (1 : Int32))
        else
          some true
noncomputable def f_X12_isSloping (x1 : Int32) (m : zM) : Option (Bool) :=
  Option.bind (f_X12_isOutlet x1 m) fun r1 =>
  if (z_bi r1) = 0 then
    f_X12_isSloping_12 m zF x1 (0 : Int32)
  else
    some false
theorem w_X12_isSloping_12 (d k : Nat) {o : zO} {G : Nat → Nat → zL → List zA → zM → Prop} (m : zM) (R : zRu (d + 1) tX12_isSloping 1 (z_hf []) o G) : ∀ (j : Nat) (x1 : Int32) (x2 : Int32), zLK G (fun a => (z_cB a, m) : Bool → zO) o (f_X12_isSloping_12 m j x1 x2) some (k + 0) 12 [some (.inr (13, 0)), some (.inl (.int x1)), some (.inl (.int x2))] [] m := by
  intro j
  induction j with
  | zero =>
    intro _ _
    exact zk_none
  | succ j ih =>
    intro x1 x2
    unfold f_X12_isSloping_12
    refine zk_st R 2 14 [some (.inr (13, 0)), some (.inl (.int x1)), some (.inl (.int x2))] [.inl (.int (4 : Int32)), .inl (.int x2)] m rfl ⟨trivial, trivial, trivial⟩ ?_
    refine zk_br R rfl (fun _ => ?_) (fun _ => ?_)
    · refine zk_st R 1 55 [some (.inr (13, 0)), some (.inl (.int x1)), some (.inl (.int x2))] [.inl (.int (0 : Int32))] m rfl ⟨trivial, trivial⟩ ?_
      exact zk_ret R rfl (Or.inl rfl) rfl
    · refine zk_st R 3 20 [some (.inr (13, 0)), some (.inl (.int x1)), some (.inl (.int x2))] [.inl (.int x2), .inl (.int x1), .inr (13, 0)] m rfl ⟨trivial, trivial, trivial, trivial⟩ ?_
      refine zk_call R (fun b => some (.inl (.int b))) (fun _ => m) rfl (r_X12_next (Nat.le_of_ble_eq_true rfl)) (fun b hb => w_X12_next d 0 x1 x2 m b hb) (fun r2 => ?_)
      refine zk_br R rfl (fun _ => ?_) (fun _ => ?_)
      · refine zk_st R 2 12 [some (.inr (13, 0)), some (.inl (.int x1)), some (.inl (.int (x2 + (1 : Int32))))] [] m rfl ⟨trivial, trivial, trivial⟩ ?_
        refine zk_mask R [true, true, true] rfl ?_
        exact ih x1 (x2 + (1 : Int32))
      · refine zk_st R 5 33 [some (.inr (13, 0)), some (.inl (.int x1)), some (.inl (.int x2))] [.inl (.int x2), .inl (.int x1), .inr (13, 0), .inr (20, 59)] m rfl ⟨trivial, (Nat.le_of_ble_eq_true rfl), trivial, trivial, trivial, trivial⟩ ?_
        refine zk_call R (fun b => some (.inl (.int b))) (fun _ => m) rfl (r_X12_next (Nat.le_of_ble_eq_true rfl)) (fun b hb => w_X12_next d 0 x1 x2 m b hb) (fun r4 => ?_)
        refine zk_gd fun e5 => ?_
        refine zk_gd fun e6 => ?_
        refine zk_st R 5 43 [some (.inr (13, 0)), some (.inl (.int x1)), some (.inl (.int x2))] [.inl (.int (m.1 20 59 (Int32.toNatClampNeg x1))), .inl (.int (m.1 20 59 (Int32.toNatClampNeg r4)))] m rfl ⟨⟨(Nat.le_of_ble_eq_true rfl), z_inb_in e5⟩, trivial, (Nat.le_of_ble_eq_true rfl), trivial, ⟨(Nat.le_of_ble_eq_true rfl), z_inb_in e6⟩, trivial⟩ ?_
        refine zk_br R rfl (fun _ => ?_) (fun _ => ?_)
        · refine zk_st R 2 12 [some (.inr (13, 0)), some (.inl (.int x1)), some (.inl (.int (x2 + (1 : Int32))))] [] m rfl ⟨trivial, trivial, trivial⟩ ?_
          refine zk_mask R [true, true, true] rfl ?_
          exact ih x1 (x2 + (1 : Int32))
        · refine zk_st R 1 47 [some (.inr (13, 0)), some (.inl (.int x1)), some (.inl (.int x2))] [.inl (.int (1 : Int32))] m rfl ⟨trivial, trivial⟩ ?_
          exact zk_ret R rfl (Or.inr rfl) rfl
theorem w_X12_isSloping (d k : Nat) (x1 : Int32) (m : zM) (a : Bool) (ha : f_X12_isSloping x1 m = some a) : z_Ev z_MT zN zRf (d + 2) (k + 0) 180 [.inr (13, 0), .inl (.int x1)] m ((fun a => (z_cB a, m) : Bool → zO) a) := by
  refine zk_top (I := (yX12_isSloping, cX12_isSloping, 3, (some .boolean), [], tX12_isSloping, 13, 1, 13, 0, 0, 0)) (oc := (fun a => (z_cB a, m) : Bool → zO)) (a := a) rfl (Nat.le_of_ble_eq_true rfl) (fun G R => ?_) ha
  unfold f_X12_isSloping
  refine zk_st R 2 2 [some (.inr (13, 0)), some (.inl (.int x1)), none] [.inl (.int x1), .inr (13, 0)] m rfl ⟨trivial, trivial, trivial⟩ ?_
  refine zk_call R (fun b => some (.inl (.int (z_bi b)))) (fun _ => m) rfl (r_X12_isOutlet (Nat.le_of_ble_eq_true rfl)) (fun b hb => w_X12_isOutlet d 0 x1 m b hb) (fun r1 => ?_)
  refine zk_br R rfl (fun _ => ?_) (fun _ => ?_)
  · refine zk_st R 2 12 [some (.inr (13, 0)), some (.inl (.int x1)), some (.inl (.int (0 : Int32)))] [] m rfl ⟨trivial, trivial, trivial⟩ ?_
    refine zk_mask R [true, true, true] rfl ?_
    exact w_X12_isSloping_12 d k m R zF x1 (0 : Int32)
  · refine zk_st R 1 9 [some (.inr (13, 0)), some (.inl (.int x1)), none] [.inl (.int (0 : Int32))] m rfl ⟨trivial, trivial⟩ ?_
    exact zk_ret R rfl (Or.inl rfl) rfl
theorem r_X12_onward {i : Nat} {t : List zA} (h : i < zN 13) : z_rcv zN (zKD 182) (.inr (13, i) :: t) := by
  rw [show zKD 182 = 13 from rfl]
  exact ⟨rfl, h⟩
noncomputable def f_X12_onward (x1 : Int32) (m : zM) : Option (Int32) :=
  z_gd (z_inb x1 (z_alen 20)) <| if 0 ≤ (m.1 20 61 (Int32.toNatClampNeg x1)) then
    z_gd (z_inb x1 (z_alen 20)) <| Option.bind (f_X12_next x1 (m.1 20 61 (Int32.toNatClampNeg x1)) m) fun r4 =>
    some r4
  else
    some (-1 : Int32)
theorem w_X12_onward (d k : Nat) (x1 : Int32) (m : zM) (a : Int32) (ha : f_X12_onward x1 m = some a) : z_Ev z_MT zN zRf (d + 2) (k + 0) 182 [.inr (13, 0), .inl (.int x1)] m ((fun a => (z_cI a, m) : Int32 → zO) a) := by
  refine zk_top (I := (yX12_onward, cX12_onward, 2, (some .int), [], tX12_onward, 13, 1, 13, 0, 0, 0)) (oc := (fun a => (z_cI a, m) : Int32 → zO)) (a := a) rfl (Nat.le_of_ble_eq_true rfl) (fun G R => ?_) ha
  unfold f_X12_onward
  refine zk_gd fun e1 => ?_
  refine zk_st R 4 6 [some (.inr (13, 0)), some (.inl (.int x1))] [.inl (.int (m.1 20 61 (Int32.toNatClampNeg x1)))] m rfl ⟨trivial, (Nat.le_of_ble_eq_true rfl), trivial, ⟨(Nat.le_of_ble_eq_true rfl), z_inb_in e1⟩, trivial⟩ ?_
  refine zk_br R rfl (fun _ => ?_) (fun _ => ?_)
  · refine zk_gd fun e3 => ?_
    refine zk_st R 6 21 [some (.inr (13, 0)), some (.inl (.int x1))] [.inl (.int (m.1 20 61 (Int32.toNatClampNeg x1))), .inl (.int x1), .inr (13, 0)] m rfl ⟨trivial, trivial, trivial, (Nat.le_of_ble_eq_true rfl), trivial, ⟨(Nat.le_of_ble_eq_true rfl), z_inb_in e3⟩, trivial⟩ ?_
    refine zk_call R (fun b => some (.inl (.int b))) (fun _ => m) rfl (r_X12_next (Nat.le_of_ble_eq_true rfl)) (fun b hb => w_X12_next d 0 x1 (m.1 20 61 (Int32.toNatClampNeg x1)) m b hb) (fun r4 => ?_)
    exact zk_ret R rfl trivial rfl
  · refine zk_st R 2 24 [some (.inr (13, 0)), some (.inl (.int x1))] [.inl (.int (-1 : Int32))] m rfl ⟨trivial, trivial, trivial⟩ ?_
    exact zk_ret R rfl trivial rfl
theorem r_X12_soaks {i : Nat} {t : List zA} (h : i < zN 13) : z_rcv zN (zKD 184) (.inr (13, i) :: t) := by
  rw [show zKD 184 = 13 from rfl]
  exact ⟨rfl, h⟩
noncomputable def f_X12_soaks (x1 : Int32) (m : zM) : Option (Int32) :=
  z_gd (z_inb ((131 : Int32) + x1) (z_alen 23)) <| z_gd (z_inb x1 (z_alen 20)) <| Option.bind (f_J9_min_7cf53 (m.1 23 0 (Int32.toNatClampNeg ((131 : Int32) + x1))) (m.1 20 63 (Int32.toNatClampNeg x1)) m) fun r3 =>
  some r3
theorem w_X12_soaks (d k : Nat) (x1 : Int32) (m : zM) (a : Int32) (ha : f_X12_soaks x1 m = some a) : z_Ev z_MT zN zRf (d + 2) (k + 0) 184 [.inr (13, 0), .inl (.int x1)] m ((fun a => (z_cI a, m) : Int32 → zO) a) := by
  refine zk_top (I := (yX12_soaks, cX12_soaks, 2, (some .int), [], tX12_soaks, 13, 1, 13, 0, 0, 0)) (oc := (fun a => (z_cI a, m) : Int32 → zO)) (a := a) rfl (Nat.le_of_ble_eq_true rfl) (fun G R => ?_) ha
  unfold f_X12_soaks
  refine zk_gd fun e1 => ?_
  refine zk_gd fun e2 => ?_
  refine zk_st R 10 16 [some (.inr (13, 0)), some (.inl (.int x1))] [.inl (.int (m.1 20 63 (Int32.toNatClampNeg x1))), .inl (.int (m.1 23 0 (Int32.toNatClampNeg ((131 : Int32) + x1))))] m rfl ⟨trivial, (Nat.le_of_ble_eq_true rfl), trivial, trivial, trivial, ⟨(Nat.le_of_ble_eq_true rfl), z_inb_in e1⟩, trivial, (Nat.le_of_ble_eq_true rfl), trivial, ⟨(Nat.le_of_ble_eq_true rfl), z_inb_in e2⟩, trivial⟩ ?_
  refine zk_call R (fun b => some (.inl (.int b))) (fun _ => m) rfl (r_J9_min_7cf53) (fun b hb => w_J9_min_7cf53 d 0 (m.1 23 0 (Int32.toNatClampNeg ((131 : Int32) + x1))) (m.1 20 63 (Int32.toNatClampNeg x1)) m b hb) (fun r3 => ?_)
  exact zk_ret R rfl trivial rfl
theorem r_X12_land {i : Nat} {t : List zA} (h : i < zN 13) : z_rcv zN (zKD 194) (.inr (13, i) :: t) := by
  rw [show zKD 194 = 13 from rfl]
  exact ⟨rfl, h⟩
noncomputable def f_X12_land_41 (c21 : Int32 → Int32 → Int32 → zM → Option (zM)) : Nat → Int32 → Int32 → Int32 → Int32 → Int32 → zM → Option (zM)
  | 0, _, _, _, _, _, _ => none
  | j + 1, x2, x3, x4, x5, x6, m =>
    if (4 : Int32) ≤ x6 then
      c21 x2 x3 x4 m
    else
      Option.bind (f_X12_next x5 x6 m) fun r2 =>
      if r2 < 0 then
        f_X12_land_41 c21 j x2 x3 x4 x5 (x6 + (1 : Int32)) m
      else
        if (lg_cmp ((z_shr (m.2.1 13 0 20) r2) &&& (1 : Int64)) (1 : Int64)) = 0 then
          f_X12_land_41 c21 j x2 x3 x4 x5 (x6 + (1 : Int32)) m
        else
          Option.bind (f_X12_height r2 m) fun r5 =>
          Option.bind (f_X12_in (Int32.toInt64 r5) (Int32.toInt64 x2) (Int32.toInt64 x3) m) fun r6 =>
          if (z_bi r6) = 0 then
            f_X12_land_41 c21 j x2 x3 x4 x5 (x6 + (1 : Int32)) m
          else
            z_gd (z_inb x4 (z_alen 20)) <| f_X12_land_41 c21 j x2 x3 (x4 + (1 : Int32)) x5 (x6 + (1 : Int32)) (z_sI (z_sL m 13 0 20 ((m.2.1 13 0 20) ||| (z_shl (1 : Int64) r2))) 20 66 (Int32.toNatClampNeg x4) r2)
noncomputable def f_X12_land_21 : Nat → Int32 → Int32 → Int32 → zM → Option (zM)
  | 0, _, _, _, _ => none
  | j + 1, x2, x3, x4, m =>
    if x4 ≤ 0 then
      some m
    else
      z_gd (z_inb (x4 + (-1 : Int32)) (z_alen 20)) <| f_X12_land_41 (f_X12_land_21 j) zF x2 x3 (x4 + (-1 : Int32)) (m.1 20 66 (Int32.toNatClampNeg (x4 + (-1 : Int32)))) (0 : Int32) m
noncomputable def f_X12_land (x1 : Int32) (x2 : Int32) (x3 : Int32) (m : zM) : Option (zM) :=
  z_gd (z_inb (0 : Int32) (z_alen 20)) <| f_X12_land_21 zF x2 x3 ((0 : Int32) + (1 : Int32)) (z_sI (z_sL m 13 0 20 (z_shl (1 : Int64) x1)) 20 66 (Int32.toNatClampNeg (0 : Int32)) x1)
theorem w_X12_land_41 (d k : Nat) {o : zO} {G : Nat → Nat → zL → List zA → zM → Prop} (R : zRu (d + 1) tX12_land 0 (z_hf []) o G) (c21 : Int32 → Int32 → Int32 → zM → Option (zM)) (hc21 : ∀ (x2 : Int32) (x3 : Int32) (x4 : Int32) (m : zM), zLK G (fun a => (.inl none, a) : zM → zO) o (c21 x2 x3 x4 m) some (k + 0) 21 [some (.inr (13, 0)), none, some (.inl (.int x2)), some (.inl (.int x3)), some (.inl (.int x4)), none, none, none] [] m) : ∀ (j : Nat) (x2 : Int32) (x3 : Int32) (x4 : Int32) (x5 : Int32) (x6 : Int32) (m : zM), zLK G (fun a => (.inl none, a) : zM → zO) o (f_X12_land_41 c21 j x2 x3 x4 x5 x6 m) some (k + 0) 41 [some (.inr (13, 0)), none, some (.inl (.int x2)), some (.inl (.int x3)), some (.inl (.int x4)), some (.inl (.int x5)), some (.inl (.int x6)), none] [] m := by
  intro j
  induction j with
  | zero =>
    intro _ _ _ _ _ _
    exact zk_none
  | succ j ih =>
    intro x2 x3 x4 x5 x6 m
    unfold f_X12_land_41
    refine zk_st R 2 44 [some (.inr (13, 0)), none, some (.inl (.int x2)), some (.inl (.int x3)), some (.inl (.int x4)), some (.inl (.int x5)), some (.inl (.int x6)), none] [.inl (.int (4 : Int32)), .inl (.int x6)] m rfl ⟨trivial, trivial, trivial⟩ ?_
    refine zk_br R rfl (fun _ => ?_) (fun _ => ?_)
    · refine zk_st R 1 21 [some (.inr (13, 0)), none, some (.inl (.int x2)), some (.inl (.int x3)), some (.inl (.int x4)), some (.inl (.int x5)), some (.inl (.int x6)), none] [] m rfl ⟨trivial, trivial⟩ ?_
      refine zk_mask R [true, false, true, true, true, false, false, false] rfl ?_
      exact hc21 x2 x3 x4 m
    · refine zk_st R 3 52 [some (.inr (13, 0)), none, some (.inl (.int x2)), some (.inl (.int x3)), some (.inl (.int x4)), some (.inl (.int x5)), some (.inl (.int x6)), none] [.inl (.int x6), .inl (.int x5), .inr (13, 0)] m rfl ⟨trivial, trivial, trivial, trivial⟩ ?_
      refine zk_call R (fun b => some (.inl (.int b))) (fun _ => m) rfl (r_X12_next (Nat.le_of_ble_eq_true rfl)) (fun b hb => w_X12_next d 0 x5 x6 m b hb) (fun r2 => ?_)
      refine zk_st R 2 59 [some (.inr (13, 0)), none, some (.inl (.int x2)), some (.inl (.int x3)), some (.inl (.int x4)), some (.inl (.int x5)), some (.inl (.int x6)), some (.inl (.int r2))] [.inl (.int r2)] m rfl ⟨trivial, trivial, trivial⟩ ?_
      refine zk_br R rfl (fun _ => ?_) (fun _ => ?_)
      · refine zk_st R 2 41 [some (.inr (13, 0)), none, some (.inl (.int x2)), some (.inl (.int x3)), some (.inl (.int x4)), some (.inl (.int x5)), some (.inl (.int (x6 + (1 : Int32)))), some (.inl (.int r2))] [] m rfl ⟨trivial, trivial, trivial⟩ ?_
        refine zk_mask R [true, false, true, true, true, true, true, false] rfl ?_
        exact ih x2 x3 x4 x5 (x6 + (1 : Int32)) m
      · refine zk_st R 8 73 [some (.inr (13, 0)), none, some (.inl (.int x2)), some (.inl (.int x3)), some (.inl (.int x4)), some (.inl (.int x5)), some (.inl (.int x6)), some (.inl (.int r2))] [.inl (.int (lg_cmp ((z_shr (m.2.1 13 0 20) r2) &&& (1 : Int64)) (1 : Int64)))] m rfl ⟨trivial, (Nat.le_of_ble_eq_true rfl), trivial, trivial, trivial, trivial, trivial, trivial, trivial⟩ ?_
        refine zk_br R rfl (fun _ => ?_) (fun _ => ?_)
        · refine zk_st R 2 41 [some (.inr (13, 0)), none, some (.inl (.int x2)), some (.inl (.int x3)), some (.inl (.int x4)), some (.inl (.int x5)), some (.inl (.int (x6 + (1 : Int32)))), some (.inl (.int r2))] [] m rfl ⟨trivial, trivial, trivial⟩ ?_
          refine zk_mask R [true, false, true, true, true, true, true, false] rfl ?_
          exact ih x2 x3 x4 x5 (x6 + (1 : Int32)) m
        · refine zk_st R 2 79 [some (.inr (13, 0)), none, some (.inl (.int x2)), some (.inl (.int x3)), some (.inl (.int x4)), some (.inl (.int x5)), some (.inl (.int x6)), some (.inl (.int r2))] [.inl (.int r2), .inr (13, 0)] m rfl ⟨trivial, trivial, trivial⟩ ?_
          refine zk_call R (fun b => some (.inl (.int b))) (fun _ => m) rfl (r_X12_height (Nat.le_of_ble_eq_true rfl)) (fun b hb => w_X12_height d 0 r2 m b hb) (fun r5 => ?_)
          refine zk_st R 5 87 [some (.inr (13, 0)), none, some (.inl (.int x2)), some (.inl (.int x3)), some (.inl (.int x4)), some (.inl (.int x5)), some (.inl (.int x6)), some (.inl (.int r2))] [.inl (.long (Int32.toInt64 x3)), .inl (.long (Int32.toInt64 x2)), .inl (.long (Int32.toInt64 r5))] m rfl ⟨trivial, trivial, trivial, trivial, trivial, trivial⟩ ?_
          refine zk_call R (fun b => some (.inl (.int (z_bi b)))) (fun _ => m) rfl (r_X12_in) (fun b hb => w_X12_in d 0 (Int32.toInt64 r5) (Int32.toInt64 x2) (Int32.toInt64 x3) m b hb) (fun r6 => ?_)
          refine zk_br R rfl (fun _ => ?_) (fun _ => ?_)
          · refine zk_st R 3 41 [some (.inr (13, 0)), none, some (.inl (.int x2)), some (.inl (.int x3)), some (.inl (.int x4)), some (.inl (.int x5)), some (.inl (.int (x6 + (1 : Int32)))), some (.inl (.int r2))] [] m rfl ⟨trivial, trivial, trivial, trivial⟩ ?_
            refine zk_mask R [true, false, true, true, true, true, true, false] rfl ?_
            exact ih x2 x3 x4 x5 (x6 + (1 : Int32)) m
          · refine zk_gd fun e8 => ?_
            refine zk_st R 16 41 [some (.inr (13, 0)), none, some (.inl (.int x2)), some (.inl (.int x3)), some (.inl (.int (x4 + (1 : Int32)))), some (.inl (.int x5)), some (.inl (.int (x6 + (1 : Int32)))), some (.inl (.int r2))] [] (z_sI (z_sL m 13 0 20 ((m.2.1 13 0 20) ||| (z_shl (1 : Int64) r2))) 20 66 (Int32.toNatClampNeg x4) r2) rfl ⟨trivial, trivial, (Nat.le_of_ble_eq_true rfl), trivial, trivial, trivial, trivial, (Nat.le_of_ble_eq_true rfl), trivial, (Nat.le_of_ble_eq_true rfl), trivial, trivial, trivial, ⟨(Nat.le_of_ble_eq_true rfl), z_inb_in e8⟩, trivial, trivial, trivial⟩ ?_
            refine zk_mask R [true, false, true, true, true, true, true, false] rfl ?_
            exact ih x2 x3 (x4 + (1 : Int32)) x5 (x6 + (1 : Int32)) (z_sI (z_sL m 13 0 20 ((m.2.1 13 0 20) ||| (z_shl (1 : Int64) r2))) 20 66 (Int32.toNatClampNeg x4) r2)
theorem w_X12_land_21 (d k : Nat) {o : zO} {G : Nat → Nat → zL → List zA → zM → Prop} (R : zRu (d + 1) tX12_land 0 (z_hf []) o G) : ∀ (j : Nat) (x2 : Int32) (x3 : Int32) (x4 : Int32) (m : zM), zLK G (fun a => (.inl none, a) : zM → zO) o (f_X12_land_21 j x2 x3 x4 m) some (k + 0) 21 [some (.inr (13, 0)), none, some (.inl (.int x2)), some (.inl (.int x3)), some (.inl (.int x4)), none, none, none] [] m := by
  intro j
  induction j with
  | zero =>
    intro _ _ _ _
    exact zk_none
  | succ j ih =>
    intro x2 x3 x4 m
    unfold f_X12_land_21
    refine zk_st R 1 23 [some (.inr (13, 0)), none, some (.inl (.int x2)), some (.inl (.int x3)), some (.inl (.int x4)), none, none, none] [.inl (.int x4)] m rfl ⟨trivial, trivial⟩ ?_
    refine zk_br R rfl (fun _ => ?_) (fun _ => ?_)
    · exact zk_ret R rfl trivial rfl
    · refine zk_gd fun e2 => ?_
      refine zk_st R 8 41 [some (.inr (13, 0)), none, some (.inl (.int x2)), some (.inl (.int x3)), some (.inl (.int (x4 + (-1 : Int32)))), some (.inl (.int (m.1 20 66 (Int32.toNatClampNeg (x4 + (-1 : Int32)))))), some (.inl (.int (0 : Int32))), none] [] m rfl ⟨trivial, (Nat.le_of_ble_eq_true rfl), trivial, trivial, ⟨(Nat.le_of_ble_eq_true rfl), z_inb_in e2⟩, trivial, trivial, trivial, trivial⟩ ?_
      refine zk_mask R [true, false, true, true, true, true, true, false] rfl ?_
      exact w_X12_land_41 d k R (f_X12_land_21 j) ih zF x2 x3 (x4 + (-1 : Int32)) (m.1 20 66 (Int32.toNatClampNeg (x4 + (-1 : Int32)))) (0 : Int32) m
theorem w_X12_land (d k : Nat) (x1 : Int32) (x2 : Int32) (x3 : Int32) (m : zM) (a : zM) (ha : f_X12_land x1 x2 x3 m = some a) : z_Ev z_MT zN zRf (d + 2) (k + 0) 194 [.inr (13, 0), .inl (.int x1), .inl (.int x2), .inl (.int x3)] m ((fun a => (.inl none, a) : zM → zO) a) := by
  refine zk_top (I := (yX12_land, cX12_land, 8, none, [], tX12_land, 13, 3, 13, 0, 0, 0)) (oc := (fun a => (.inl none, a) : zM → zO)) (a := a) rfl (Nat.le_of_ble_eq_true rfl) (fun G R => ?_) ha
  unfold f_X12_land
  refine zk_gd fun e1 => ?_
  refine zk_st R 13 21 [some (.inr (13, 0)), some (.inl (.int x1)), some (.inl (.int x2)), some (.inl (.int x3)), some (.inl (.int ((0 : Int32) + (1 : Int32)))), none, none, none] [] (z_sI (z_sL m 13 0 20 (z_shl (1 : Int64) x1)) 20 66 (Int32.toNatClampNeg (0 : Int32)) x1) rfl ⟨trivial, trivial, trivial, trivial, (Nat.le_of_ble_eq_true rfl), trivial, trivial, trivial, (Nat.le_of_ble_eq_true rfl), trivial, trivial, trivial, ⟨(Nat.le_of_ble_eq_true rfl), z_inb_in e1⟩, trivial⟩ ?_
  refine zk_mask R [true, false, true, true, true, false, false, false] rfl ?_
  exact w_X12_land_21 d k R zF x2 x3 ((0 : Int32) + (1 : Int32)) (z_sI (z_sL m 13 0 20 (z_shl (1 : Int64) x1)) 20 66 (Int32.toNatClampNeg (0 : Int32)) x1)
theorem r_X12_isPool {i : Nat} {t : List zA} (h : i < zN 13) : z_rcv zN (zKD 195) (.inr (13, i) :: t) := by
  rw [show zKD 195 = 13 from rfl]
  exact ⟨rfl, h⟩
noncomputable def f_X12_isPool_2 (m : zM) : Nat → Int32 → Option (Bool)
  | 0, _ => none
  | j + 1, x1 =>
    Option.bind (f_X12_cells m) fun r1 =>
    if r1 ≤ x1 then
      some true
    else
      if (lg_cmp ((z_shr (m.2.1 13 0 20) x1) &&& (1 : Int64)) (1 : Int64)) = 0 then
        Option.bind (f_X12_isOutlet x1 m) fun r4 =>
        if (z_bi r4) = 0 then
          f_X12_isPool_2 m j (x1 + (1 : Int32))
        else
          some false
      else
        f_X12_isPool_2 m j (x1 + (1 : Int32))
noncomputable def f_X12_isPool (m : zM) : Option (Bool) :=
  f_X12_isPool_2 m zF (0 : Int32)
theorem w_X12_isPool_2 (d k : Nat) {o : zO} {G : Nat → Nat → zL → List zA → zM → Prop} (m : zM) (R : zRu (d + 1) tX12_isPool 1 (z_hf []) o G) : ∀ (j : Nat) (x1 : Int32), zLK G (fun a => (z_cB a, m) : Bool → zO) o (f_X12_isPool_2 m j x1) some (k + 0) 2 [some (.inr (13, 0)), some (.inl (.int x1))] [] m := by
  intro j
  induction j with
  | zero =>
    intro _
    exact zk_none
  | succ j ih =>
    intro x1
    unfold f_X12_isPool_2
    refine zk_st R 2 4 [some (.inr (13, 0)), some (.inl (.int x1))] [.inr (13, 0), .inl (.int x1)] m rfl ⟨trivial, trivial, trivial⟩ ?_
    refine zk_call R (fun b => some (.inl (.int b))) (fun _ => m) rfl (r_X12_cells (Nat.le_of_ble_eq_true rfl)) (fun b hb => w_X12_cells d 0 m b hb) (fun r1 => ?_)
    refine zk_br R rfl (fun _ => ?_) (fun _ => ?_)
    · refine zk_st R 1 40 [some (.inr (13, 0)), some (.inl (.int x1))] [.inl (.int (1 : Int32))] m rfl ⟨trivial, trivial⟩ ?_
      exact zk_ret R rfl (Or.inr rfl) rfl
    · refine zk_st R 8 20 [some (.inr (13, 0)), some (.inl (.int x1))] [.inl (.int (lg_cmp ((z_shr (m.2.1 13 0 20) x1) &&& (1 : Int64)) (1 : Int64)))] m rfl ⟨trivial, (Nat.le_of_ble_eq_true rfl), trivial, trivial, trivial, trivial, trivial, trivial, trivial⟩ ?_
      refine zk_br R rfl (fun _ => ?_) (fun _ => ?_)
      · refine zk_st R 2 25 [some (.inr (13, 0)), some (.inl (.int x1))] [.inl (.int x1), .inr (13, 0)] m rfl ⟨trivial, trivial, trivial⟩ ?_
        refine zk_call R (fun b => some (.inl (.int (z_bi b)))) (fun _ => m) rfl (r_X12_isOutlet (Nat.le_of_ble_eq_true rfl)) (fun b hb => w_X12_isOutlet d 0 x1 m b hb) (fun r4 => ?_)
        refine zk_br R rfl (fun _ => ?_) (fun _ => ?_)
        · refine zk_st R 2 2 [some (.inr (13, 0)), some (.inl (.int (x1 + (1 : Int32))))] [] m rfl ⟨trivial, trivial, trivial⟩ ?_
          refine zk_mask R [true, true] rfl ?_
          exact ih (x1 + (1 : Int32))
        · refine zk_st R 1 32 [some (.inr (13, 0)), some (.inl (.int x1))] [.inl (.int (0 : Int32))] m rfl ⟨trivial, trivial⟩ ?_
          exact zk_ret R rfl (Or.inl rfl) rfl
      · refine zk_st R 2 2 [some (.inr (13, 0)), some (.inl (.int (x1 + (1 : Int32))))] [] m rfl ⟨trivial, trivial, trivial⟩ ?_
        refine zk_mask R [true, true] rfl ?_
        exact ih (x1 + (1 : Int32))
theorem w_X12_isPool (d k : Nat) (m : zM) (a : Bool) (ha : f_X12_isPool m = some a) : z_Ev z_MT zN zRf (d + 2) (k + 0) 195 [.inr (13, 0)] m ((fun a => (z_cB a, m) : Bool → zO) a) := by
  refine zk_top (I := (yX12_isPool, cX12_isPool, 2, (some .boolean), [], tX12_isPool, 13, 0, 13, 0, 0, 0)) (oc := (fun a => (z_cB a, m) : Bool → zO)) (a := a) rfl (Nat.le_of_ble_eq_true rfl) (fun G R => ?_) ha
  unfold f_X12_isPool
  refine zk_st R 2 2 [some (.inr (13, 0)), some (.inl (.int (0 : Int32)))] [] m rfl ⟨trivial, trivial, trivial⟩ ?_
  refine zk_mask R [true, true] rfl ?_
  exact w_X12_isPool_2 d k m R zF (0 : Int32)
theorem r_X12_worth {i : Nat} {t : List zA} (h : i < zN 13) : z_rcv zN (zKD 200) (.inr (13, i) :: t) := by
  rw [show zKD 200 = 13 from rfl]
  exact ⟨rfl, h⟩
noncomputable def f_X12_worth (x1 : Int32) (x2 : Int32) (m : zM) : Option (Int32) :=
  Option.bind (f_X12_isOutlet x1 m) fun r1 =>
  if (z_bi r1) = 0 then
    z_gd (z_inb (((64 : Int32) * x2) + x1) (z_alen 26)) <| some (m.1 26 0 (Int32.toNatClampNeg (((64 : Int32) * x2) + x1)))
  else
    some (1 : Int32)
theorem w_X12_worth (d k : Nat) (x1 : Int32) (x2 : Int32) (m : zM) (a : Int32) (ha : f_X12_worth x1 x2 m = some a) : z_Ev z_MT zN zRf (d + 2) (k + 0) 200 [.inr (13, 0), .inl (.int x1), .inl (.int x2)] m ((fun a => (z_cI a, m) : Int32 → zO) a) := by
  refine zk_top (I := (yX12_worth, cX12_worth, 3, (some .int), [], tX12_worth, 13, 2, 13, 0, 0, 0)) (oc := (fun a => (z_cI a, m) : Int32 → zO)) (a := a) rfl (Nat.le_of_ble_eq_true rfl) (fun G R => ?_) ha
  unfold f_X12_worth
  refine zk_st R 2 2 [some (.inr (13, 0)), some (.inl (.int x1)), some (.inl (.int x2))] [.inl (.int x1), .inr (13, 0)] m rfl ⟨trivial, trivial, trivial⟩ ?_
  refine zk_call R (fun b => some (.inl (.int (z_bi b)))) (fun _ => m) rfl (r_X12_isOutlet (Nat.le_of_ble_eq_true rfl)) (fun b hb => w_X12_isOutlet d 0 x1 m b hb) (fun r1 => ?_)
  refine zk_br R rfl (fun _ => ?_) (fun _ => ?_)
  · refine zk_gd fun e3 => ?_
    refine zk_st R 8 23 [some (.inr (13, 0)), some (.inl (.int x1)), some (.inl (.int x2))] [.inl (.int (m.1 26 0 (Int32.toNatClampNeg (((64 : Int32) * x2) + x1))))] m rfl ⟨trivial, (Nat.le_of_ble_eq_true rfl), trivial, trivial, trivial, trivial, trivial, ⟨(Nat.le_of_ble_eq_true rfl), z_inb_in e3⟩, trivial⟩ ?_
    exact zk_ret R rfl trivial rfl
  · refine zk_st R 2 23 [some (.inr (13, 0)), some (.inl (.int x1)), some (.inl (.int x2))] [.inl (.int (1 : Int32))] m rfl ⟨trivial, trivial, trivial⟩ ?_
    exact zk_ret R rfl trivial rfl
theorem r_X12_bottom {i : Nat} {t : List zA} (h : i < zN 13) : z_rcv zN (zKD 205) (.inr (13, i) :: t) := by
  rw [show zKD 205 = 13 from rfl]
  exact ⟨rfl, h⟩
noncomputable def f_X12_bottom_8 (m : zM) : Nat → Int32 → Int32 → Int32 → Option (Int32)
  | 0, _, _, _ => none
  | j + 1, x1, x2, x3 =>
    Option.bind (f_X12_cells m) fun r1 =>
    if r1 ≤ x3 then
      some x2
    else
      z_gd (z_inb x3 (z_alen 20)) <| if (m.1 20 65 (Int32.toNatClampNeg x3)) = x1 then
        Option.bind (f_X12_height x3 m) fun r5 =>
        Option.bind (f_X12_height x2 m) fun r6 =>
        if r6 ≤ r5 then
          f_X12_bottom_8 m j x1 x2 (x3 + (1 : Int32))
        else
          f_X12_bottom_8 m j x1 x3 (x3 + (1 : Int32))
      else
        f_X12_bottom_8 m j x1 x2 (x3 + (1 : Int32))
noncomputable def f_X12_bottom (x1 : Int32) (m : zM) : Option (Int32) :=
  Option.bind (f_X12_lowest x1 m) fun r1 =>
  f_X12_bottom_8 m zF x1 r1 (0 : Int32)
theorem w_X12_bottom_8 (d k : Nat) {o : zO} {G : Nat → Nat → zL → List zA → zM → Prop} (m : zM) (R : zRu (d + 1) tX12_bottom 0 (z_hf []) o G) : ∀ (j : Nat) (x1 : Int32) (x2 : Int32) (x3 : Int32), zLK G (fun a => (z_cI a, m) : Int32 → zO) o (f_X12_bottom_8 m j x1 x2 x3) some (k + 0) 8 [some (.inr (13, 0)), some (.inl (.int x1)), some (.inl (.int x2)), some (.inl (.int x3))] [] m := by
  intro j
  induction j with
  | zero =>
    intro _ _ _
    exact zk_none
  | succ j ih =>
    intro x1 x2 x3
    unfold f_X12_bottom_8
    refine zk_st R 2 10 [some (.inr (13, 0)), some (.inl (.int x1)), some (.inl (.int x2)), some (.inl (.int x3))] [.inr (13, 0), .inl (.int x3)] m rfl ⟨trivial, trivial, trivial⟩ ?_
    refine zk_call R (fun b => some (.inl (.int b))) (fun _ => m) rfl (r_X12_cells (Nat.le_of_ble_eq_true rfl)) (fun b hb => w_X12_cells d 0 m b hb) (fun r1 => ?_)
    refine zk_br R rfl (fun _ => ?_) (fun _ => ?_)
    · refine zk_st R 1 48 [some (.inr (13, 0)), some (.inl (.int x1)), some (.inl (.int x2)), some (.inl (.int x3))] [.inl (.int x2)] m rfl ⟨trivial, trivial⟩ ?_
      exact zk_ret R rfl trivial rfl
    · refine zk_gd fun e3 => ?_
      refine zk_st R 5 23 [some (.inr (13, 0)), some (.inl (.int x1)), some (.inl (.int x2)), some (.inl (.int x3))] [.inl (.int x1), .inl (.int (m.1 20 65 (Int32.toNatClampNeg x3)))] m rfl ⟨trivial, (Nat.le_of_ble_eq_true rfl), trivial, ⟨(Nat.le_of_ble_eq_true rfl), z_inb_in e3⟩, trivial, trivial⟩ ?_
      refine zk_br R rfl (fun _ => ?_) (fun _ => ?_)
      · refine zk_st R 2 28 [some (.inr (13, 0)), some (.inl (.int x1)), some (.inl (.int x2)), some (.inl (.int x3))] [.inl (.int x3), .inr (13, 0)] m rfl ⟨trivial, trivial, trivial⟩ ?_
        refine zk_call R (fun b => some (.inl (.int b))) (fun _ => m) rfl (r_X12_height (Nat.le_of_ble_eq_true rfl)) (fun b hb => w_X12_height d 0 x3 m b hb) (fun r5 => ?_)
        refine zk_st R 2 33 [some (.inr (13, 0)), some (.inl (.int x1)), some (.inl (.int x2)), some (.inl (.int x3))] [.inl (.int x2), .inr (13, 0), .inl (.int r5)] m rfl ⟨trivial, trivial, trivial⟩ ?_
        refine zk_call R (fun b => some (.inl (.int b))) (fun _ => m) rfl (r_X12_height (Nat.le_of_ble_eq_true rfl)) (fun b hb => w_X12_height d 0 x2 m b hb) (fun r6 => ?_)
        refine zk_br R rfl (fun _ => ?_) (fun _ => ?_)
        · refine zk_st R 2 8 [some (.inr (13, 0)), some (.inl (.int x1)), some (.inl (.int x2)), some (.inl (.int (x3 + (1 : Int32))))] [] m rfl ⟨trivial, trivial, trivial⟩ ?_
          refine zk_mask R [true, true, true, true] rfl ?_
          exact ih x1 x2 (x3 + (1 : Int32))
        · refine zk_st R 4 8 [some (.inr (13, 0)), some (.inl (.int x1)), some (.inl (.int x3)), some (.inl (.int (x3 + (1 : Int32))))] [] m rfl ⟨trivial, trivial, trivial, trivial, trivial⟩ ?_
          refine zk_mask R [true, true, true, true] rfl ?_
          exact ih x1 x3 (x3 + (1 : Int32))
      · refine zk_st R 2 8 [some (.inr (13, 0)), some (.inl (.int x1)), some (.inl (.int x2)), some (.inl (.int (x3 + (1 : Int32))))] [] m rfl ⟨trivial, trivial, trivial⟩ ?_
        refine zk_mask R [true, true, true, true] rfl ?_
        exact ih x1 x2 (x3 + (1 : Int32))
theorem w_X12_bottom (d k : Nat) (x1 : Int32) (m : zM) (a : Int32) (ha : f_X12_bottom x1 m = some a) : z_Ev z_MT zN zRf (d + 2) (k + 0) 205 [.inr (13, 0), .inl (.int x1)] m ((fun a => (z_cI a, m) : Int32 → zO) a) := by
  refine zk_top (I := (yX12_bottom, cX12_bottom, 4, (some .int), [], tX12_bottom, 13, 1, 13, 0, 0, 0)) (oc := (fun a => (z_cI a, m) : Int32 → zO)) (a := a) rfl (Nat.le_of_ble_eq_true rfl) (fun G R => ?_) ha
  unfold f_X12_bottom
  refine zk_st R 2 2 [some (.inr (13, 0)), some (.inl (.int x1)), none, none] [.inl (.int x1), .inr (13, 0)] m rfl ⟨trivial, trivial, trivial⟩ ?_
  refine zk_call R (fun b => some (.inl (.int b))) (fun _ => m) rfl (r_X12_lowest (Nat.le_of_ble_eq_true rfl)) (fun b hb => w_X12_lowest d 0 x1 m b hb) (fun r1 => ?_)
  refine zk_st R 3 8 [some (.inr (13, 0)), some (.inl (.int x1)), some (.inl (.int r1)), some (.inl (.int (0 : Int32)))] [] m rfl ⟨trivial, trivial, trivial, trivial⟩ ?_
  refine zk_mask R [true, true, true, true] rfl ?_
  exact w_X12_bottom_8 d k m R zF x1 r1 (0 : Int32)
theorem r_X12_isAtEdge {i : Nat} {t : List zA} (h : i < zN 13) : z_rcv zN (zKD 234) (.inr (13, i) :: t) := by
  rw [show zKD 234 = 13 from rfl]
  exact ⟨rfl, h⟩
noncomputable def f_X12_isAtEdge_2 (m : zM) : Nat → Int32 → Int32 → Option (Bool)
  | 0, _, _ => none
  | j + 1, x1, x2 =>
    if (4 : Int32) ≤ x2 then
      some false
    else
      Option.bind (f_X12_next x1 x2 m) fun r2 =>
      if 0 ≤ r2 then
        f_X12_isAtEdge_2 m j x1 (x2 + (1 : Int32))
      else
        some true
noncomputable def f_X12_isAtEdge (x1 : Int32) (m : zM) : Option (Bool) :=
  f_X12_isAtEdge_2 m zF x1 (0 : Int32)
theorem w_X12_isAtEdge_2 (d k : Nat) {o : zO} {G : Nat → Nat → zL → List zA → zM → Prop} (m : zM) (R : zRu (d + 1) tX12_isAtEdge 1 (z_hf []) o G) : ∀ (j : Nat) (x1 : Int32) (x2 : Int32), zLK G (fun a => (z_cB a, m) : Bool → zO) o (f_X12_isAtEdge_2 m j x1 x2) some (k + 0) 2 [some (.inr (13, 0)), some (.inl (.int x1)), some (.inl (.int x2))] [] m := by
  intro j
  induction j with
  | zero =>
    intro _ _
    exact zk_none
  | succ j ih =>
    intro x1 x2
    unfold f_X12_isAtEdge_2
    refine zk_st R 2 4 [some (.inr (13, 0)), some (.inl (.int x1)), some (.inl (.int x2))] [.inl (.int (4 : Int32)), .inl (.int x2)] m rfl ⟨trivial, trivial, trivial⟩ ?_
    refine zk_br R rfl (fun _ => ?_) (fun _ => ?_)
    · refine zk_st R 1 25 [some (.inr (13, 0)), some (.inl (.int x1)), some (.inl (.int x2))] [.inl (.int (0 : Int32))] m rfl ⟨trivial, trivial⟩ ?_
      exact zk_ret R rfl (Or.inl rfl) rfl
    · refine zk_st R 3 10 [some (.inr (13, 0)), some (.inl (.int x1)), some (.inl (.int x2))] [.inl (.int x2), .inl (.int x1), .inr (13, 0)] m rfl ⟨trivial, trivial, trivial, trivial⟩ ?_
      refine zk_call R (fun b => some (.inl (.int b))) (fun _ => m) rfl (r_X12_next (Nat.le_of_ble_eq_true rfl)) (fun b hb => w_X12_next d 0 x1 x2 m b hb) (fun r2 => ?_)
      refine zk_br R rfl (fun _ => ?_) (fun _ => ?_)
      · refine zk_st R 2 2 [some (.inr (13, 0)), some (.inl (.int x1)), some (.inl (.int (x2 + (1 : Int32))))] [] m rfl ⟨trivial, trivial, trivial⟩ ?_
        refine zk_mask R [true, true, true] rfl ?_
        exact ih x1 (x2 + (1 : Int32))
      · refine zk_st R 1 17 [some (.inr (13, 0)), some (.inl (.int x1)), some (.inl (.int x2))] [.inl (.int (1 : Int32))] m rfl ⟨trivial, trivial⟩ ?_
        exact zk_ret R rfl (Or.inr rfl) rfl
theorem w_X12_isAtEdge (d k : Nat) (x1 : Int32) (m : zM) (a : Bool) (ha : f_X12_isAtEdge x1 m = some a) : z_Ev z_MT zN zRf (d + 2) (k + 0) 234 [.inr (13, 0), .inl (.int x1)] m ((fun a => (z_cB a, m) : Bool → zO) a) := by
  refine zk_top (I := (yX12_isAtEdge, cX12_isAtEdge, 3, (some .boolean), [], tX12_isAtEdge, 13, 1, 13, 0, 0, 0)) (oc := (fun a => (z_cB a, m) : Bool → zO)) (a := a) rfl (Nat.le_of_ble_eq_true rfl) (fun G R => ?_) ha
  unfold f_X12_isAtEdge
  refine zk_st R 2 2 [some (.inr (13, 0)), some (.inl (.int x1)), some (.inl (.int (0 : Int32)))] [] m rfl ⟨trivial, trivial, trivial⟩ ?_
  refine zk_mask R [true, true, true] rfl ?_
  exact w_X12_isAtEdge_2 d k m R zF x1 (0 : Int32)
theorem r_X12_far {i : Nat} {t : List zA} (h : i < zN 13) : z_rcv zN (zKD 236) (.inr (13, i) :: t) := by
  rw [show zKD 236 = 13 from rfl]
  exact ⟨rfl, h⟩
noncomputable def f_X12_far (x1 : Int32) (x2 : Int32) (m : zM) : Option (Int32) :=
  z_gd (z_inb (0 : Int32) (z_alen 23)) <| z_gd (z_nz (m.1 23 0 (Int32.toNatClampNeg (0 : Int32)))) <| Option.bind (f_J9_abs_0f7a4 ((z_irem x1 (m.1 23 0 (Int32.toNatClampNeg (0 : Int32)))) - (z_irem x2 (m.1 23 0 (Int32.toNatClampNeg (0 : Int32))))) m) fun r3 =>
  z_gd (z_nz (m.1 23 0 (Int32.toNatClampNeg (0 : Int32)))) <| Option.bind (f_J9_abs_0f7a4 ((x1 / (m.1 23 0 (Int32.toNatClampNeg (0 : Int32)))) - (x2 / (m.1 23 0 (Int32.toNatClampNeg (0 : Int32))))) m) fun r5 =>
  Option.bind (f_J9_max_7cf53 r3 r5 m) fun r6 =>
  some r6
theorem w_X12_far (d k : Nat) (x1 : Int32) (x2 : Int32) (m : zM) (a : Int32) (ha : f_X12_far x1 x2 m = some a) : z_Ev z_MT zN zRf (d + 2) (k + 0) 236 [.inr (13, 0), .inl (.int x1), .inl (.int x2)] m ((fun a => (z_cI a, m) : Int32 → zO) a) := by
  refine zk_top (I := (yX12_far, cX12_far, 4, (some .int), [], tX12_far, 13, 2, 13, 0, 0, 0)) (oc := (fun a => (z_cI a, m) : Int32 → zO)) (a := a) rfl (Nat.le_of_ble_eq_true rfl) (fun G R => ?_) ha
  unfold f_X12_far
  refine zk_gd fun e1 => ?_
  refine zk_gd fun e2 => ?_
  refine zk_st R 12 14 [some (.inr (13, 0)), some (.inl (.int x1)), some (.inl (.int x2)), some (.inl (.int (m.1 23 0 (Int32.toNatClampNeg (0 : Int32)))))] [.inl (.int ((z_irem x1 (m.1 23 0 (Int32.toNatClampNeg (0 : Int32)))) - (z_irem x2 (m.1 23 0 (Int32.toNatClampNeg (0 : Int32))))))] m rfl ⟨trivial, (Nat.le_of_ble_eq_true rfl), trivial, ⟨(Nat.le_of_ble_eq_true rfl), z_inb_in e1⟩, trivial, trivial, trivial, (z_nz_ne e2), trivial, trivial, (z_nz_ne e2), trivial, trivial⟩ ?_
  refine zk_call R (fun b => some (.inl (.int b))) (fun _ => m) rfl (r_J9_abs_0f7a4) (fun b hb => w_J9_abs_0f7a4 d 0 ((z_irem x1 (m.1 23 0 (Int32.toNatClampNeg (0 : Int32)))) - (z_irem x2 (m.1 23 0 (Int32.toNatClampNeg (0 : Int32))))) m b hb) (fun r3 => ?_)
  refine zk_gd fun e4 => ?_
  refine zk_st R 7 24 [some (.inr (13, 0)), some (.inl (.int x1)), some (.inl (.int x2)), some (.inl (.int (m.1 23 0 (Int32.toNatClampNeg (0 : Int32)))))] [.inl (.int ((x1 / (m.1 23 0 (Int32.toNatClampNeg (0 : Int32)))) - (x2 / (m.1 23 0 (Int32.toNatClampNeg (0 : Int32)))))), .inl (.int r3)] m rfl ⟨trivial, trivial, (z_nz_ne e4), trivial, trivial, (z_nz_ne e4), trivial, trivial⟩ ?_
  refine zk_call R (fun b => some (.inl (.int b))) (fun _ => m) rfl (r_J9_abs_0f7a4) (fun b hb => w_J9_abs_0f7a4 d 0 ((x1 / (m.1 23 0 (Int32.toNatClampNeg (0 : Int32)))) - (x2 / (m.1 23 0 (Int32.toNatClampNeg (0 : Int32))))) m b hb) (fun r5 => ?_)
  refine zk_call R (fun b => some (.inl (.int b))) (fun _ => m) rfl (r_J9_max_7cf53) (fun b hb => w_J9_max_7cf53 d 0 r3 r5 m b hb) (fun r6 => ?_)
  exact zk_ret R rfl trivial rfl
theorem r_X12_append {i : Nat} {t : List zA} (h : i < zN 13) : z_rcv zN (zKD 246) (.inr (13, i) :: t) := by
  rw [show zKD 246 = 13 from rfl]
  exact ⟨rfl, h⟩
noncomputable def f_X12_append (x1 : Int32) (m : zM) : Option (Int32 × zM) :=
  Option.bind (f_X12_in (Int32.toInt64 x1) (33 : Int64) (126 : Int64) (z_sI m 13 0 0 (0 : Int32))) fun r1 =>
  if (z_bi r1) = 0 then
    Option.bind (f_X12_raises (1 : Int32) (z_sI m 13 0 0 (0 : Int32))) fun r3 =>
    some (r3.1, r3.2)
  else
    if ((z_sI m 13 0 0 (0 : Int32)).1 13 0 8) = (60 : Int32) then
      Option.bind (f_X12_raises (2 : Int32) (z_sI m 13 0 0 (0 : Int32))) fun r5 =>
      some (r5.1, r5.2)
    else
      z_gd (z_inb ((z_sI m 13 0 0 (0 : Int32)).1 13 0 8) (z_alen 25)) <| some (((z_sI (z_sI (z_sI m 13 0 0 (0 : Int32)) 13 0 8 (((z_sI m 13 0 0 (0 : Int32)).1 13 0 8) + (1 : Int32))) 25 0 (Int32.toNatClampNeg ((z_sI m 13 0 0 (0 : Int32)).1 13 0 8)) x1).1 13 0 8), (z_sI (z_sI (z_sI m 13 0 0 (0 : Int32)) 13 0 8 (((z_sI m 13 0 0 (0 : Int32)).1 13 0 8) + (1 : Int32))) 25 0 (Int32.toNatClampNeg ((z_sI m 13 0 0 (0 : Int32)).1 13 0 8)) x1))
theorem w_X12_append (d k : Nat) (x1 : Int32) (m : zM) (a : Int32 × zM) (ha : f_X12_append x1 m = some a) : z_Ev z_MT zN zRf (d + 2) (k + 0) 246 [.inr (13, 0), .inl (.int x1)] m ((fun a => (z_cI a.1, a.2) : Int32 × zM → zO) a) := by
  refine zk_top (I := (yX12_append, cX12_append, 2, (some .int), [], tX12_append, 13, 1, 13, 0, 0, 0)) (oc := (fun a => (z_cI a.1, a.2) : Int32 × zM → zO)) (a := a) rfl (Nat.le_of_ble_eq_true rfl) (fun G R => ?_) ha
  unfold f_X12_append
  refine zk_st R 7 13 [some (.inr (13, 0)), some (.inl (.int x1))] [.inl (.long (126 : Int64)), .inl (.long (33 : Int64)), .inl (.long (Int32.toInt64 x1))] (z_sI m 13 0 0 (0 : Int32)) rfl ⟨trivial, trivial, (Nat.le_of_ble_eq_true rfl), trivial, trivial, trivial, trivial, trivial⟩ ?_
  refine zk_call R (fun b => some (.inl (.int (z_bi b)))) (fun _ => (z_sI m 13 0 0 (0 : Int32))) rfl (r_X12_in) (fun b hb => w_X12_in d 0 (Int32.toInt64 x1) (33 : Int64) (126 : Int64) (z_sI m 13 0 0 (0 : Int32)) b hb) (fun r1 => ?_)
  refine zk_br R rfl (fun _ => ?_) (fun _ => ?_)
  · refine zk_st R 2 21 [some (.inr (13, 0)), some (.inl (.int x1))] [.inl (.int (1 : Int32)), .inr (13, 0)] (z_sI m 13 0 0 (0 : Int32)) rfl ⟨trivial, trivial, trivial⟩ ?_
    refine zk_call R (fun b => some (.inl (.int b.1))) (fun b => b.2) rfl (r_X12_raises (Nat.le_of_ble_eq_true rfl)) (fun b hb => w_X12_raises d 0 (1 : Int32) (z_sI m 13 0 0 (0 : Int32)) b hb) (fun r3 => ?_)
    exact zk_ret R rfl trivial rfl
  · refine zk_st R 3 31 [some (.inr (13, 0)), some (.inl (.int x1))] [.inl (.int (60 : Int32)), .inl (.int ((z_sI m 13 0 0 (0 : Int32)).1 13 0 8))] (z_sI m 13 0 0 (0 : Int32)) rfl ⟨trivial, (Nat.le_of_ble_eq_true rfl), trivial, trivial⟩ ?_
    refine zk_br R rfl (fun _ => ?_) (fun _ => ?_)
    · refine zk_st R 2 36 [some (.inr (13, 0)), some (.inl (.int x1))] [.inl (.int (2 : Int32)), .inr (13, 0)] (z_sI m 13 0 0 (0 : Int32)) rfl ⟨trivial, trivial, trivial⟩ ?_
      refine zk_call R (fun b => some (.inl (.int b.1))) (fun b => b.2) rfl (r_X12_raises (Nat.le_of_ble_eq_true rfl)) (fun b hb => w_X12_raises d 0 (2 : Int32) (z_sI m 13 0 0 (0 : Int32)) b hb) (fun r5 => ?_)
      exact zk_ret R rfl trivial rfl
    · refine zk_gd fun e6 => ?_
      refine zk_st R 13 61 [some (.inr (13, 0)), some (.inl (.int x1))] [.inl (.int ((z_sI (z_sI (z_sI m 13 0 0 (0 : Int32)) 13 0 8 (((z_sI m 13 0 0 (0 : Int32)).1 13 0 8) + (1 : Int32))) 25 0 (Int32.toNatClampNeg ((z_sI m 13 0 0 (0 : Int32)).1 13 0 8)) x1).1 13 0 8))] (z_sI (z_sI (z_sI m 13 0 0 (0 : Int32)) 13 0 8 (((z_sI m 13 0 0 (0 : Int32)).1 13 0 8) + (1 : Int32))) 25 0 (Int32.toNatClampNeg ((z_sI m 13 0 0 (0 : Int32)).1 13 0 8)) x1) rfl ⟨trivial, (Nat.le_of_ble_eq_true rfl), trivial, trivial, (Nat.le_of_ble_eq_true rfl), trivial, trivial, trivial, (Nat.le_of_ble_eq_true rfl), trivial, ⟨(Nat.le_of_ble_eq_true rfl), z_inb_in e6⟩, trivial, (Nat.le_of_ble_eq_true rfl), trivial⟩ ?_
      exact zk_ret R rfl trivial rfl
theorem r_X12_takes {i : Nat} {t : List zA} (h : i < zN 13) : z_rcv zN (zKD 248) (.inr (13, i) :: t) := by
  rw [show zKD 248 = 13 from rfl]
  exact ⟨rfl, h⟩
noncomputable def f_X12_takes (x1 : Int32) (m : zM) : Option (Bool × zM) :=
  Option.bind (f_X12_here m) fun r1 =>
  if r1 = x1 then
    some (true, (z_sI m 13 0 9 ((m.1 13 0 9) + (1 : Int32))))
  else
    some (false, m)
theorem w_X12_takes (d k : Nat) (x1 : Int32) (m : zM) (a : Bool × zM) (ha : f_X12_takes x1 m = some a) : z_Ev z_MT zN zRf (d + 2) (k + 0) 248 [.inr (13, 0), .inl (.int x1)] m ((fun a => (z_cB a.1, a.2) : Bool × zM → zO) a) := by
  refine zk_top (I := (yX12_takes, cX12_takes, 2, (some .boolean), [], tX12_takes, 13, 1, 13, 0, 0, 0)) (oc := (fun a => (z_cB a.1, a.2) : Bool × zM → zO)) (a := a) rfl (Nat.le_of_ble_eq_true rfl) (fun G R => ?_) ha
  unfold f_X12_takes
  refine zk_st R 1 1 [some (.inr (13, 0)), some (.inl (.int x1))] [.inr (13, 0)] m rfl ⟨trivial, trivial⟩ ?_
  refine zk_call R (fun b => some (.inl (.int b))) (fun _ => m) rfl (r_X12_here (Nat.le_of_ble_eq_true rfl)) (fun b hb => w_X12_here d 0 m b hb) (fun r1 => ?_)
  refine zk_st R 1 5 [some (.inr (13, 0)), some (.inl (.int x1))] [.inl (.int x1), .inl (.int r1)] m rfl ⟨trivial, trivial⟩ ?_
  refine zk_br R rfl (fun _ => ?_) (fun _ => ?_)
  · refine zk_st R 7 21 [some (.inr (13, 0)), some (.inl (.int x1))] [.inl (.int (1 : Int32))] (z_sI m 13 0 9 ((m.1 13 0 9) + (1 : Int32))) rfl ⟨trivial, trivial, (Nat.le_of_ble_eq_true rfl), trivial, trivial, (Nat.le_of_ble_eq_true rfl), trivial, trivial⟩ ?_
    exact zk_ret R rfl (Or.inr rfl) rfl
  · refine zk_st R 1 9 [some (.inr (13, 0)), some (.inl (.int x1))] [.inl (.int (0 : Int32))] m rfl ⟨trivial, trivial⟩ ?_
    exact zk_ret R rfl (Or.inl rfl) rfl
theorem r_X12_number {i : Nat} {t : List zA} (h : i < zN 13) : z_rcv zN (zKD 249) (.inr (13, i) :: t) := by
  rw [show zKD 249 = 13 from rfl]
  exact ⟨rfl, h⟩
noncomputable def f_X12_number (m : zM) : Option (Int32 × zM) :=
  Option.bind (f_X12_here m) fun r1 =>
  Option.bind (f_X12_in (Int32.toInt64 r1) (48 : Int64) (57 : Int64) m) fun r2 =>
  if (z_bi r2) = 0 then
    some ((-1 : Int32), m)
  else
    z_gd (z_inb (m.1 13 0 9) (z_alen 25)) <| if (((z_sI m 13 0 9 ((m.1 13 0 9) + (1 : Int32))).1 25 0 (Int32.toNatClampNeg (m.1 13 0 9))) - (48 : Int32)) ≤ 0 then
      some ((((z_sI m 13 0 9 ((m.1 13 0 9) + (1 : Int32))).1 25 0 (Int32.toNatClampNeg (m.1 13 0 9))) - (48 : Int32)), (z_sI m 13 0 9 ((m.1 13 0 9) + (1 : Int32))))
    else
      Option.bind (f_X12_here (z_sI m 13 0 9 ((m.1 13 0 9) + (1 : Int32)))) fun r6 =>
      Option.bind (f_X12_in (Int32.toInt64 r6) (48 : Int64) (57 : Int64) (z_sI m 13 0 9 ((m.1 13 0 9) + (1 : Int32)))) fun r7 =>
      if (z_bi r7) = 0 then
        some ((((z_sI m 13 0 9 ((m.1 13 0 9) + (1 : Int32))).1 25 0 (Int32.toNatClampNeg (m.1 13 0 9))) - (48 : Int32)), (z_sI m 13 0 9 ((m.1 13 0 9) + (1 : Int32))))
      else
        z_gd (z_inb ((z_sI m 13 0 9 ((m.1 13 0 9) + (1 : Int32))).1 13 0 9) (z_alen 25)) <| some (((((10 : Int32) * (((z_sI m 13 0 9 ((m.1 13 0 9) + (1 : Int32))).1 25 0 (Int32.toNatClampNeg (m.1 13 0 9))) - (48 : Int32))) + ((z_sI (z_sI m 13 0 9 ((m.1 13 0 9) + (1 : Int32))) 13 0 9 (((z_sI m 13 0 9 ((m.1 13 0 9) + (1 : Int32))).1 13 0 9) + (1 : Int32))).1 25 0 (Int32.toNatClampNeg ((z_sI m 13 0 9 ((m.1 13 0 9) + (1 : Int32))).1 13 0 9)))) - (48 : Int32)), (z_sI (z_sI m 13 0 9 ((m.1 13 0 9) + (1 : Int32))) 13 0 9 (((z_sI m 13 0 9 ((m.1 13 0 9) + (1 : Int32))).1 13 0 9) + (1 : Int32))))
theorem w_X12_number (d k : Nat) (m : zM) (a : Int32 × zM) (ha : f_X12_number m = some a) : z_Ev z_MT zN zRf (d + 2) (k + 0) 249 [.inr (13, 0)] m ((fun a => (z_cI a.1, a.2) : Int32 × zM → zO) a) := by
  refine zk_top (I := (yX12_number, cX12_number, 2, (some .int), [], tX12_number, 13, 0, 13, 0, 0, 0)) (oc := (fun a => (z_cI a.1, a.2) : Int32 × zM → zO)) (a := a) rfl (Nat.le_of_ble_eq_true rfl) (fun G R => ?_) ha
  unfold f_X12_number
  refine zk_st R 1 1 [some (.inr (13, 0)), none] [.inr (13, 0)] m rfl ⟨trivial, trivial⟩ ?_
  refine zk_call R (fun b => some (.inl (.int b))) (fun _ => m) rfl (r_X12_here (Nat.le_of_ble_eq_true rfl)) (fun b hb => w_X12_here d 0 m b hb) (fun r1 => ?_)
  refine zk_st R 3 11 [some (.inr (13, 0)), none] [.inl (.long (57 : Int64)), .inl (.long (48 : Int64)), .inl (.long (Int32.toInt64 r1))] m rfl ⟨trivial, trivial, trivial, trivial⟩ ?_
  refine zk_call R (fun b => some (.inl (.int (z_bi b)))) (fun _ => m) rfl (r_X12_in) (fun b hb => w_X12_in d 0 (Int32.toInt64 r1) (48 : Int64) (57 : Int64) m b hb) (fun r2 => ?_)
  refine zk_br R rfl (fun _ => ?_) (fun _ => ?_)
  · refine zk_st R 1 18 [some (.inr (13, 0)), none] [.inl (.int (-1 : Int32))] m rfl ⟨trivial, trivial⟩ ?_
    exact zk_ret R rfl trivial rfl
  · refine zk_gd fun e4 => ?_
    refine zk_st R 14 40 [some (.inr (13, 0)), some (.inl (.int (((z_sI m 13 0 9 ((m.1 13 0 9) + (1 : Int32))).1 25 0 (Int32.toNatClampNeg (m.1 13 0 9))) - (48 : Int32))))] [.inl (.int (((z_sI m 13 0 9 ((m.1 13 0 9) + (1 : Int32))).1 25 0 (Int32.toNatClampNeg (m.1 13 0 9))) - (48 : Int32)))] (z_sI m 13 0 9 ((m.1 13 0 9) + (1 : Int32))) rfl ⟨trivial, (Nat.le_of_ble_eq_true rfl), trivial, trivial, (Nat.le_of_ble_eq_true rfl), trivial, trivial, trivial, (Nat.le_of_ble_eq_true rfl), ⟨(Nat.le_of_ble_eq_true rfl), z_inb_in e4⟩, trivial, trivial, trivial, trivial, trivial⟩ ?_
    refine zk_br R rfl (fun _ => ?_) (fun _ => ?_)
    · refine zk_st R 1 86 [some (.inr (13, 0)), some (.inl (.int (((z_sI m 13 0 9 ((m.1 13 0 9) + (1 : Int32))).1 25 0 (Int32.toNatClampNeg (m.1 13 0 9))) - (48 : Int32))))] [.inl (.int (((z_sI m 13 0 9 ((m.1 13 0 9) + (1 : Int32))).1 25 0 (Int32.toNatClampNeg (m.1 13 0 9))) - (48 : Int32)))] (z_sI m 13 0 9 ((m.1 13 0 9) + (1 : Int32))) rfl ⟨trivial, trivial⟩ ?_
      exact zk_ret R rfl trivial rfl
    · refine zk_st R 1 44 [some (.inr (13, 0)), some (.inl (.int (((z_sI m 13 0 9 ((m.1 13 0 9) + (1 : Int32))).1 25 0 (Int32.toNatClampNeg (m.1 13 0 9))) - (48 : Int32))))] [.inr (13, 0)] (z_sI m 13 0 9 ((m.1 13 0 9) + (1 : Int32))) rfl ⟨trivial, trivial⟩ ?_
      refine zk_call R (fun b => some (.inl (.int b))) (fun _ => (z_sI m 13 0 9 ((m.1 13 0 9) + (1 : Int32)))) rfl (r_X12_here (Nat.le_of_ble_eq_true rfl)) (fun b hb => w_X12_here d 0 (z_sI m 13 0 9 ((m.1 13 0 9) + (1 : Int32))) b hb) (fun r6 => ?_)
      refine zk_st R 3 54 [some (.inr (13, 0)), some (.inl (.int (((z_sI m 13 0 9 ((m.1 13 0 9) + (1 : Int32))).1 25 0 (Int32.toNatClampNeg (m.1 13 0 9))) - (48 : Int32))))] [.inl (.long (57 : Int64)), .inl (.long (48 : Int64)), .inl (.long (Int32.toInt64 r6))] (z_sI m 13 0 9 ((m.1 13 0 9) + (1 : Int32))) rfl ⟨trivial, trivial, trivial, trivial⟩ ?_
      refine zk_call R (fun b => some (.inl (.int (z_bi b)))) (fun _ => (z_sI m 13 0 9 ((m.1 13 0 9) + (1 : Int32)))) rfl (r_X12_in) (fun b hb => w_X12_in d 0 (Int32.toInt64 r6) (48 : Int64) (57 : Int64) (z_sI m 13 0 9 ((m.1 13 0 9) + (1 : Int32))) b hb) (fun r7 => ?_)
      refine zk_br R rfl (fun _ => ?_) (fun _ => ?_)
      · refine zk_st R 1 86 [some (.inr (13, 0)), some (.inl (.int (((z_sI m 13 0 9 ((m.1 13 0 9) + (1 : Int32))).1 25 0 (Int32.toNatClampNeg (m.1 13 0 9))) - (48 : Int32))))] [.inl (.int (((z_sI m 13 0 9 ((m.1 13 0 9) + (1 : Int32))).1 25 0 (Int32.toNatClampNeg (m.1 13 0 9))) - (48 : Int32)))] (z_sI m 13 0 9 ((m.1 13 0 9) + (1 : Int32))) rfl ⟨trivial, trivial⟩ ?_
        exact zk_ret R rfl trivial rfl
      · refine zk_gd fun e9 => ?_
        refine zk_st R 18 86 [some (.inr (13, 0)), some (.inl (.int ((((10 : Int32) * (((z_sI m 13 0 9 ((m.1 13 0 9) + (1 : Int32))).1 25 0 (Int32.toNatClampNeg (m.1 13 0 9))) - (48 : Int32))) + ((z_sI (z_sI m 13 0 9 ((m.1 13 0 9) + (1 : Int32))) 13 0 9 (((z_sI m 13 0 9 ((m.1 13 0 9) + (1 : Int32))).1 13 0 9) + (1 : Int32))).1 25 0 (Int32.toNatClampNeg ((z_sI m 13 0 9 ((m.1 13 0 9) + (1 : Int32))).1 13 0 9)))) - (48 : Int32))))] [.inl (.int ((((10 : Int32) * (((z_sI m 13 0 9 ((m.1 13 0 9) + (1 : Int32))).1 25 0 (Int32.toNatClampNeg (m.1 13 0 9))) - (48 : Int32))) + ((z_sI (z_sI m 13 0 9 ((m.1 13 0 9) + (1 : Int32))) 13 0 9 (((z_sI m 13 0 9 ((m.1 13 0 9) + (1 : Int32))).1 13 0 9) + (1 : Int32))).1 25 0 (Int32.toNatClampNeg ((z_sI m 13 0 9 ((m.1 13 0 9) + (1 : Int32))).1 13 0 9)))) - (48 : Int32)))] (z_sI (z_sI m 13 0 9 ((m.1 13 0 9) + (1 : Int32))) 13 0 9 (((z_sI m 13 0 9 ((m.1 13 0 9) + (1 : Int32))).1 13 0 9) + (1 : Int32))) rfl ⟨trivial, trivial, trivial, trivial, (Nat.le_of_ble_eq_true rfl), trivial, trivial, (Nat.le_of_ble_eq_true rfl), trivial, trivial, trivial, (Nat.le_of_ble_eq_true rfl), ⟨(Nat.le_of_ble_eq_true rfl), z_inb_in e9⟩, trivial, trivial, trivial, trivial, trivial, trivial⟩ ?_
        exact zk_ret R rfl trivial rfl
theorem r_X12_faults {i : Nat} {t : List zA} (h : i < zN 13) : z_rcv zN (zKD 252) (.inr (13, i) :: t) := by
  rw [show zKD 252 = 13 from rfl]
  exact ⟨rfl, h⟩
noncomputable def f_X12_faults (m : zM) : Option (Int32 × zM) :=
  Option.bind (f_X12_raises (1 : Int32) (z_sI (z_sI m 13 0 10 (m.1 13 0 9)) 13 0 8 (0 : Int32))) fun r1 =>
  some (r1.1, r1.2)
theorem w_X12_faults (d k : Nat) (m : zM) (a : Int32 × zM) (ha : f_X12_faults m = some a) : z_Ev z_MT zN zRf (d + 2) (k + 0) 252 [.inr (13, 0)] m ((fun a => (z_cI a.1, a.2) : Int32 × zM → zO) a) := by
  refine zk_top (I := (yX12_faults, cX12_faults, 1, (some .int), [], tX12_faults, 13, 0, 13, 0, 0, 0)) (oc := (fun a => (z_cI a.1, a.2) : Int32 × zM → zO)) (a := a) rfl (Nat.le_of_ble_eq_true rfl) (fun G R => ?_) ha
  unfold f_X12_faults
  refine zk_st R 9 15 [some (.inr (13, 0))] [.inl (.int (1 : Int32)), .inr (13, 0)] (z_sI (z_sI m 13 0 10 (m.1 13 0 9)) 13 0 8 (0 : Int32)) rfl ⟨trivial, trivial, (Nat.le_of_ble_eq_true rfl), (Nat.le_of_ble_eq_true rfl), trivial, trivial, (Nat.le_of_ble_eq_true rfl), trivial, trivial, trivial⟩ ?_
  refine zk_call R (fun b => some (.inl (.int b.1))) (fun b => b.2) rfl (r_X12_raises (Nat.le_of_ble_eq_true rfl)) (fun b hb => w_X12_raises d 0 (1 : Int32) (z_sI (z_sI m 13 0 10 (m.1 13 0 9)) 13 0 8 (0 : Int32)) b hb) (fun r1 => ?_)
  exact zk_ret R rfl trivial rfl
theorem r_X12_errorPosition {i : Nat} {t : List zA} (h : i < zN 13) : z_rcv zN (zKD 253) (.inr (13, i) :: t) := by
  rw [show zKD 253 = 13 from rfl]
  exact ⟨rfl, h⟩
noncomputable def f_X12_errorPosition (m : zM) : Option (Int32 × zM) :=
  if 0 ≤ ((z_sI m 13 0 0 (0 : Int32)).1 13 0 10) then
    some (((z_sI m 13 0 0 (0 : Int32)).1 13 0 10), (z_sI m 13 0 0 (0 : Int32)))
  else
    Option.bind (f_X12_raises (1 : Int32) (z_sI m 13 0 0 (0 : Int32))) fun r2 =>
    some (r2.1, r2.2)
theorem w_X12_errorPosition (d k : Nat) (m : zM) (a : Int32 × zM) (ha : f_X12_errorPosition m = some a) : z_Ev z_MT zN zRf (d + 2) (k + 0) 253 [.inr (13, 0)] m ((fun a => (z_cI a.1, a.2) : Int32 × zM → zO) a) := by
  refine zk_top (I := (yX12_errorPosition, cX12_errorPosition, 1, (some .int), [], tX12_errorPosition, 13, 0, 13, 0, 0, 0)) (oc := (fun a => (z_cI a.1, a.2) : Int32 × zM → zO)) (a := a) rfl (Nat.le_of_ble_eq_true rfl) (fun G R => ?_) ha
  unfold f_X12_errorPosition
  refine zk_st R 5 9 [some (.inr (13, 0))] [.inl (.int ((z_sI m 13 0 0 (0 : Int32)).1 13 0 10))] (z_sI m 13 0 0 (0 : Int32)) rfl ⟨trivial, trivial, (Nat.le_of_ble_eq_true rfl), trivial, (Nat.le_of_ble_eq_true rfl), trivial⟩ ?_
  refine zk_br R rfl (fun _ => ?_) (fun _ => ?_)
  · refine zk_st R 2 24 [some (.inr (13, 0))] [.inl (.int ((z_sI m 13 0 0 (0 : Int32)).1 13 0 10))] (z_sI m 13 0 0 (0 : Int32)) rfl ⟨trivial, (Nat.le_of_ble_eq_true rfl), trivial⟩ ?_
    exact zk_ret R rfl trivial rfl
  · refine zk_st R 2 14 [some (.inr (13, 0))] [.inl (.int (1 : Int32)), .inr (13, 0)] (z_sI m 13 0 0 (0 : Int32)) rfl ⟨trivial, trivial, trivial⟩ ?_
    refine zk_call R (fun b => some (.inl (.int b.1))) (fun b => b.2) rfl (r_X12_raises (Nat.le_of_ble_eq_true rfl)) (fun b hb => w_X12_raises d 0 (1 : Int32) (z_sI m 13 0 0 (0 : Int32)) b hb) (fun r2 => ?_)
    refine zk_st R 1 24 [some (.inr (13, 0))] [.inl (.int r2.1)] r2.2 rfl ⟨trivial, trivial⟩ ?_
    exact zk_ret R rfl trivial rfl
theorem r_X12_undo {i : Nat} {t : List zA} (h : i < zN 13) : z_rcv zN (zKD 255) (.inr (13, i) :: t) := by
  rw [show zKD 255 = 13 from rfl]
  exact ⟨rfl, h⟩
noncomputable def f_X12_undo_30 : Nat → Int32 → zM → Option (Int32 × zM)
  | 0, _, _ => none
  | j + 1, x1, m =>
    if (259 : Int32) ≤ x1 then
      some ((m.1 13 0 3), m)
    else
      z_gd (z_inb (((259 : Int32) * (m.1 13 0 3)) + x1) (z_alen 24)) <| z_gd (z_inb x1 (z_alen 23)) <| f_X12_undo_30 j (x1 + (1 : Int32)) (z_sI m 23 0 (Int32.toNatClampNeg x1) (m.1 24 0 (Int32.toNatClampNeg (((259 : Int32) * (m.1 13 0 3)) + x1))))
noncomputable def f_X12_undo (m : zM) : Option (Int32 × zM) :=
  if ((z_sI m 13 0 0 (0 : Int32)).1 13 0 3) = 0 then
    Option.bind (f_X12_raises (1 : Int32) (z_sI m 13 0 0 (0 : Int32))) fun r2 =>
    some (r2.1, r2.2)
  else
    f_X12_undo_30 zF (0 : Int32) (z_sI (z_sI m 13 0 0 (0 : Int32)) 13 0 3 (((z_sI m 13 0 0 (0 : Int32)).1 13 0 3) - (1 : Int32)))
theorem w_X12_undo_30 (d k : Nat) {o : zO} {G : Nat → Nat → zL → List zA → zM → Prop} (R : zRu (d + 1) tX12_undo 0 (z_hf []) o G) : ∀ (j : Nat) (x1 : Int32) (m : zM), zLK G (fun a => (z_cI a.1, a.2) : Int32 × zM → zO) o (f_X12_undo_30 j x1 m) some (k + 0) 30 [some (.inr (13, 0)), some (.inl (.int x1))] [] m := by
  intro j
  induction j with
  | zero =>
    intro _ _
    exact zk_none
  | succ j ih =>
    intro x1 m
    unfold f_X12_undo_30
    refine zk_st R 2 34 [some (.inr (13, 0)), some (.inl (.int x1))] [.inl (.int (259 : Int32)), .inl (.int x1)] m rfl ⟨trivial, trivial, trivial⟩ ?_
    refine zk_br R rfl (fun _ => ?_) (fun _ => ?_)
    · refine zk_st R 2 68 [some (.inr (13, 0)), some (.inl (.int x1))] [.inl (.int (m.1 13 0 3))] m rfl ⟨trivial, (Nat.le_of_ble_eq_true rfl), trivial⟩ ?_
      exact zk_ret R rfl trivial rfl
    · refine zk_gd fun e2 => ?_
      refine zk_gd fun e3 => ?_
      refine zk_st R 15 30 [some (.inr (13, 0)), some (.inl (.int (x1 + (1 : Int32))))] [] (z_sI m 23 0 (Int32.toNatClampNeg x1) (m.1 24 0 (Int32.toNatClampNeg (((259 : Int32) * (m.1 13 0 3)) + x1)))) rfl ⟨trivial, (Nat.le_of_ble_eq_true rfl), trivial, trivial, (Nat.le_of_ble_eq_true rfl), trivial, trivial, (Nat.le_of_ble_eq_true rfl), trivial, trivial, trivial, ⟨(Nat.le_of_ble_eq_true rfl), z_inb_in e2⟩, ⟨(Nat.le_of_ble_eq_true rfl), z_inb_in e3⟩, trivial, trivial, trivial⟩ ?_
      refine zk_mask R [true, true] rfl ?_
      exact ih (x1 + (1 : Int32)) (z_sI m 23 0 (Int32.toNatClampNeg x1) (m.1 24 0 (Int32.toNatClampNeg (((259 : Int32) * (m.1 13 0 3)) + x1))))
theorem w_X12_undo (d k : Nat) (m : zM) (a : Int32 × zM) (ha : f_X12_undo m = some a) : z_Ev z_MT zN zRf (d + 2) (k + 0) 255 [.inr (13, 0)] m ((fun a => (z_cI a.1, a.2) : Int32 × zM → zO) a) := by
  refine zk_top (I := (yX12_undo, cX12_undo, 2, (some .int), [], tX12_undo, 13, 0, 13, 0, 0, 0)) (oc := (fun a => (z_cI a.1, a.2) : Int32 × zM → zO)) (a := a) rfl (Nat.le_of_ble_eq_true rfl) (fun G R => ?_) ha
  unfold f_X12_undo
  refine zk_st R 5 9 [some (.inr (13, 0)), none] [.inl (.int ((z_sI m 13 0 0 (0 : Int32)).1 13 0 3))] (z_sI m 13 0 0 (0 : Int32)) rfl ⟨trivial, trivial, (Nat.le_of_ble_eq_true rfl), trivial, (Nat.le_of_ble_eq_true rfl), trivial⟩ ?_
  refine zk_br R rfl (fun _ => ?_) (fun _ => ?_)
  · refine zk_st R 2 14 [some (.inr (13, 0)), none] [.inl (.int (1 : Int32)), .inr (13, 0)] (z_sI m 13 0 0 (0 : Int32)) rfl ⟨trivial, trivial, trivial⟩ ?_
    refine zk_call R (fun b => some (.inl (.int b.1))) (fun b => b.2) rfl (r_X12_raises (Nat.le_of_ble_eq_true rfl)) (fun b hb => w_X12_raises d 0 (1 : Int32) (z_sI m 13 0 0 (0 : Int32)) b hb) (fun r2 => ?_)
    exact zk_ret R rfl trivial rfl
  · refine zk_st R 8 30 [some (.inr (13, 0)), some (.inl (.int (0 : Int32)))] [] (z_sI (z_sI m 13 0 0 (0 : Int32)) 13 0 3 (((z_sI m 13 0 0 (0 : Int32)).1 13 0 3) - (1 : Int32))) rfl ⟨trivial, trivial, (Nat.le_of_ble_eq_true rfl), trivial, trivial, (Nat.le_of_ble_eq_true rfl), trivial, trivial, trivial⟩ ?_
    refine zk_mask R [true, true] rfl ?_
    exact w_X12_undo_30 d k R zF (0 : Int32) (z_sI (z_sI m 13 0 0 (0 : Int32)) 13 0 3 (((z_sI m 13 0 0 (0 : Int32)).1 13 0 3) - (1 : Int32)))
theorem r_X12_save {i : Nat} {t : List zA} (h : i < zN 13) : z_rcv zN (zKD 256) (.inr (13, i) :: t) := by
  rw [show zKD 256 = 13 from rfl]
  exact ⟨rfl, h⟩
noncomputable def f_X12_save_12 : Nat → Int32 → zM → Option (Int32 × zM)
  | 0, _, _ => none
  | j + 1, x1, m =>
    if (259 : Int32) ≤ x1 then
      Option.bind (f_X12_cells m) fun r2 =>
      some (r2, m)
    else
      z_gd (z_inb x1 (z_alen 23)) <| f_X12_save_12 j (x1 + (1 : Int32)) (z_sI m 23 1 (Int32.toNatClampNeg x1) (m.1 23 0 (Int32.toNatClampNeg x1)))
noncomputable def f_X12_save (m : zM) : Option (Int32 × zM) :=
  f_X12_save_12 zF (0 : Int32) (z_sI (z_sI m 13 0 0 (0 : Int32)) 13 0 5 (1 : Int32))
theorem w_X12_save_12 (d k : Nat) {o : zO} {G : Nat → Nat → zL → List zA → zM → Prop} (R : zRu (d + 1) tX12_save 0 (z_hf []) o G) : ∀ (j : Nat) (x1 : Int32) (m : zM), zLK G (fun a => (z_cI a.1, a.2) : Int32 × zM → zO) o (f_X12_save_12 j x1 m) some (k + 0) 12 [some (.inr (13, 0)), some (.inl (.int x1))] [] m := by
  intro j
  induction j with
  | zero =>
    intro _ _
    exact zk_none
  | succ j ih =>
    intro x1 m
    unfold f_X12_save_12
    refine zk_st R 2 16 [some (.inr (13, 0)), some (.inl (.int x1))] [.inl (.int (259 : Int32)), .inl (.int x1)] m rfl ⟨trivial, trivial, trivial⟩ ?_
    refine zk_br R rfl (fun _ => ?_) (fun _ => ?_)
    · refine zk_st R 1 38 [some (.inr (13, 0)), some (.inl (.int x1))] [.inr (13, 0)] m rfl ⟨trivial, trivial⟩ ?_
      refine zk_call R (fun b => some (.inl (.int b))) (fun _ => m) rfl (r_X12_cells (Nat.le_of_ble_eq_true rfl)) (fun b hb => w_X12_cells d 0 m b hb) (fun r2 => ?_)
      exact zk_ret R rfl trivial rfl
    · refine zk_gd fun e3 => ?_
      refine zk_st R 10 12 [some (.inr (13, 0)), some (.inl (.int (x1 + (1 : Int32))))] [] (z_sI m 23 1 (Int32.toNatClampNeg x1) (m.1 23 0 (Int32.toNatClampNeg x1))) rfl ⟨trivial, (Nat.le_of_ble_eq_true rfl), trivial, trivial, (Nat.le_of_ble_eq_true rfl), trivial, ⟨(Nat.le_of_ble_eq_true rfl), z_inb_in e3⟩, ⟨(Nat.le_of_ble_eq_true rfl), z_inb_in e3⟩, trivial, trivial, trivial⟩ ?_
      refine zk_mask R [true, true] rfl ?_
      exact ih (x1 + (1 : Int32)) (z_sI m 23 1 (Int32.toNatClampNeg x1) (m.1 23 0 (Int32.toNatClampNeg x1)))
theorem w_X12_save (d k : Nat) (m : zM) (a : Int32 × zM) (ha : f_X12_save m = some a) : z_Ev z_MT zN zRf (d + 2) (k + 0) 256 [.inr (13, 0)] m ((fun a => (z_cI a.1, a.2) : Int32 × zM → zO) a) := by
  refine zk_top (I := (yX12_save, cX12_save, 2, (some .int), [], tX12_save, 13, 0, 13, 0, 0, 0)) (oc := (fun a => (z_cI a.1, a.2) : Int32 × zM → zO)) (a := a) rfl (Nat.le_of_ble_eq_true rfl) (fun G R => ?_) ha
  unfold f_X12_save
  refine zk_st R 8 12 [some (.inr (13, 0)), some (.inl (.int (0 : Int32)))] [] (z_sI (z_sI m 13 0 0 (0 : Int32)) 13 0 5 (1 : Int32)) rfl ⟨trivial, trivial, (Nat.le_of_ble_eq_true rfl), trivial, trivial, ⟨(Nat.le_of_ble_eq_true rfl), Or.inr rfl⟩, trivial, trivial, trivial⟩ ?_
  refine zk_mask R [true, true] rfl ?_
  exact w_X12_save_12 d k R zF (0 : Int32) (z_sI (z_sI m 13 0 0 (0 : Int32)) 13 0 5 (1 : Int32))
theorem r_X12_restore {i : Nat} {t : List zA} (h : i < zN 13) : z_rcv zN (zKD 257) (.inr (13, i) :: t) := by
  rw [show zKD 257 = 13 from rfl]
  exact ⟨rfl, h⟩
noncomputable def f_X12_restore_24 : Nat → Int32 → zM → Option (Int32 × zM)
  | 0, _, _ => none
  | j + 1, x1, m =>
    if (259 : Int32) ≤ x1 then
      Option.bind (f_X12_cells m) fun r2 =>
      some (r2, m)
    else
      z_gd (z_inb x1 (z_alen 23)) <| f_X12_restore_24 j (x1 + (1 : Int32)) (z_sI m 23 0 (Int32.toNatClampNeg x1) (m.1 23 1 (Int32.toNatClampNeg x1)))
noncomputable def f_X12_restore (m : zM) : Option (Int32 × zM) :=
  if ((z_sI m 13 0 0 (0 : Int32)).1 13 0 5) = 0 then
    Option.bind (f_X12_raises (1 : Int32) (z_sI m 13 0 0 (0 : Int32))) fun r2 =>
    some (r2.1, r2.2)
  else
    Option.bind (f_X12_changes (z_sI m 13 0 0 (0 : Int32))) fun r3 =>
    f_X12_restore_24 zF (0 : Int32) r3
theorem w_X12_restore_24 (d k : Nat) {o : zO} {G : Nat → Nat → zL → List zA → zM → Prop} (R : zRu (d + 1) tX12_restore 0 (z_hf []) o G) : ∀ (j : Nat) (x1 : Int32) (m : zM), zLK G (fun a => (z_cI a.1, a.2) : Int32 × zM → zO) o (f_X12_restore_24 j x1 m) some (k + 0) 24 [some (.inr (13, 0)), some (.inl (.int x1))] [] m := by
  intro j
  induction j with
  | zero =>
    intro _ _
    exact zk_none
  | succ j ih =>
    intro x1 m
    unfold f_X12_restore_24
    refine zk_st R 2 28 [some (.inr (13, 0)), some (.inl (.int x1))] [.inl (.int (259 : Int32)), .inl (.int x1)] m rfl ⟨trivial, trivial, trivial⟩ ?_
    refine zk_br R rfl (fun _ => ?_) (fun _ => ?_)
    · refine zk_st R 1 50 [some (.inr (13, 0)), some (.inl (.int x1))] [.inr (13, 0)] m rfl ⟨trivial, trivial⟩ ?_
      refine zk_call R (fun b => some (.inl (.int b))) (fun _ => m) rfl (r_X12_cells (Nat.le_of_ble_eq_true rfl)) (fun b hb => w_X12_cells d 0 m b hb) (fun r2 => ?_)
      exact zk_ret R rfl trivial rfl
    · refine zk_gd fun e3 => ?_
      refine zk_st R 10 24 [some (.inr (13, 0)), some (.inl (.int (x1 + (1 : Int32))))] [] (z_sI m 23 0 (Int32.toNatClampNeg x1) (m.1 23 1 (Int32.toNatClampNeg x1))) rfl ⟨trivial, (Nat.le_of_ble_eq_true rfl), trivial, trivial, (Nat.le_of_ble_eq_true rfl), trivial, ⟨(Nat.le_of_ble_eq_true rfl), z_inb_in e3⟩, ⟨(Nat.le_of_ble_eq_true rfl), z_inb_in e3⟩, trivial, trivial, trivial⟩ ?_
      refine zk_mask R [true, true] rfl ?_
      exact ih (x1 + (1 : Int32)) (z_sI m 23 0 (Int32.toNatClampNeg x1) (m.1 23 1 (Int32.toNatClampNeg x1)))
theorem w_X12_restore (d k : Nat) (m : zM) (a : Int32 × zM) (ha : f_X12_restore m = some a) : z_Ev z_MT zN zRf (d + 2) (k + 0) 257 [.inr (13, 0)] m ((fun a => (z_cI a.1, a.2) : Int32 × zM → zO) a) := by
  refine zk_top (I := (yX12_restore, cX12_restore, 2, (some .int), [], tX12_restore, 13, 0, 13, 0, 0, 0)) (oc := (fun a => (z_cI a.1, a.2) : Int32 × zM → zO)) (a := a) rfl (Nat.le_of_ble_eq_true rfl) (fun G R => ?_) ha
  unfold f_X12_restore
  refine zk_st R 5 9 [some (.inr (13, 0)), none] [.inl (.int ((z_sI m 13 0 0 (0 : Int32)).1 13 0 5))] (z_sI m 13 0 0 (0 : Int32)) rfl ⟨trivial, trivial, (Nat.le_of_ble_eq_true rfl), trivial, (Nat.le_of_ble_eq_true rfl), trivial⟩ ?_
  refine zk_br R rfl (fun _ => ?_) (fun _ => ?_)
  · refine zk_st R 2 14 [some (.inr (13, 0)), none] [.inl (.int (1 : Int32)), .inr (13, 0)] (z_sI m 13 0 0 (0 : Int32)) rfl ⟨trivial, trivial, trivial⟩ ?_
    refine zk_call R (fun b => some (.inl (.int b.1))) (fun b => b.2) rfl (r_X12_raises (Nat.le_of_ble_eq_true rfl)) (fun b hb => w_X12_raises d 0 (1 : Int32) (z_sI m 13 0 0 (0 : Int32)) b hb) (fun r2 => ?_)
    exact zk_ret R rfl trivial rfl
  · refine zk_st R 1 19 [some (.inr (13, 0)), none] [.inr (13, 0)] (z_sI m 13 0 0 (0 : Int32)) rfl ⟨trivial, trivial⟩ ?_
    refine zk_call R (fun _ => none) id rfl (r_X12_changes (Nat.le_of_ble_eq_true rfl)) (fun b hb => w_X12_changes d 0 (z_sI m 13 0 0 (0 : Int32)) b hb) (fun r3 => ?_)
    refine zk_st R 2 24 [some (.inr (13, 0)), some (.inl (.int (0 : Int32)))] [] r3 rfl ⟨trivial, trivial, trivial⟩ ?_
    refine zk_mask R [true, true] rfl ?_
    exact w_X12_restore_24 d k R zF (0 : Int32) r3
theorem r_L_errorPosition {as : List zA} : z_rcv zN (zKD 300) as := by
  rw [show zKD 300 = 0 from rfl]
  trivial
noncomputable def f_L_errorPosition (m : zM) : Option (Int32 × zM) :=
  z_bh (f_X11_errorPosition m) (fun r1 m2 =>
  z_gd (z_inb (0 : Int32) (z_alen 32)) <| some ((0 : Int32), (z_sL m2 32 0 (Int32.toNatClampNeg (0 : Int32)) (Int32.toInt64 r1)))) (z_hf [(0, 8, 11, 61, 3, 1)] 3) id
theorem w_L_errorPosition (d k : Nat) (m : zM) (a : Int32 × zM) (ha : f_L_errorPosition m = some a) : z_Ev z_MT zN zRf (d + 2) (k + 1) 300 [.inr (12, 0), .inr (32, 0)] m ((fun a => (z_cI a.1, a.2) : Int32 × zM → zO) a) := by
  refine zk_top (I := (yL_errorPosition, cL_errorPosition, 3, (some .int), [(0, 8, 11, 61, 3, 1)], tL_errorPosition, 0, 2, 0, 0, 0, 0)) (oc := (fun a => (z_cI a.1, a.2) : Int32 × zM → zO)) (a := a) rfl (Nat.le_of_ble_eq_true rfl) (fun G R => ?_) ha
  unfold f_L_errorPosition
  refine zk_st R 3 3 [some (.inr (12, 0)), some (.inr (32, 0)), none] [.inr (12, 0), .inl (.int (0 : Int32)), .inr (32, 0)] m rfl ⟨trivial, trivial, trivial, trivial⟩ ?_
  refine zk_callh (cr := id) R (k + 0) 1 (fun r1 => some (.inl (.int r1))) rfl (r_X11_errorPosition (Nat.le_of_ble_eq_true rfl)) (fun b m' hb => w_X11_errorPosition d 0 m _ hb) (fun e m' hb => w_X11_errorPosition d 0 m _ hb) (fun _ _ => rfl) (fun r1 m2 => ?_)
  refine zk_gd fun e3 => ?_
  refine zk_st R 4 15 [some (.inr (12, 0)), some (.inr (32, 0)), none] [.inl (.int (0 : Int32))] (z_sL m2 32 0 (Int32.toNatClampNeg (0 : Int32)) (Int32.toInt64 r1)) rfl ⟨trivial, ⟨(Nat.le_of_ble_eq_true rfl), z_inb_in e3⟩, trivial, trivial, trivial⟩ ?_
  exact zk_ret R rfl trivial rfl
theorem r_X4_isOnlyOutlet {i : Nat} {t : List zA} (h : i < zN 6) : z_rcv zN (zKD 23) (.inr (6, i) :: t) := by
  rw [show zKD 23 = 6 from rfl]
  exact ⟨rfl, h⟩
noncomputable def f_X4_isOnlyOutlet (g0 : Nat) (x1 : Int32) (m : zM) : Option (Bool) :=
  Option.bind (f_X4_isOutlet g0 x1 m) fun r1 =>
  if (z_bi r1) = 0 then
    some false
  else
    Option.bind (f_J13_bitCount_95d88 (m.2.1 6 g0 3) m) fun r3 =>
    if r3 = (1 : Int32) then
      some true
    else
      some false
theorem w_X4_isOnlyOutlet (d k : Nat) (g0 : Nat) (hg0 : g0 < zN 6) (x1 : Int32) (m : zM) (a : Bool) (ha : f_X4_isOnlyOutlet g0 x1 m = some a) : z_Ev z_MT zN zRf (d + 3) (k + 0) 23 [.inr (6, g0), .inl (.int x1)] m ((fun a => (z_cB a, m) : Bool → zO) a) := by
  refine zk_top (I := (yX4_isOnlyOutlet, cX4_isOnlyOutlet, 2, (some .boolean), [], tX4_isOnlyOutlet, 6, 1, 6, 0, 0, 0)) (oc := (fun a => (z_cB a, m) : Bool → zO)) (a := a) rfl (Nat.le_of_ble_eq_true rfl) (fun G R => ?_) ha
  unfold f_X4_isOnlyOutlet
  refine zk_st R 2 2 [some (.inr (6, g0)), some (.inl (.int x1))] [.inl (.int x1), .inr (6, g0)] m rfl ⟨trivial, trivial, trivial⟩ ?_
  refine zk_call R (fun b => some (.inl (.int (z_bi b)))) (fun _ => m) rfl (r_X4_isOutlet hg0) (fun b hb => w_X4_isOutlet d 0 g0 hg0 x1 m b hb) (fun r1 => ?_)
  refine zk_br R rfl (fun _ => ?_) (fun _ => ?_)
  · refine zk_st R 1 24 [some (.inr (6, g0)), some (.inl (.int x1))] [.inl (.int (0 : Int32))] m rfl ⟨trivial, trivial⟩ ?_
    exact zk_ret R rfl (Or.inl rfl) rfl
  · refine zk_st R 2 12 [some (.inr (6, g0)), some (.inl (.int x1))] [.inl (.long (m.2.1 6 g0 3))] m rfl ⟨trivial, hg0, trivial⟩ ?_
    refine zk_call R (fun b => some (.inl (.int b))) (fun _ => m) rfl (r_J13_bitCount_95d88) (fun b hb => w_J13_bitCount_95d88 (d + 1) 0 (m.2.1 6 g0 3) m b hb) (fun r3 => ?_)
    refine zk_st R 1 16 [some (.inr (6, g0)), some (.inl (.int x1))] [.inl (.int (1 : Int32)), .inl (.int r3)] m rfl ⟨trivial, trivial⟩ ?_
    refine zk_br R rfl (fun _ => ?_) (fun _ => ?_)
    · refine zk_st R 2 24 [some (.inr (6, g0)), some (.inl (.int x1))] [.inl (.int (1 : Int32))] m rfl ⟨trivial, trivial, trivial⟩ ?_
      exact zk_ret R rfl (Or.inr rfl) rfl
    · refine zk_st R 1 24 [some (.inr (6, g0)), some (.inl (.int x1))] [.inl (.int (0 : Int32))] m rfl ⟨trivial, trivial⟩ ?_
      exact zk_ret R rfl (Or.inl rfl) rfl
