theorem r_X12_depression {i : Nat} {t : List zA} (h : i < zN 13) : z_rcv zN (zKD 231) (.inr (13, i) :: t) := by
  rw [show zKD 231 = 13 from rfl]
  exact ⟨rfl, h⟩
noncomputable def f_X12_depression_111 : Nat → Int32 → Int32 → Int32 → zM → Option (Int32 × zM)
  | 0, _, _, _, _ => none
  | j + 1, x3, x4, x5, m =>
    Option.bind (f_X12_cells m) fun r1 =>
    if r1 ≤ x5 then
      some (x4, m)
    else
      z_gd (z_inb x3 (z_alen 31)) <| if (lg_cmp ((z_shr (m.2.1 31 3 (Int32.toNatClampNeg x3)) x5) &&& (1 : Int64)) (1 : Int64)) = 0 then
        z_gd (z_inb x3 (z_alen 21)) <| Option.bind (f_X12_height x5 m) fun r6 =>
        f_X12_depression_111 j x3 (x4 + (((m.1 21 4 (Int32.toNatClampNeg x3)) + (1 : Int32)) - r6)) (x5 + (1 : Int32)) m
      else
        f_X12_depression_111 j x3 x4 (x5 + (1 : Int32)) m
noncomputable def f_X12_depression_191 : Nat → Int32 → Int32 → zM → Option (Int32 × zM)
  | 0, _, _, _ => none
  | j + 1, x4, x5, m =>
    z_gd (z_inb x5 (z_alen 21)) <| if (m.1 21 5 (Int32.toNatClampNeg x5)) < 0 then
      some (x4, m)
    else
      z_gd (z_inb x5 (z_alen 21)) <| f_X12_depression_191 j (x4 + (1 : Int32)) (m.1 21 5 (Int32.toNatClampNeg x5)) m
noncomputable def f_X12_depression (x1 : Int32) (x2 : Int32) (m : zM) : Option (Int32 × zM) :=
  Option.bind (f_X12_depressions (z_sI m 13 0 0 (0 : Int32))) fun r1 =>
  Option.bind (f_X12_in (Int32.toInt64 x1) (0 : Int64) (Int32.toInt64 ((r1.1 13 0 21) - (1 : Int32))) r1) fun r2 =>
  if (z_bi r2) = 0 then
    Option.bind (f_X12_raises (1 : Int32) r1) fun r4 =>
    some (r4.1, r4.2)
  else
    if x2 = (0 : Int32) then
      z_gd (z_inb x1 (z_alen 21)) <| some ((r1.1 21 3 (Int32.toNatClampNeg x1)), r1)
    else if x2 = (1 : Int32) then
      z_gd (z_inb x1 (z_alen 21)) <| some ((r1.1 21 4 (Int32.toNatClampNeg x1)), r1)
    else if x2 = (2 : Int32) then
      z_gd (z_inb x1 (z_alen 31)) <| Option.bind (f_J13_bitCount_95d88 (r1.2.1 31 3 (Int32.toNatClampNeg x1)) r1) fun r11 =>
      some (r11, r1)
    else if x2 = (3 : Int32) then
      f_X12_depression_111 zF x1 (0 : Int32) (0 : Int32) r1
    else if x2 = (4 : Int32) then
      z_gd (z_inb x1 (z_alen 31)) <| Option.bind (f_J13_numberOfTrailingZeros_95d88 (r1.2.1 31 2 (Int32.toNatClampNeg x1)) r1) fun r15 =>
      some (r15, r1)
    else if x2 = (5 : Int32) then
      z_gd (z_inb x1 (z_alen 21)) <| some ((r1.1 21 5 (Int32.toNatClampNeg x1)), r1)
    else if x2 = (6 : Int32) then
      Option.bind (f_X12_children x1 r1) fun r19 =>
      some (r19, r1)
    else if x2 = (7 : Int32) then
      f_X12_depression_191 zF (0 : Int32) x1 r1
    else
      Option.bind (f_X12_raises (2 : Int32) r1) fun r21 =>
      some (r21.1, r21.2)
theorem w_X12_depression_111 (d k : Nat) {o : zO} {G : Nat → Nat → zL → List zA → zM → Prop} (R : zRu (d + 3) tX12_depression 0 (z_hf []) o G) : ∀ (j : Nat) (x3 : Int32) (x4 : Int32) (x5 : Int32) (m : zM), zLK G (fun a => (z_cI a.1, a.2) : Int32 × zM → zO) o (f_X12_depression_111 j x3 x4 x5 m) some (k + 0) 111 [some (.inr (13, 0)), none, none, some (.inl (.int x3)), some (.inl (.int x4)), some (.inl (.int x5))] [] m := by
  intro j
  induction j with
  | zero =>
    intro _ _ _ _
    exact zk_none
  | succ j ih =>
    intro x3 x4 x5 m
    unfold f_X12_depression_111
    refine zk_st R 2 114 [some (.inr (13, 0)), none, none, some (.inl (.int x3)), some (.inl (.int x4)), some (.inl (.int x5))] [.inr (13, 0), .inl (.int x5)] m rfl ⟨trivial, trivial, trivial⟩ ?_
    refine zk_call R (fun b => some (.inl (.int b))) (fun _ => m) rfl (r_X12_cells (Nat.le_of_ble_eq_true rfl)) (fun b hb => w_X12_cells (d + 2) 0 m b hb) (fun r1 => ?_)
    refine zk_br R rfl (fun _ => ?_) (fun _ => ?_)
    · refine zk_st R 1 164 [some (.inr (13, 0)), none, none, some (.inl (.int x3)), some (.inl (.int x4)), some (.inl (.int x5))] [.inl (.int x4)] m rfl ⟨trivial, trivial⟩ ?_
      exact zk_ret R rfl trivial rfl
    · refine zk_gd fun e3 => ?_
      refine zk_st R 10 133 [some (.inr (13, 0)), none, none, some (.inl (.int x3)), some (.inl (.int x4)), some (.inl (.int x5))] [.inl (.int (lg_cmp ((z_shr (m.2.1 31 3 (Int32.toNatClampNeg x3)) x5) &&& (1 : Int64)) (1 : Int64)))] m rfl ⟨trivial, (Nat.le_of_ble_eq_true rfl), trivial, ⟨(Nat.le_of_ble_eq_true rfl), z_inb_in e3⟩, trivial, trivial, trivial, trivial, trivial, trivial, trivial⟩ ?_
      refine zk_br R rfl (fun _ => ?_) (fun _ => ?_)
      · refine zk_gd fun e5 => ?_
        refine zk_st R 9 149 [some (.inr (13, 0)), none, none, some (.inl (.int x3)), some (.inl (.int x4)), some (.inl (.int x5))] [.inl (.int x5), .inr (13, 0), .inl (.int ((m.1 21 4 (Int32.toNatClampNeg x3)) + (1 : Int32))), .inl (.int x4)] m rfl ⟨trivial, trivial, (Nat.le_of_ble_eq_true rfl), trivial, ⟨(Nat.le_of_ble_eq_true rfl), z_inb_in e5⟩, trivial, trivial, trivial, trivial, trivial⟩ ?_
        refine zk_call R (fun b => some (.inl (.int b))) (fun _ => m) rfl (r_X12_height (Nat.le_of_ble_eq_true rfl)) (fun b hb => w_X12_height (d + 2) 0 x5 m b hb) (fun r6 => ?_)
        refine zk_st R 5 111 [some (.inr (13, 0)), none, none, some (.inl (.int x3)), some (.inl (.int (x4 + (((m.1 21 4 (Int32.toNatClampNeg x3)) + (1 : Int32)) - r6)))), some (.inl (.int (x5 + (1 : Int32))))] [] m rfl ⟨trivial, trivial, trivial, trivial, trivial, trivial⟩ ?_
        refine zk_mask R [true, false, false, true, true, true] rfl ?_
        exact ih x3 (x4 + (((m.1 21 4 (Int32.toNatClampNeg x3)) + (1 : Int32)) - r6)) (x5 + (1 : Int32)) m
      · refine zk_st R 2 111 [some (.inr (13, 0)), none, none, some (.inl (.int x3)), some (.inl (.int x4)), some (.inl (.int (x5 + (1 : Int32))))] [] m rfl ⟨trivial, trivial, trivial⟩ ?_
        refine zk_mask R [true, false, false, true, true, true] rfl ?_
        exact ih x3 x4 (x5 + (1 : Int32)) m
theorem w_X12_depression_191 (d k : Nat) {o : zO} {G : Nat → Nat → zL → List zA → zM → Prop} (R : zRu (d + 3) tX12_depression 0 (z_hf []) o G) : ∀ (j : Nat) (x4 : Int32) (x5 : Int32) (m : zM), zLK G (fun a => (z_cI a.1, a.2) : Int32 × zM → zO) o (f_X12_depression_191 j x4 x5 m) some (k + 0) 191 [some (.inr (13, 0)), none, none, none, some (.inl (.int x4)), some (.inl (.int x5))] [] m := by
  intro j
  induction j with
  | zero =>
    intro _ _ _
    exact zk_none
  | succ j ih =>
    intro x4 x5 m
    unfold f_X12_depression_191
    refine zk_gd fun e1 => ?_
    refine zk_st R 4 198 [some (.inr (13, 0)), none, none, none, some (.inl (.int x4)), some (.inl (.int x5))] [.inl (.int (m.1 21 5 (Int32.toNatClampNeg x5)))] m rfl ⟨trivial, (Nat.le_of_ble_eq_true rfl), trivial, ⟨(Nat.le_of_ble_eq_true rfl), z_inb_in e1⟩, trivial⟩ ?_
    refine zk_br R rfl (fun _ => ?_) (fun _ => ?_)
    · refine zk_st R 1 218 [some (.inr (13, 0)), none, none, none, some (.inl (.int x4)), some (.inl (.int x5))] [.inl (.int x4)] m rfl ⟨trivial, trivial⟩ ?_
      exact zk_ret R rfl trivial rfl
    · refine zk_gd fun e3 => ?_
      refine zk_st R 7 191 [some (.inr (13, 0)), none, none, none, some (.inl (.int (x4 + (1 : Int32)))), some (.inl (.int (m.1 21 5 (Int32.toNatClampNeg x5))))] [] m rfl ⟨trivial, trivial, (Nat.le_of_ble_eq_true rfl), trivial, ⟨(Nat.le_of_ble_eq_true rfl), z_inb_in e3⟩, trivial, trivial, trivial⟩ ?_
      refine zk_mask R [true, false, false, false, true, true] rfl ?_
      exact ih (x4 + (1 : Int32)) (m.1 21 5 (Int32.toNatClampNeg x5)) m
theorem w_X12_depression (d k : Nat) (x1 : Int32) (x2 : Int32) (m : zM) (a : Int32 × zM) (ha : f_X12_depression x1 x2 m = some a) : z_Ev z_MT zN zRf (d + 4) (k + 0) 231 [.inr (13, 0), .inl (.int x1), .inl (.int x2)] m ((fun a => (z_cI a.1, a.2) : Int32 × zM → zO) a) := by
  refine zk_top (I := (yX12_depression, cX12_depression, 6, (some .int), [], tX12_depression, 13, 2, 13, 0, 0, 0)) (oc := (fun a => (z_cI a.1, a.2) : Int32 × zM → zO)) (a := a) rfl (Nat.le_of_ble_eq_true rfl) (fun G R => ?_) ha
  unfold f_X12_depression
  refine zk_st R 4 6 [some (.inr (13, 0)), some (.inl (.int x1)), some (.inl (.int x2)), none, none, none] [.inr (13, 0)] (z_sI m 13 0 0 (0 : Int32)) rfl ⟨trivial, trivial, (Nat.le_of_ble_eq_true rfl), trivial, trivial⟩ ?_
  refine zk_call R (fun _ => none) id rfl (r_X12_depressions (Nat.le_of_ble_eq_true rfl)) (fun b hb => w_X12_depressions d 0 (z_sI m 13 0 0 (0 : Int32)) b hb) (fun r1 => ?_)
  refine zk_st R 8 19 [some (.inr (13, 0)), some (.inl (.int x1)), some (.inl (.int x2)), none, none, none] [.inl (.long (Int32.toInt64 ((r1.1 13 0 21) - (1 : Int32)))), .inl (.long (0 : Int64)), .inl (.long (Int32.toInt64 x1))] r1 rfl ⟨trivial, trivial, trivial, trivial, (Nat.le_of_ble_eq_true rfl), trivial, trivial, trivial, trivial⟩ ?_
  refine zk_call R (fun b => some (.inl (.int (z_bi b)))) (fun _ => r1) rfl (r_X12_in) (fun b hb => w_X12_in (d + 2) 0 (Int32.toInt64 x1) (0 : Int64) (Int32.toInt64 ((r1.1 13 0 21) - (1 : Int32))) r1 b hb) (fun r2 => ?_)
  refine zk_br R rfl (fun _ => ?_) (fun _ => ?_)
  · refine zk_st R 2 27 [some (.inr (13, 0)), some (.inl (.int x1)), some (.inl (.int x2)), none, none, none] [.inl (.int (1 : Int32)), .inr (13, 0)] r1 rfl ⟨trivial, trivial, trivial⟩ ?_
    refine zk_call R (fun b => some (.inl (.int b.1))) (fun b => b.2) rfl (r_X12_raises (Nat.le_of_ble_eq_true rfl)) (fun b hb => w_X12_raises (d + 2) 0 (1 : Int32) r1 b hb) (fun r4 => ?_)
    exact zk_ret R rfl trivial rfl
  · refine zk_st R 5 37 [some (.inr (13, 0)), some (.inl (.int x1)), some (.inl (.int x2)), some (.inl (.int x1)), some (.inl (.int (0 : Int32))), none] [.inl (.int x2)] r1 rfl ⟨trivial, trivial, trivial, trivial, trivial, trivial⟩ ?_
    refine zk_if (fun e5 => ?_) (fun e5 => ?_)
    · refine zk_tsw R rfl (z_swv e5 (by decide +kernel : _ = 84)) ?_
      refine zk_gd fun e6 => ?_
      refine zk_st R 4 90 [some (.inr (13, 0)), some (.inl (.int x1)), some (.inl (.int x2)), some (.inl (.int x1)), some (.inl (.int (0 : Int32))), none] [.inl (.int (r1.1 21 3 (Int32.toNatClampNeg x1)))] r1 rfl ⟨trivial, (Nat.le_of_ble_eq_true rfl), trivial, ⟨(Nat.le_of_ble_eq_true rfl), z_inb_in e6⟩, trivial⟩ ?_
      exact zk_ret R rfl trivial rfl
    refine zk_if (fun e7 => ?_) (fun e7 => ?_)
    · refine zk_tsw R rfl (z_swv e7 (by decide +kernel : _ = 91)) ?_
      refine zk_gd fun e8 => ?_
      refine zk_st R 4 97 [some (.inr (13, 0)), some (.inl (.int x1)), some (.inl (.int x2)), some (.inl (.int x1)), some (.inl (.int (0 : Int32))), none] [.inl (.int (r1.1 21 4 (Int32.toNatClampNeg x1)))] r1 rfl ⟨trivial, (Nat.le_of_ble_eq_true rfl), trivial, ⟨(Nat.le_of_ble_eq_true rfl), z_inb_in e8⟩, trivial⟩ ?_
      exact zk_ret R rfl trivial rfl
    refine zk_if (fun e9 => ?_) (fun e9 => ?_)
    · refine zk_tsw R rfl (z_swv e9 (by decide +kernel : _ = 98)) ?_
      refine zk_gd fun e10 => ?_
      refine zk_st R 4 104 [some (.inr (13, 0)), some (.inl (.int x1)), some (.inl (.int x2)), some (.inl (.int x1)), some (.inl (.int (0 : Int32))), none] [.inl (.long (r1.2.1 31 3 (Int32.toNatClampNeg x1)))] r1 rfl ⟨trivial, (Nat.le_of_ble_eq_true rfl), trivial, ⟨(Nat.le_of_ble_eq_true rfl), z_inb_in e10⟩, trivial⟩ ?_
      refine zk_call R (fun b => some (.inl (.int b))) (fun _ => r1) rfl (r_J13_bitCount_95d88) (fun b hb => w_J13_bitCount_95d88 (d + 2) 0 (r1.2.1 31 3 (Int32.toNatClampNeg x1)) r1 b hb) (fun r11 => ?_)
      exact zk_ret R rfl trivial rfl
    refine zk_if (fun e12 => ?_) (fun e12 => ?_)
    · refine zk_tsw R rfl (z_swv e12 (by decide +kernel : _ = 108)) ?_
      refine zk_st R 2 111 [some (.inr (13, 0)), some (.inl (.int x1)), some (.inl (.int x2)), some (.inl (.int x1)), some (.inl (.int (0 : Int32))), some (.inl (.int (0 : Int32)))] [] r1 rfl ⟨trivial, trivial, trivial⟩ ?_
      refine zk_mask R [true, false, false, true, true, true] rfl ?_
      exact w_X12_depression_111 d k R zF x1 (0 : Int32) (0 : Int32) r1
    refine zk_if (fun e13 => ?_) (fun e13 => ?_)
    · refine zk_tsw R rfl (z_swv e13 (by decide +kernel : _ = 165)) ?_
      refine zk_gd fun e14 => ?_
      refine zk_st R 4 171 [some (.inr (13, 0)), some (.inl (.int x1)), some (.inl (.int x2)), some (.inl (.int x1)), some (.inl (.int (0 : Int32))), none] [.inl (.long (r1.2.1 31 2 (Int32.toNatClampNeg x1)))] r1 rfl ⟨trivial, (Nat.le_of_ble_eq_true rfl), trivial, ⟨(Nat.le_of_ble_eq_true rfl), z_inb_in e14⟩, trivial⟩ ?_
      refine zk_call R (fun b => some (.inl (.int b))) (fun _ => r1) rfl (r_J13_numberOfTrailingZeros_95d88) (fun b hb => w_J13_numberOfTrailingZeros_95d88 (d + 1) 0 (r1.2.1 31 2 (Int32.toNatClampNeg x1)) r1 b hb) (fun r15 => ?_)
      exact zk_ret R rfl trivial rfl
    refine zk_if (fun e16 => ?_) (fun e16 => ?_)
    · refine zk_tsw R rfl (z_swv e16 (by decide +kernel : _ = 175)) ?_
      refine zk_gd fun e17 => ?_
      refine zk_st R 4 181 [some (.inr (13, 0)), some (.inl (.int x1)), some (.inl (.int x2)), some (.inl (.int x1)), some (.inl (.int (0 : Int32))), none] [.inl (.int (r1.1 21 5 (Int32.toNatClampNeg x1)))] r1 rfl ⟨trivial, (Nat.le_of_ble_eq_true rfl), trivial, ⟨(Nat.le_of_ble_eq_true rfl), z_inb_in e17⟩, trivial⟩ ?_
      exact zk_ret R rfl trivial rfl
    refine zk_if (fun e18 => ?_) (fun e18 => ?_)
    · refine zk_tsw R rfl (z_swv e18 (by decide +kernel : _ = 182)) ?_
      refine zk_st R 2 184 [some (.inr (13, 0)), some (.inl (.int x1)), some (.inl (.int x2)), some (.inl (.int x1)), some (.inl (.int (0 : Int32))), none] [.inl (.int x1), .inr (13, 0)] r1 rfl ⟨trivial, trivial, trivial⟩ ?_
      refine zk_call R (fun b => some (.inl (.int b))) (fun _ => r1) rfl (r_X12_children (Nat.le_of_ble_eq_true rfl)) (fun b hb => w_X12_children (d + 2) 0 x1 r1 b hb) (fun r19 => ?_)
      exact zk_ret R rfl trivial rfl
    refine zk_if (fun e20 => ?_) (fun e20 => ?_)
    · refine zk_tsw R rfl (z_swv e20 (by decide +kernel : _ = 188)) ?_
      refine zk_st R 2 191 [some (.inr (13, 0)), some (.inl (.int x1)), some (.inl (.int x2)), some (.inl (.int x1)), some (.inl (.int (0 : Int32))), some (.inl (.int x1))] [] r1 rfl ⟨trivial, trivial, trivial⟩ ?_
      refine zk_mask R [true, false, false, false, true, true] rfl ?_
      exact w_X12_depression_191 d k R zF (0 : Int32) x1 r1
    refine zk_tsw R rfl (z_swd 8 (by decide) (fun i hi => ?_) (by decide : _ = 219)) ?_
    · have hi' : i = 0 ∨ i = 1 ∨ i = 2 ∨ i = 3 ∨ i = 4 ∨ i = 5 ∨ i = 6 ∨ i = 7 := by omega
      rcases hi' with rfl | rfl | rfl | rfl | rfl | rfl | rfl | rfl
      · exact e5
      · exact e7
      · exact e9
      · exact e12
      · exact e13
      · exact e16
      · exact e18
      · exact e20
    · refine zk_st R 2 221 [some (.inr (13, 0)), some (.inl (.int x1)), some (.inl (.int x2)), some (.inl (.int x1)), some (.inl (.int (0 : Int32))), none] [.inl (.int (2 : Int32)), .inr (13, 0)] r1 rfl ⟨trivial, trivial, trivial⟩ ?_
      refine zk_call R (fun b => some (.inl (.int b.1))) (fun b => b.2) rfl (r_X12_raises (Nat.le_of_ble_eq_true rfl)) (fun b hb => w_X12_raises (d + 2) 0 (2 : Int32) r1 b hb) (fun r21 => ?_)
      exact zk_ret R rfl trivial rfl
theorem r_X12_depressionAt {i : Nat} {t : List zA} (h : i < zN 13) : z_rcv zN (zKD 232) (.inr (13, i) :: t) := by
  rw [show zKD 232 = 13 from rfl]
  exact ⟨rfl, h⟩
noncomputable def f_X12_depressionAt_65 : Nat → Int32 → Int32 → zM → Option (Int32 × zM)
  | 0, _, _, _ => none
  | j + 1, x2, x3, m =>
    if (m.1 13 0 21) ≤ x3 then
      Option.bind (f_X12_raises (3 : Int32) m) fun r2 =>
      some (r2.1, r2.2)
    else
      z_gd (z_inb x3 (z_alen 21)) <| Option.bind (f_X12_in (Int32.toInt64 x2) (Int32.toInt64 (m.1 21 3 (Int32.toNatClampNeg x3))) (Int32.toInt64 (m.1 21 4 (Int32.toNatClampNeg x3))) m) fun r4 =>
      if (z_bi r4) = 0 then
        f_X12_depressionAt_65 j x2 (x3 + (1 : Int32)) m
      else
        z_gd (z_inb x3 (z_alen 31)) <| if (lg_cmp ((m.2.1 31 2 (Int32.toNatClampNeg x3)) &&& ((m.2.1 13 0 20) ^^^ (-1 : Int64))) (0 : Int64)) = 0 then
          some (x3, m)
        else
          f_X12_depressionAt_65 j x2 (x3 + (1 : Int32)) m
noncomputable def f_X12_depressionAt (x1 : Int32) (x2 : Int32) (m : zM) : Option (Int32 × zM) :=
  Option.bind (f_X12_isCell x1 (z_sI m 13 0 0 (0 : Int32))) fun r1 =>
  if (z_bi r1) = 0 then
    Option.bind (f_X12_raises (1 : Int32) (z_sI m 13 0 0 (0 : Int32))) fun r3 =>
    some (r3.1, r3.2)
  else
    Option.bind (f_X12_in (Int32.toInt64 x2) (0 : Int64) (99 : Int64) (z_sI m 13 0 0 (0 : Int32))) fun r4 =>
    if (z_bi r4) = 0 then
      Option.bind (f_X12_raises (2 : Int32) (z_sI m 13 0 0 (0 : Int32))) fun r6 =>
      some (r6.1, r6.2)
    else
      Option.bind (f_X12_depressions (z_sI m 13 0 0 (0 : Int32))) fun r7 =>
      Option.bind (f_X12_height x1 r7) fun r8 =>
      if r8 ≤ x2 then
        Option.bind (f_X12_land x1 (0 : Int32) x2 r7) fun r10 =>
        f_X12_depressionAt_65 zF x2 (0 : Int32) r10
      else
        Option.bind (f_X12_raises (3 : Int32) r7) fun r11 =>
        some (r11.1, r11.2)
theorem w_X12_depressionAt_65 (d k : Nat) {o : zO} {G : Nat → Nat → zL → List zA → zM → Prop} (R : zRu (d + 3) tX12_depressionAt 0 (z_hf []) o G) : ∀ (j : Nat) (x2 : Int32) (x3 : Int32) (m : zM), zLK G (fun a => (z_cI a.1, a.2) : Int32 × zM → zO) o (f_X12_depressionAt_65 j x2 x3 m) some (k + 0) 65 [some (.inr (13, 0)), none, some (.inl (.int x2)), some (.inl (.int x3))] [] m := by
  intro j
  induction j with
  | zero =>
    intro _ _ _
    exact zk_none
  | succ j ih =>
    intro x2 x3 m
    unfold f_X12_depressionAt_65
    refine zk_st R 3 70 [some (.inr (13, 0)), none, some (.inl (.int x2)), some (.inl (.int x3))] [.inl (.int (m.1 13 0 21)), .inl (.int x3)] m rfl ⟨trivial, trivial, (Nat.le_of_ble_eq_true rfl), trivial⟩ ?_
    refine zk_br R rfl (fun _ => ?_) (fun _ => ?_)
    · refine zk_st R 2 125 [some (.inr (13, 0)), none, some (.inl (.int x2)), some (.inl (.int x3))] [.inl (.int (3 : Int32)), .inr (13, 0)] m rfl ⟨trivial, trivial, trivial⟩ ?_
      refine zk_call R (fun b => some (.inl (.int b.1))) (fun b => b.2) rfl (r_X12_raises (Nat.le_of_ble_eq_true rfl)) (fun b hb => w_X12_raises (d + 2) 0 (3 : Int32) m b hb) (fun r2 => ?_)
      exact zk_ret R rfl trivial rfl
    · refine zk_gd fun e3 => ?_
      refine zk_st R 12 89 [some (.inr (13, 0)), none, some (.inl (.int x2)), some (.inl (.int x3))] [.inl (.long (Int32.toInt64 (m.1 21 4 (Int32.toNatClampNeg x3)))), .inl (.long (Int32.toInt64 (m.1 21 3 (Int32.toNatClampNeg x3)))), .inl (.long (Int32.toInt64 x2))] m rfl ⟨trivial, trivial, trivial, (Nat.le_of_ble_eq_true rfl), trivial, ⟨(Nat.le_of_ble_eq_true rfl), z_inb_in e3⟩, trivial, trivial, (Nat.le_of_ble_eq_true rfl), trivial, ⟨(Nat.le_of_ble_eq_true rfl), z_inb_in e3⟩, trivial, trivial⟩ ?_
      refine zk_call R (fun b => some (.inl (.int (z_bi b)))) (fun _ => m) rfl (r_X12_in) (fun b hb => w_X12_in (d + 2) 0 (Int32.toInt64 x2) (Int32.toInt64 (m.1 21 3 (Int32.toNatClampNeg x3))) (Int32.toInt64 (m.1 21 4 (Int32.toNatClampNeg x3))) m b hb) (fun r4 => ?_)
      refine zk_br R rfl (fun _ => ?_) (fun _ => ?_)
      · refine zk_st R 2 65 [some (.inr (13, 0)), none, some (.inl (.int x2)), some (.inl (.int (x3 + (1 : Int32))))] [] m rfl ⟨trivial, trivial, trivial⟩ ?_
        refine zk_mask R [true, false, true, true] rfl ?_
        exact ih x2 (x3 + (1 : Int32)) m
      · refine zk_gd fun e6 => ?_
        refine zk_st R 11 112 [some (.inr (13, 0)), none, some (.inl (.int x2)), some (.inl (.int x3))] [.inl (.int (lg_cmp ((m.2.1 31 2 (Int32.toNatClampNeg x3)) &&& ((m.2.1 13 0 20) ^^^ (-1 : Int64))) (0 : Int64)))] m rfl ⟨trivial, (Nat.le_of_ble_eq_true rfl), trivial, ⟨(Nat.le_of_ble_eq_true rfl), z_inb_in e6⟩, trivial, (Nat.le_of_ble_eq_true rfl), trivial, trivial, trivial, trivial, trivial, trivial⟩ ?_
        refine zk_br R rfl (fun _ => ?_) (fun _ => ?_)
        · refine zk_st R 1 116 [some (.inr (13, 0)), none, some (.inl (.int x2)), some (.inl (.int x3))] [.inl (.int x3)] m rfl ⟨trivial, trivial⟩ ?_
          exact zk_ret R rfl trivial rfl
        · refine zk_st R 2 65 [some (.inr (13, 0)), none, some (.inl (.int x2)), some (.inl (.int (x3 + (1 : Int32))))] [] m rfl ⟨trivial, trivial, trivial⟩ ?_
          refine zk_mask R [true, false, true, true] rfl ?_
          exact ih x2 (x3 + (1 : Int32)) m
theorem w_X12_depressionAt (d k : Nat) (x1 : Int32) (x2 : Int32) (m : zM) (a : Int32 × zM) (ha : f_X12_depressionAt x1 x2 m = some a) : z_Ev z_MT zN zRf (d + 4) (k + 0) 232 [.inr (13, 0), .inl (.int x1), .inl (.int x2)] m ((fun a => (z_cI a.1, a.2) : Int32 × zM → zO) a) := by
  refine zk_top (I := (yX12_depressionAt, cX12_depressionAt, 4, (some .int), [], tX12_depressionAt, 13, 2, 13, 0, 0, 0)) (oc := (fun a => (z_cI a.1, a.2) : Int32 × zM → zO)) (a := a) rfl (Nat.le_of_ble_eq_true rfl) (fun G R => ?_) ha
  unfold f_X12_depressionAt
  refine zk_st R 5 7 [some (.inr (13, 0)), some (.inl (.int x1)), some (.inl (.int x2)), none] [.inl (.int x1), .inr (13, 0)] (z_sI m 13 0 0 (0 : Int32)) rfl ⟨trivial, trivial, (Nat.le_of_ble_eq_true rfl), trivial, trivial, trivial⟩ ?_
  refine zk_call R (fun b => some (.inl (.int (z_bi b)))) (fun _ => (z_sI m 13 0 0 (0 : Int32))) rfl (r_X12_isCell (Nat.le_of_ble_eq_true rfl)) (fun b hb => w_X12_isCell (d + 1) 0 x1 (z_sI m 13 0 0 (0 : Int32)) b hb) (fun r1 => ?_)
  refine zk_br R rfl (fun _ => ?_) (fun _ => ?_)
  · refine zk_st R 2 15 [some (.inr (13, 0)), some (.inl (.int x1)), some (.inl (.int x2)), none] [.inl (.int (1 : Int32)), .inr (13, 0)] (z_sI m 13 0 0 (0 : Int32)) rfl ⟨trivial, trivial, trivial⟩ ?_
    refine zk_call R (fun b => some (.inl (.int b.1))) (fun b => b.2) rfl (r_X12_raises (Nat.le_of_ble_eq_true rfl)) (fun b hb => w_X12_raises (d + 2) 0 (1 : Int32) (z_sI m 13 0 0 (0 : Int32)) b hb) (fun r3 => ?_)
    exact zk_ret R rfl trivial rfl
  · refine zk_st R 4 25 [some (.inr (13, 0)), some (.inl (.int x1)), some (.inl (.int x2)), none] [.inl (.long (99 : Int64)), .inl (.long (0 : Int64)), .inl (.long (Int32.toInt64 x2))] (z_sI m 13 0 0 (0 : Int32)) rfl ⟨trivial, trivial, trivial, trivial, trivial⟩ ?_
    refine zk_call R (fun b => some (.inl (.int (z_bi b)))) (fun _ => (z_sI m 13 0 0 (0 : Int32))) rfl (r_X12_in) (fun b hb => w_X12_in (d + 2) 0 (Int32.toInt64 x2) (0 : Int64) (99 : Int64) (z_sI m 13 0 0 (0 : Int32)) b hb) (fun r4 => ?_)
    refine zk_br R rfl (fun _ => ?_) (fun _ => ?_)
    · refine zk_st R 2 33 [some (.inr (13, 0)), some (.inl (.int x1)), some (.inl (.int x2)), none] [.inl (.int (2 : Int32)), .inr (13, 0)] (z_sI m 13 0 0 (0 : Int32)) rfl ⟨trivial, trivial, trivial⟩ ?_
      refine zk_call R (fun b => some (.inl (.int b.1))) (fun b => b.2) rfl (r_X12_raises (Nat.le_of_ble_eq_true rfl)) (fun b hb => w_X12_raises (d + 2) 0 (2 : Int32) (z_sI m 13 0 0 (0 : Int32)) b hb) (fun r6 => ?_)
      exact zk_ret R rfl trivial rfl
    · refine zk_st R 1 38 [some (.inr (13, 0)), some (.inl (.int x1)), some (.inl (.int x2)), none] [.inr (13, 0)] (z_sI m 13 0 0 (0 : Int32)) rfl ⟨trivial, trivial⟩ ?_
      refine zk_call R (fun _ => none) id rfl (r_X12_depressions (Nat.le_of_ble_eq_true rfl)) (fun b hb => w_X12_depressions d 0 (z_sI m 13 0 0 (0 : Int32)) b hb) (fun r7 => ?_)
      refine zk_st R 2 43 [some (.inr (13, 0)), some (.inl (.int x1)), some (.inl (.int x2)), none] [.inl (.int x1), .inr (13, 0)] r7 rfl ⟨trivial, trivial, trivial⟩ ?_
      refine zk_call R (fun b => some (.inl (.int b))) (fun _ => r7) rfl (r_X12_height (Nat.le_of_ble_eq_true rfl)) (fun b hb => w_X12_height (d + 2) 0 x1 r7 b hb) (fun r8 => ?_)
      refine zk_st R 1 47 [some (.inr (13, 0)), some (.inl (.int x1)), some (.inl (.int x2)), none] [.inl (.int x2), .inl (.int r8)] r7 rfl ⟨trivial, trivial⟩ ?_
      refine zk_br R rfl (fun _ => ?_) (fun _ => ?_)
      · refine zk_st R 4 60 [some (.inr (13, 0)), some (.inl (.int x1)), some (.inl (.int x2)), none] [.inl (.int x2), .inl (.int (0 : Int32)), .inl (.int x1), .inr (13, 0)] r7 rfl ⟨trivial, trivial, trivial, trivial, trivial⟩ ?_
        refine zk_call R (fun _ => none) id rfl (r_X12_land (Nat.le_of_ble_eq_true rfl)) (fun b hb => w_X12_land (d + 1) 0 x1 (0 : Int32) x2 r7 b hb) (fun r10 => ?_)
        refine zk_st R 2 65 [some (.inr (13, 0)), some (.inl (.int x1)), some (.inl (.int x2)), some (.inl (.int (0 : Int32)))] [] r10 rfl ⟨trivial, trivial, trivial⟩ ?_
        refine zk_mask R [true, false, true, true] rfl ?_
        exact w_X12_depressionAt_65 d k R zF x2 (0 : Int32) r10
      · refine zk_st R 2 52 [some (.inr (13, 0)), some (.inl (.int x1)), some (.inl (.int x2)), none] [.inl (.int (3 : Int32)), .inr (13, 0)] r7 rfl ⟨trivial, trivial, trivial⟩ ?_
        refine zk_call R (fun b => some (.inl (.int b.1))) (fun b => b.2) rfl (r_X12_raises (Nat.le_of_ble_eq_true rfl)) (fun b hb => w_X12_raises (d + 2) 0 (3 : Int32) r7 b hb) (fun r11 => ?_)
        exact zk_ret R rfl trivial rfl
theorem r_X12_sectionCell {i : Nat} {t : List zA} (h : i < zN 13) : z_rcv zN (zKD 239) (.inr (13, i) :: t) := by
  rw [show zKD 239 = 13 from rfl]
  exact ⟨rfl, h⟩
noncomputable def f_X12_sectionCell_21 (m : zM) : Option (Int32 × zM) :=
  Option.bind (f_X12_raises (1 : Int32) m) fun r1 =>
  some (r1.1, r1.2)
noncomputable def f_X12_sectionCell (x1 : Int32) (x2 : Int32) (x3 : Int32) (m : zM) : Option (Int32 × zM) :=
  Option.bind (f_X12_isCell x1 (z_sI m 13 0 0 (0 : Int32))) fun r1 =>
  if (z_bi r1) = 0 then
    f_X12_sectionCell_21 (z_sI m 13 0 0 (0 : Int32))
  else
    Option.bind (f_X12_isCell x2 (z_sI m 13 0 0 (0 : Int32))) fun r3 =>
    if (z_bi r3) = 0 then
      f_X12_sectionCell_21 (z_sI m 13 0 0 (0 : Int32))
    else
      Option.bind (f_X12_far x1 x2 (z_sI m 13 0 0 (0 : Int32))) fun r5 =>
      Option.bind (f_X12_in (Int32.toInt64 x3) (0 : Int64) (Int32.toInt64 r5) (z_sI m 13 0 0 (0 : Int32))) fun r6 =>
      if (z_bi r6) = 0 then
        Option.bind (f_X12_raises (2 : Int32) (z_sI m 13 0 0 (0 : Int32))) fun r8 =>
        some (r8.1, r8.2)
      else
        Option.bind (f_X12_along x1 x2 x3 (z_sI m 13 0 0 (0 : Int32))) fun r9 =>
        some (r9, (z_sI m 13 0 0 (0 : Int32)))
theorem w_X12_sectionCell_21 (d k : Nat) {o : zO} {G : Nat → Nat → zL → List zA → zM → Prop} (R : zRu (d + 3) tX12_sectionCell 0 (z_hf []) o G) (m : zM) : zLK G (fun a => (z_cI a.1, a.2) : Int32 × zM → zO) o (f_X12_sectionCell_21 m) some (k + 0) 21 [some (.inr (13, 0)), none, none, none] [] m := by
  unfold f_X12_sectionCell_21
  refine zk_st R 2 23 [some (.inr (13, 0)), none, none, none] [.inl (.int (1 : Int32)), .inr (13, 0)] m rfl ⟨trivial, trivial, trivial⟩ ?_
  refine zk_call R (fun b => some (.inl (.int b.1))) (fun b => b.2) rfl (r_X12_raises (Nat.le_of_ble_eq_true rfl)) (fun b hb => w_X12_raises (d + 2) 0 (1 : Int32) m b hb) (fun r1 => ?_)
  exact zk_ret R rfl trivial rfl
theorem w_X12_sectionCell (d k : Nat) (x1 : Int32) (x2 : Int32) (x3 : Int32) (m : zM) (a : Int32 × zM) (ha : f_X12_sectionCell x1 x2 x3 m = some a) : z_Ev z_MT zN zRf (d + 4) (k + 0) 239 [.inr (13, 0), .inl (.int x1), .inl (.int x2), .inl (.int x3)] m ((fun a => (z_cI a.1, a.2) : Int32 × zM → zO) a) := by
  refine zk_top (I := (yX12_sectionCell, cX12_sectionCell, 4, (some .int), [], tX12_sectionCell, 13, 3, 13, 0, 0, 0)) (oc := (fun a => (z_cI a.1, a.2) : Int32 × zM → zO)) (a := a) rfl (Nat.le_of_ble_eq_true rfl) (fun G R => ?_) ha
  unfold f_X12_sectionCell
  refine zk_st R 5 7 [some (.inr (13, 0)), some (.inl (.int x1)), some (.inl (.int x2)), some (.inl (.int x3))] [.inl (.int x1), .inr (13, 0)] (z_sI m 13 0 0 (0 : Int32)) rfl ⟨trivial, trivial, (Nat.le_of_ble_eq_true rfl), trivial, trivial, trivial⟩ ?_
  refine zk_call R (fun b => some (.inl (.int (z_bi b)))) (fun _ => (z_sI m 13 0 0 (0 : Int32))) rfl (r_X12_isCell (Nat.le_of_ble_eq_true rfl)) (fun b hb => w_X12_isCell (d + 1) 0 x1 (z_sI m 13 0 0 (0 : Int32)) b hb) (fun r1 => ?_)
  refine zk_br R rfl (fun _ => ?_) (fun _ => ?_)
  · refine zk_mask R [true, false, false, false] rfl ?_
    exact w_X12_sectionCell_21 d k R (z_sI m 13 0 0 (0 : Int32))
  · refine zk_st R 2 15 [some (.inr (13, 0)), some (.inl (.int x1)), some (.inl (.int x2)), some (.inl (.int x3))] [.inl (.int x2), .inr (13, 0)] (z_sI m 13 0 0 (0 : Int32)) rfl ⟨trivial, trivial, trivial⟩ ?_
    refine zk_call R (fun b => some (.inl (.int (z_bi b)))) (fun _ => (z_sI m 13 0 0 (0 : Int32))) rfl (r_X12_isCell (Nat.le_of_ble_eq_true rfl)) (fun b hb => w_X12_isCell (d + 1) 0 x2 (z_sI m 13 0 0 (0 : Int32)) b hb) (fun r3 => ?_)
    refine zk_br R rfl (fun _ => ?_) (fun _ => ?_)
    · refine zk_mask R [true, false, false, false] rfl ?_
      exact w_X12_sectionCell_21 d k R (z_sI m 13 0 0 (0 : Int32))
    · refine zk_st R 6 33 [some (.inr (13, 0)), some (.inl (.int x1)), some (.inl (.int x2)), some (.inl (.int x3))] [.inl (.int x2), .inl (.int x1), .inr (13, 0), .inl (.long (0 : Int64)), .inl (.long (Int32.toInt64 x3))] (z_sI m 13 0 0 (0 : Int32)) rfl ⟨trivial, trivial, trivial, trivial, trivial, trivial, trivial⟩ ?_
      refine zk_call R (fun b => some (.inl (.int b))) (fun _ => (z_sI m 13 0 0 (0 : Int32))) rfl (r_X12_far (Nat.le_of_ble_eq_true rfl)) (fun b hb => w_X12_far (d + 1) 0 x1 x2 (z_sI m 13 0 0 (0 : Int32)) b hb) (fun r5 => ?_)
      refine zk_st R 1 37 [some (.inr (13, 0)), some (.inl (.int x1)), some (.inl (.int x2)), some (.inl (.int x3))] [.inl (.long (Int32.toInt64 r5)), .inl (.long (0 : Int64)), .inl (.long (Int32.toInt64 x3))] (z_sI m 13 0 0 (0 : Int32)) rfl ⟨trivial, trivial⟩ ?_
      refine zk_call R (fun b => some (.inl (.int (z_bi b)))) (fun _ => (z_sI m 13 0 0 (0 : Int32))) rfl (r_X12_in) (fun b hb => w_X12_in (d + 2) 0 (Int32.toInt64 x3) (0 : Int64) (Int32.toInt64 r5) (z_sI m 13 0 0 (0 : Int32)) b hb) (fun r6 => ?_)
      refine zk_br R rfl (fun _ => ?_) (fun _ => ?_)
      · refine zk_st R 2 55 [some (.inr (13, 0)), some (.inl (.int x1)), some (.inl (.int x2)), some (.inl (.int x3))] [.inl (.int (2 : Int32)), .inr (13, 0)] (z_sI m 13 0 0 (0 : Int32)) rfl ⟨trivial, trivial, trivial⟩ ?_
        refine zk_call R (fun b => some (.inl (.int b.1))) (fun b => b.2) rfl (r_X12_raises (Nat.le_of_ble_eq_true rfl)) (fun b hb => w_X12_raises (d + 2) 0 (2 : Int32) (z_sI m 13 0 0 (0 : Int32)) b hb) (fun r8 => ?_)
        exact zk_ret R rfl trivial rfl
      · refine zk_st R 4 47 [some (.inr (13, 0)), some (.inl (.int x1)), some (.inl (.int x2)), some (.inl (.int x3))] [.inl (.int x3), .inl (.int x2), .inl (.int x1), .inr (13, 0)] (z_sI m 13 0 0 (0 : Int32)) rfl ⟨trivial, trivial, trivial, trivial, trivial⟩ ?_
        refine zk_call R (fun b => some (.inl (.int b))) (fun _ => (z_sI m 13 0 0 (0 : Int32))) rfl (r_X12_along (Nat.le_of_ble_eq_true rfl)) (fun b hb => w_X12_along d 0 x1 x2 x3 (z_sI m 13 0 0 (0 : Int32)) b hb) (fun r9 => ?_)
        refine zk_st R 1 58 [some (.inr (13, 0)), some (.inl (.int x1)), some (.inl (.int x2)), some (.inl (.int x3))] [.inl (.int r9)] (z_sI m 13 0 0 (0 : Int32)) rfl ⟨trivial, trivial⟩ ?_
        exact zk_ret R rfl trivial rfl
theorem r_X12_isSeen {i : Nat} {t : List zA} (h : i < zN 13) : z_rcv zN (zKD 240) (.inr (13, i) :: t) := by
  rw [show zKD 240 = 13 from rfl]
  exact ⟨rfl, h⟩
noncomputable def f_X12_isSeen_20 (m : zM) : Nat → Int32 → Int32 → Int32 → Int32 → Int32 → Option (Bool)
  | 0, _, _, _, _, _ => none
  | j + 1, x1, x2, x4, x5, x6 =>
    if x4 ≤ x6 then
      some true
    else
      Option.bind (f_X12_along x1 x2 x6 m) fun r2 =>
      Option.bind (f_X12_height r2 m) fun r3 =>
      Option.bind (f_X12_height x2 m) fun r4 =>
      if (x4 * (r3 - x5)) ≤ (x6 * (r4 - x5)) then
        f_X12_isSeen_20 m j x1 x2 x4 x5 (x6 + (1 : Int32))
      else
        some false
noncomputable def f_X12_isSeen (x1 : Int32) (x2 : Int32) (x3 : Int32) (m : zM) : Option (Bool) :=
  Option.bind (f_X12_far x1 x2 m) fun r1 =>
  Option.bind (f_X12_height x1 m) fun r2 =>
  f_X12_isSeen_20 m zF x1 x2 r1 (r2 + x3) (1 : Int32)
theorem w_X12_isSeen_20 (d k : Nat) {o : zO} {G : Nat → Nat → zL → List zA → zM → Prop} (m : zM) (R : zRu (d + 3) tX12_isSeen 1 (z_hf []) o G) : ∀ (j : Nat) (x1 : Int32) (x2 : Int32) (x4 : Int32) (x5 : Int32) (x6 : Int32), zLK G (fun a => (z_cB a, m) : Bool → zO) o (f_X12_isSeen_20 m j x1 x2 x4 x5 x6) some (k + 0) 20 [some (.inr (13, 0)), some (.inl (.int x1)), some (.inl (.int x2)), none, some (.inl (.int x4)), some (.inl (.int x5)), some (.inl (.int x6))] [] m := by
  intro j
  induction j with
  | zero =>
    intro _ _ _ _ _
    exact zk_none
  | succ j ih =>
    intro x1 x2 x4 x5 x6
    unfold f_X12_isSeen_20
    refine zk_st R 2 24 [some (.inr (13, 0)), some (.inl (.int x1)), some (.inl (.int x2)), none, some (.inl (.int x4)), some (.inl (.int x5)), some (.inl (.int x6))] [.inl (.int x4), .inl (.int x6)] m rfl ⟨trivial, trivial, trivial⟩ ?_
    refine zk_br R rfl (fun _ => ?_) (fun _ => ?_)
    · refine zk_st R 1 68 [some (.inr (13, 0)), some (.inl (.int x1)), some (.inl (.int x2)), none, some (.inl (.int x4)), some (.inl (.int x5)), some (.inl (.int x6))] [.inl (.int (1 : Int32))] m rfl ⟨trivial, trivial⟩ ?_
      exact zk_ret R rfl (Or.inr rfl) rfl
    · refine zk_st R 6 35 [some (.inr (13, 0)), some (.inl (.int x1)), some (.inl (.int x2)), none, some (.inl (.int x4)), some (.inl (.int x5)), some (.inl (.int x6))] [.inl (.int x6), .inl (.int x2), .inl (.int x1), .inr (13, 0), .inr (13, 0), .inl (.int x4)] m rfl ⟨trivial, trivial, trivial, trivial, trivial, trivial, trivial⟩ ?_
      refine zk_call R (fun b => some (.inl (.int b))) (fun _ => m) rfl (r_X12_along (Nat.le_of_ble_eq_true rfl)) (fun b hb => w_X12_along d 0 x1 x2 x6 m b hb) (fun r2 => ?_)
      refine zk_call R (fun b => some (.inl (.int b))) (fun _ => m) rfl (r_X12_height (Nat.le_of_ble_eq_true rfl)) (fun b hb => w_X12_height (d + 2) 0 r2 m b hb) (fun r3 => ?_)
      refine zk_st R 6 49 [some (.inr (13, 0)), some (.inl (.int x1)), some (.inl (.int x2)), none, some (.inl (.int x4)), some (.inl (.int x5)), some (.inl (.int x6))] [.inl (.int x2), .inr (13, 0), .inl (.int x6), .inl (.int (x4 * (r3 - x5)))] m rfl ⟨trivial, trivial, trivial, trivial, trivial, trivial, trivial⟩ ?_
      refine zk_call R (fun b => some (.inl (.int b))) (fun _ => m) rfl (r_X12_height (Nat.le_of_ble_eq_true rfl)) (fun b hb => w_X12_height (d + 2) 0 x2 m b hb) (fun r4 => ?_)
      refine zk_st R 3 56 [some (.inr (13, 0)), some (.inl (.int x1)), some (.inl (.int x2)), none, some (.inl (.int x4)), some (.inl (.int x5)), some (.inl (.int x6))] [.inl (.int (x6 * (r4 - x5))), .inl (.int (x4 * (r3 - x5)))] m rfl ⟨trivial, trivial, trivial, trivial⟩ ?_
      refine zk_br R rfl (fun _ => ?_) (fun _ => ?_)
      · refine zk_st R 2 20 [some (.inr (13, 0)), some (.inl (.int x1)), some (.inl (.int x2)), none, some (.inl (.int x4)), some (.inl (.int x5)), some (.inl (.int (x6 + (1 : Int32))))] [] m rfl ⟨trivial, trivial, trivial⟩ ?_
        refine zk_mask R [true, true, true, false, true, true, true] rfl ?_
        exact ih x1 x2 x4 x5 (x6 + (1 : Int32))
      · refine zk_st R 1 60 [some (.inr (13, 0)), some (.inl (.int x1)), some (.inl (.int x2)), none, some (.inl (.int x4)), some (.inl (.int x5)), some (.inl (.int x6))] [.inl (.int (0 : Int32))] m rfl ⟨trivial, trivial⟩ ?_
        exact zk_ret R rfl (Or.inl rfl) rfl
theorem w_X12_isSeen (d k : Nat) (x1 : Int32) (x2 : Int32) (x3 : Int32) (m : zM) (a : Bool) (ha : f_X12_isSeen x1 x2 x3 m = some a) : z_Ev z_MT zN zRf (d + 4) (k + 0) 240 [.inr (13, 0), .inl (.int x1), .inl (.int x2), .inl (.int x3)] m ((fun a => (z_cB a, m) : Bool → zO) a) := by
  refine zk_top (I := (yX12_isSeen, cX12_isSeen, 7, (some .boolean), [], tX12_isSeen, 13, 3, 13, 0, 0, 0)) (oc := (fun a => (z_cB a, m) : Bool → zO)) (a := a) rfl (Nat.le_of_ble_eq_true rfl) (fun G R => ?_) ha
  unfold f_X12_isSeen
  refine zk_st R 3 3 [some (.inr (13, 0)), some (.inl (.int x1)), some (.inl (.int x2)), some (.inl (.int x3)), none, none, none] [.inl (.int x2), .inl (.int x1), .inr (13, 0)] m rfl ⟨trivial, trivial, trivial, trivial⟩ ?_
  refine zk_call R (fun b => some (.inl (.int b))) (fun _ => m) rfl (r_X12_far (Nat.le_of_ble_eq_true rfl)) (fun b hb => w_X12_far (d + 1) 0 x1 x2 m b hb) (fun r1 => ?_)
  refine zk_st R 3 10 [some (.inr (13, 0)), some (.inl (.int x1)), some (.inl (.int x2)), some (.inl (.int x3)), some (.inl (.int r1)), none, none] [.inl (.int x1), .inr (13, 0)] m rfl ⟨trivial, trivial, trivial, trivial⟩ ?_
  refine zk_call R (fun b => some (.inl (.int b))) (fun _ => m) rfl (r_X12_height (Nat.le_of_ble_eq_true rfl)) (fun b hb => w_X12_height (d + 2) 0 x1 m b hb) (fun r2 => ?_)
  refine zk_st R 5 20 [some (.inr (13, 0)), some (.inl (.int x1)), some (.inl (.int x2)), some (.inl (.int x3)), some (.inl (.int r1)), some (.inl (.int (r2 + x3))), some (.inl (.int (1 : Int32)))] [] m rfl ⟨trivial, trivial, trivial, trivial, trivial, trivial⟩ ?_
  refine zk_mask R [true, true, true, false, true, true, true] rfl ?_
  exact w_X12_isSeen_20 d k m R zF x1 x2 r1 (r2 + x3) (1 : Int32)
theorem r_X12_depthsIf {i : Nat} {t : List zA} (h : i < zN 13) : z_rcv zN (zKD 243) (.inr (13, i) :: t) := by
  rw [show zKD 243 = 13 from rfl]
  exact ⟨rfl, h⟩
noncomputable def f_X12_depthsIf_30 (x1 : Int32) (x2 : Int32) (s1 : Int32) (m : zM) : Option (Int32 × zM) :=
  if ((z_sI m 13 0 0 s1).1 13 0 0) ≤ 0 then
    Option.bind (f_X12_height x1 (z_sI m 13 0 0 s1)) fun r2 =>
    z_gd (z_inb ((3 : Int32) + x1) (z_alen 23)) <| Option.bind (f_X12_depths (z_sI (z_sI m 13 0 0 s1) 23 0 (Int32.toNatClampNeg ((3 : Int32) + x1)) x2)) fun r4 =>
    z_gd (z_inb ((3 : Int32) + x1) (z_alen 23)) <| some (r4.1, (z_sI r4.2 23 0 (Int32.toNatClampNeg ((3 : Int32) + x1)) r2))
  else
    some ((0 : Int32), (z_sI m 13 0 0 s1))
noncomputable def f_X12_depthsIf (x1 : Int32) (x2 : Int32) (m : zM) : Option (Int32 × zM) :=
  Option.bind (f_X12_isCell x1 m) fun r1 =>
  if (z_bi r1) = 0 then
    f_X12_depthsIf_30 x1 x2 (1 : Int32) m
  else
    Option.bind (f_X12_in (Int32.toInt64 x2) (0 : Int64) (99 : Int64) m) fun r3 =>
    if (z_bi r3) = 0 then
      f_X12_depthsIf_30 x1 x2 (2 : Int32) m
    else
      f_X12_depthsIf_30 x1 x2 (0 : Int32) m
theorem w_X12_depthsIf_30 (d k : Nat) {o : zO} {G : Nat → Nat → zL → List zA → zM → Prop} (R : zRu (d + 3) tX12_depthsIf 0 (z_hf []) o G) (x1 : Int32) (x2 : Int32) (s1 : Int32) (m : zM) : zLK G (fun a => (z_cI a.1, a.2) : Int32 × zM → zO) o (f_X12_depthsIf_30 x1 x2 s1 m) some (k + 0) 30 [some (.inr (13, 0)), some (.inl (.int x1)), some (.inl (.int x2)), none, none] [.inl (.int s1), .inr (13, 0)] m := by
  unfold f_X12_depthsIf_30
  refine zk_st R 3 37 [some (.inr (13, 0)), some (.inl (.int x1)), some (.inl (.int x2)), none, none] [.inl (.int ((z_sI m 13 0 0 s1).1 13 0 0))] (z_sI m 13 0 0 s1) rfl ⟨(Nat.le_of_ble_eq_true rfl), trivial, (Nat.le_of_ble_eq_true rfl), trivial⟩ ?_
  refine zk_br R rfl (fun _ => ?_) (fun _ => ?_)
  · refine zk_st R 2 44 [some (.inr (13, 0)), some (.inl (.int x1)), some (.inl (.int x2)), none, none] [.inl (.int x1), .inr (13, 0)] (z_sI m 13 0 0 s1) rfl ⟨trivial, trivial, trivial⟩ ?_
    refine zk_call R (fun b => some (.inl (.int b))) (fun _ => (z_sI m 13 0 0 s1)) rfl (r_X12_height (Nat.le_of_ble_eq_true rfl)) (fun b hb => w_X12_height (d + 2) 0 x1 (z_sI m 13 0 0 s1) b hb) (fun r2 => ?_)
    refine zk_gd fun e3 => ?_
    refine zk_st R 9 58 [some (.inr (13, 0)), some (.inl (.int x1)), some (.inl (.int x2)), some (.inl (.int r2)), none] [.inr (13, 0)] (z_sI (z_sI m 13 0 0 s1) 23 0 (Int32.toNatClampNeg ((3 : Int32) + x1)) x2) rfl ⟨trivial, trivial, (Nat.le_of_ble_eq_true rfl), trivial, trivial, trivial, trivial, ⟨(Nat.le_of_ble_eq_true rfl), z_inb_in e3⟩, trivial, trivial⟩ ?_
    refine zk_call R (fun b => some (.inl (.int b.1))) (fun b => b.2) rfl (r_X12_depths (Nat.le_of_ble_eq_true rfl)) (fun b hb => w_X12_depths d 0 (z_sI (z_sI m 13 0 0 s1) 23 0 (Int32.toNatClampNeg ((3 : Int32) + x1)) x2) b hb) (fun r4 => ?_)
    refine zk_gd fun e5 => ?_
    refine zk_st R 9 74 [some (.inr (13, 0)), some (.inl (.int x1)), some (.inl (.int x2)), some (.inl (.int r2)), some (.inl (.int r4.1))] [.inl (.int r4.1)] (z_sI r4.2 23 0 (Int32.toNatClampNeg ((3 : Int32) + x1)) r2) rfl ⟨trivial, trivial, (Nat.le_of_ble_eq_true rfl), trivial, trivial, trivial, trivial, ⟨(Nat.le_of_ble_eq_true rfl), z_inb_in e5⟩, trivial, trivial⟩ ?_
    exact zk_ret R rfl trivial rfl
  · refine zk_st R 1 41 [some (.inr (13, 0)), some (.inl (.int x1)), some (.inl (.int x2)), none, none] [.inl (.int (0 : Int32))] (z_sI m 13 0 0 s1) rfl ⟨trivial, trivial⟩ ?_
    exact zk_ret R rfl trivial rfl
theorem w_X12_depthsIf (d k : Nat) (x1 : Int32) (x2 : Int32) (m : zM) (a : Int32 × zM) (ha : f_X12_depthsIf x1 x2 m = some a) : z_Ev z_MT zN zRf (d + 4) (k + 0) 243 [.inr (13, 0), .inl (.int x1), .inl (.int x2)] m ((fun a => (z_cI a.1, a.2) : Int32 × zM → zO) a) := by
  refine zk_top (I := (yX12_depthsIf, cX12_depthsIf, 5, (some .int), [], tX12_depthsIf, 13, 2, 13, 0, 0, 0)) (oc := (fun a => (z_cI a.1, a.2) : Int32 × zM → zO)) (a := a) rfl (Nat.le_of_ble_eq_true rfl) (fun G R => ?_) ha
  unfold f_X12_depthsIf
  refine zk_st R 3 3 [some (.inr (13, 0)), some (.inl (.int x1)), some (.inl (.int x2)), none, none] [.inl (.int x1), .inr (13, 0), .inr (13, 0)] m rfl ⟨trivial, trivial, trivial, trivial⟩ ?_
  refine zk_call R (fun b => some (.inl (.int (z_bi b)))) (fun _ => m) rfl (r_X12_isCell (Nat.le_of_ble_eq_true rfl)) (fun b hb => w_X12_isCell (d + 1) 0 x1 m b hb) (fun r1 => ?_)
  refine zk_br R rfl (fun _ => ?_) (fun _ => ?_)
  · refine zk_st R 2 30 [some (.inr (13, 0)), some (.inl (.int x1)), some (.inl (.int x2)), none, none] [.inl (.int (1 : Int32)), .inr (13, 0)] m rfl ⟨trivial, trivial, trivial⟩ ?_
    refine zk_mask R [true, true, true, false, false] rfl ?_
    exact w_X12_depthsIf_30 d k R x1 x2 (1 : Int32) m
  · refine zk_st R 4 19 [some (.inr (13, 0)), some (.inl (.int x1)), some (.inl (.int x2)), none, none] [.inl (.long (99 : Int64)), .inl (.long (0 : Int64)), .inl (.long (Int32.toInt64 x2)), .inr (13, 0)] m rfl ⟨trivial, trivial, trivial, trivial, trivial⟩ ?_
    refine zk_call R (fun b => some (.inl (.int (z_bi b)))) (fun _ => m) rfl (r_X12_in) (fun b hb => w_X12_in (d + 2) 0 (Int32.toInt64 x2) (0 : Int64) (99 : Int64) m b hb) (fun r3 => ?_)
    refine zk_br R rfl (fun _ => ?_) (fun _ => ?_)
    · refine zk_st R 1 30 [some (.inr (13, 0)), some (.inl (.int x1)), some (.inl (.int x2)), none, none] [.inl (.int (2 : Int32)), .inr (13, 0)] m rfl ⟨trivial, trivial⟩ ?_
      refine zk_mask R [true, true, true, false, false] rfl ?_
      exact w_X12_depthsIf_30 d k R x1 x2 (2 : Int32) m
    · refine zk_st R 2 30 [some (.inr (13, 0)), some (.inl (.int x1)), some (.inl (.int x2)), none, none] [.inl (.int (0 : Int32)), .inr (13, 0)] m rfl ⟨trivial, trivial, trivial⟩ ?_
      refine zk_mask R [true, true, true, false, false] rfl ?_
      exact w_X12_depthsIf_30 d k R x1 x2 (0 : Int32) m
theorem r_X12_mouthIf {i : Nat} {t : List zA} (h : i < zN 13) : z_rcv zN (zKD 245) (.inr (13, i) :: t) := by
  rw [show zKD 245 = 13 from rfl]
  exact ⟨rfl, h⟩
noncomputable def f_X12_mouthIf_21 (m : zM) : Option (Int32 × zM) :=
  Option.bind (f_X12_raises (1 : Int32) m) fun r1 =>
  some (r1.1, r1.2)
noncomputable def f_X12_mouthIf (x1 : Int32) (x2 : Int32) (m : zM) : Option (Int32 × zM) :=
  Option.bind (f_X12_isCell x1 (z_sI m 13 0 0 (0 : Int32))) fun r1 =>
  if (z_bi r1) = 0 then
    f_X12_mouthIf_21 (z_sI m 13 0 0 (0 : Int32))
  else
    Option.bind (f_X12_isCell x2 (z_sI m 13 0 0 (0 : Int32))) fun r3 =>
    if (z_bi r3) = 0 then
      f_X12_mouthIf_21 (z_sI m 13 0 0 (0 : Int32))
    else
      z_gd (z_inb ((195 : Int32) + x2) (z_alen 23)) <| Option.bind (f_X12_looks (z_sI (z_sI m 13 0 0 (0 : Int32)) 23 0 (Int32.toNatClampNeg ((195 : Int32) + x2)) (1 : Int32))) fun r6 =>
      Option.bind (f_X12_mouth x1 r6) fun r7 =>
      z_gd (z_inb ((195 : Int32) + x2) (z_alen 23)) <| some (r7, (z_sI r6 23 0 (Int32.toNatClampNeg ((195 : Int32) + x2)) ((z_sI m 13 0 0 (0 : Int32)).1 23 0 (Int32.toNatClampNeg ((195 : Int32) + x2)))))
theorem w_X12_mouthIf_21 (d k : Nat) {o : zO} {G : Nat → Nat → zL → List zA → zM → Prop} (R : zRu (d + 3) tX12_mouthIf 0 (z_hf []) o G) (m : zM) : zLK G (fun a => (z_cI a.1, a.2) : Int32 × zM → zO) o (f_X12_mouthIf_21 m) some (k + 0) 21 [some (.inr (13, 0)), none, none, none, none] [] m := by
  unfold f_X12_mouthIf_21
  refine zk_st R 2 23 [some (.inr (13, 0)), none, none, none, none] [.inl (.int (1 : Int32)), .inr (13, 0)] m rfl ⟨trivial, trivial, trivial⟩ ?_
  refine zk_call R (fun b => some (.inl (.int b.1))) (fun b => b.2) rfl (r_X12_raises (Nat.le_of_ble_eq_true rfl)) (fun b hb => w_X12_raises (d + 2) 0 (1 : Int32) m b hb) (fun r1 => ?_)
  exact zk_ret R rfl trivial rfl
theorem w_X12_mouthIf (d k : Nat) (x1 : Int32) (x2 : Int32) (m : zM) (a : Int32 × zM) (ha : f_X12_mouthIf x1 x2 m = some a) : z_Ev z_MT zN zRf (d + 4) (k + 0) 245 [.inr (13, 0), .inl (.int x1), .inl (.int x2)] m ((fun a => (z_cI a.1, a.2) : Int32 × zM → zO) a) := by
  refine zk_top (I := (yX12_mouthIf, cX12_mouthIf, 5, (some .int), [], tX12_mouthIf, 13, 2, 13, 0, 0, 0)) (oc := (fun a => (z_cI a.1, a.2) : Int32 × zM → zO)) (a := a) rfl (Nat.le_of_ble_eq_true rfl) (fun G R => ?_) ha
  unfold f_X12_mouthIf
  refine zk_st R 5 7 [some (.inr (13, 0)), some (.inl (.int x1)), some (.inl (.int x2)), none, none] [.inl (.int x1), .inr (13, 0)] (z_sI m 13 0 0 (0 : Int32)) rfl ⟨trivial, trivial, (Nat.le_of_ble_eq_true rfl), trivial, trivial, trivial⟩ ?_
  refine zk_call R (fun b => some (.inl (.int (z_bi b)))) (fun _ => (z_sI m 13 0 0 (0 : Int32))) rfl (r_X12_isCell (Nat.le_of_ble_eq_true rfl)) (fun b hb => w_X12_isCell (d + 1) 0 x1 (z_sI m 13 0 0 (0 : Int32)) b hb) (fun r1 => ?_)
  refine zk_br R rfl (fun _ => ?_) (fun _ => ?_)
  · refine zk_mask R [true, false, false, false, false] rfl ?_
    exact w_X12_mouthIf_21 d k R (z_sI m 13 0 0 (0 : Int32))
  · refine zk_st R 2 15 [some (.inr (13, 0)), some (.inl (.int x1)), some (.inl (.int x2)), none, none] [.inl (.int x2), .inr (13, 0)] (z_sI m 13 0 0 (0 : Int32)) rfl ⟨trivial, trivial, trivial⟩ ?_
    refine zk_call R (fun b => some (.inl (.int (z_bi b)))) (fun _ => (z_sI m 13 0 0 (0 : Int32))) rfl (r_X12_isCell (Nat.le_of_ble_eq_true rfl)) (fun b hb => w_X12_isCell (d + 1) 0 x2 (z_sI m 13 0 0 (0 : Int32)) b hb) (fun r3 => ?_)
    refine zk_br R rfl (fun _ => ?_) (fun _ => ?_)
    · refine zk_mask R [true, false, false, false, false] rfl ?_
      exact w_X12_mouthIf_21 d k R (z_sI m 13 0 0 (0 : Int32))
    · refine zk_gd fun e5 => ?_
      refine zk_st R 15 50 [some (.inr (13, 0)), some (.inl (.int x1)), some (.inl (.int x2)), some (.inl (.int ((z_sI m 13 0 0 (0 : Int32)).1 23 0 (Int32.toNatClampNeg ((195 : Int32) + x2))))), none] [.inr (13, 0)] (z_sI (z_sI m 13 0 0 (0 : Int32)) 23 0 (Int32.toNatClampNeg ((195 : Int32) + x2)) (1 : Int32)) rfl ⟨trivial, (Nat.le_of_ble_eq_true rfl), trivial, trivial, trivial, ⟨(Nat.le_of_ble_eq_true rfl), z_inb_in e5⟩, trivial, trivial, (Nat.le_of_ble_eq_true rfl), trivial, trivial, trivial, trivial, ⟨(Nat.le_of_ble_eq_true rfl), z_inb_in e5⟩, trivial, trivial⟩ ?_
      refine zk_call R (fun _ => none) id rfl (r_X12_looks (Nat.le_of_ble_eq_true rfl)) (fun b hb => w_X12_looks d 0 (z_sI (z_sI m 13 0 0 (0 : Int32)) 23 0 (Int32.toNatClampNeg ((195 : Int32) + x2)) (1 : Int32)) b hb) (fun r6 => ?_)
      refine zk_st R 2 55 [some (.inr (13, 0)), some (.inl (.int x1)), some (.inl (.int x2)), some (.inl (.int ((z_sI m 13 0 0 (0 : Int32)).1 23 0 (Int32.toNatClampNeg ((195 : Int32) + x2))))), none] [.inl (.int x1), .inr (13, 0)] r6 rfl ⟨trivial, trivial, trivial⟩ ?_
      refine zk_call R (fun b => some (.inl (.int b))) (fun _ => r6) rfl (r_X12_mouth (Nat.le_of_ble_eq_true rfl)) (fun b hb => w_X12_mouth d 0 x1 r6 b hb) (fun r7 => ?_)
      refine zk_gd fun e8 => ?_
      refine zk_st R 9 73 [some (.inr (13, 0)), some (.inl (.int x1)), some (.inl (.int x2)), some (.inl (.int ((z_sI m 13 0 0 (0 : Int32)).1 23 0 (Int32.toNatClampNeg ((195 : Int32) + x2))))), some (.inl (.int r7))] [.inl (.int r7)] (z_sI r6 23 0 (Int32.toNatClampNeg ((195 : Int32) + x2)) ((z_sI m 13 0 0 (0 : Int32)).1 23 0 (Int32.toNatClampNeg ((195 : Int32) + x2)))) rfl ⟨trivial, trivial, (Nat.le_of_ble_eq_true rfl), trivial, trivial, trivial, trivial, ⟨(Nat.le_of_ble_eq_true rfl), z_inb_in e8⟩, trivial, trivial⟩ ?_
      exact zk_ret R rfl trivial rfl
theorem r_X12_execute {i : Nat} {t : List zA} (h : i < zN 13) : z_rcv zN (zKD 251) (.inr (13, i) :: t) := by
  rw [show zKD 251 = 13 from rfl]
  exact ⟨rfl, h⟩
noncomputable def f_X12_execute_141 : Nat → Int32 → Int32 → zM → Option (Int32 × zM)
  | 0, _, _, _ => none
  | j + 1, x1, x4, m =>
    if (259 : Int32) ≤ x4 then
      some (x1, m)
    else
      z_gd (z_inb x4 (z_alen 23)) <| f_X12_execute_141 j x1 (x4 + (1 : Int32)) (z_sI m 23 0 (Int32.toNatClampNeg x4) (m.1 23 2 (Int32.toNatClampNeg x4)))
noncomputable def f_X12_execute_97 (c43 : Int32 → Int32 → Int32 → zM → Option (Int32 × zM)) (x1 : Int32) (x2 : Int32) (s0 : Int32) (m : zM) : Option (Int32 × zM) :=
  if s0 = 0 then
    c43 x1 x2 s0 m
  else
    Option.bind (f_X12_takes (59 : Int32) m) fun r2 =>
    if (z_bi r2.1) = 0 then
      Option.bind (f_X12_faults r2.2) fun r4 =>
      some (r4.1, r4.2)
    else
      c43 x1 x2 s0 r2.2
noncomputable def f_X12_execute_76 (c43 : Int32 → Int32 → Int32 → zM → Option (Int32 × zM)) (x1 : Int32) (s0 : Int32) (s1 : Int32) (m : zM) : Option (Int32 × zM) :=
  if (m.1 13 0 8) ≤ (m.1 13 0 9) then
    f_X12_execute_97 c43 (x1 + (1 : Int32)) (s0 ||| s1) (0 : Int32) m
  else
    f_X12_execute_97 c43 (x1 + (1 : Int32)) (s0 ||| s1) (1 : Int32) m
noncomputable def f_X12_execute_43 : Nat → Int32 → Int32 → Int32 → zM → Option (Int32 × zM)
  | 0, _, _, _, _ => none
  | j + 1, x1, x2, x3, m =>
    if x3 = 0 then
      if x2 = 0 then
        Option.bind (f_X12_changes (z_sI m 13 0 8 (0 : Int32))) fun r3 =>
        f_X12_execute_141 zF x1 (0 : Int32) r3
      else
        Option.bind (f_X12_raises (2 : Int32) (z_sI m 13 0 8 (0 : Int32))) fun r4 =>
        some (r4.1, r4.2)
    else
      Option.bind (f_X12_command m) fun r5 =>
      if r5.1 = (1 : Int32) then
        Option.bind (f_X12_faults r5.2) fun r7 =>
        some (r7.1, r7.2)
      else
        if r5.1 = (2 : Int32) then
          f_X12_execute_76 (f_X12_execute_43 j) x1 x2 (1 : Int32) r5.2
        else
          f_X12_execute_76 (f_X12_execute_43 j) x1 x2 (0 : Int32) r5.2
noncomputable def f_X12_execute_7 : Nat → Int32 → zM → Option (Int32 × zM)
  | 0, _, _ => none
  | j + 1, x1, m =>
    if (259 : Int32) ≤ x1 then
      f_X12_execute_43 zF (0 : Int32) (0 : Int32) (1 : Int32) (z_sI m 13 0 9 (0 : Int32))
    else
      z_gd (z_inb x1 (z_alen 23)) <| f_X12_execute_7 j (x1 + (1 : Int32)) (z_sI m 23 2 (Int32.toNatClampNeg x1) (m.1 23 0 (Int32.toNatClampNeg x1)))
noncomputable def f_X12_execute (m : zM) : Option (Int32 × zM) :=
  f_X12_execute_7 zF (0 : Int32) (z_sI m 13 0 0 (0 : Int32))
theorem w_X12_execute_141 (d k : Nat) {o : zO} {G : Nat → Nat → zL → List zA → zM → Prop} (R : zRu (d + 3) tX12_execute 0 (z_hf []) o G) : ∀ (j : Nat) (x1 : Int32) (x4 : Int32) (m : zM), zLK G (fun a => (z_cI a.1, a.2) : Int32 × zM → zO) o (f_X12_execute_141 j x1 x4 m) some (k + 0) 141 [some (.inr (13, 0)), some (.inl (.int x1)), none, none, some (.inl (.int x4))] [] m := by
  intro j
  induction j with
  | zero =>
    intro _ _ _
    exact zk_none
  | succ j ih =>
    intro x1 x4 m
    unfold f_X12_execute_141
    refine zk_st R 2 146 [some (.inr (13, 0)), some (.inl (.int x1)), none, none, some (.inl (.int x4))] [.inl (.int (259 : Int32)), .inl (.int x4)] m rfl ⟨trivial, trivial, trivial⟩ ?_
    refine zk_br R rfl (fun _ => ?_) (fun _ => ?_)
    · refine zk_st R 1 170 [some (.inr (13, 0)), some (.inl (.int x1)), none, none, some (.inl (.int x4))] [.inl (.int x1)] m rfl ⟨trivial, trivial⟩ ?_
      exact zk_ret R rfl trivial rfl
    · refine zk_gd fun e2 => ?_
      refine zk_st R 10 141 [some (.inr (13, 0)), some (.inl (.int x1)), none, none, some (.inl (.int (x4 + (1 : Int32))))] [] (z_sI m 23 0 (Int32.toNatClampNeg x4) (m.1 23 2 (Int32.toNatClampNeg x4))) rfl ⟨trivial, (Nat.le_of_ble_eq_true rfl), trivial, trivial, (Nat.le_of_ble_eq_true rfl), trivial, ⟨(Nat.le_of_ble_eq_true rfl), z_inb_in e2⟩, ⟨(Nat.le_of_ble_eq_true rfl), z_inb_in e2⟩, trivial, trivial, trivial⟩ ?_
      refine zk_mask R [true, true, false, false, true] rfl ?_
      exact ih x1 (x4 + (1 : Int32)) (z_sI m 23 0 (Int32.toNatClampNeg x4) (m.1 23 2 (Int32.toNatClampNeg x4)))
theorem w_X12_execute_97 (d k : Nat) {o : zO} {G : Nat → Nat → zL → List zA → zM → Prop} (R : zRu (d + 3) tX12_execute 0 (z_hf []) o G) (c43 : Int32 → Int32 → Int32 → zM → Option (Int32 × zM)) (hc43 : ∀ (x1 : Int32) (x2 : Int32) (x3 : Int32) (m : zM), zLK G (fun a => (z_cI a.1, a.2) : Int32 × zM → zO) o (c43 x1 x2 x3 m) some (k + 0) 43 [some (.inr (13, 0)), some (.inl (.int x1)), some (.inl (.int x2)), some (.inl (.int x3)), none] [] m) (x1 : Int32) (x2 : Int32) (s0 : Int32) (m : zM) : zLK G (fun a => (z_cI a.1, a.2) : Int32 × zM → zO) o (f_X12_execute_97 c43 x1 x2 s0 m) some (k + 0) 97 [some (.inr (13, 0)), some (.inl (.int x1)), some (.inl (.int x2)), none, none] [.inl (.int s0)] m := by
  unfold f_X12_execute_97
  refine zk_st R 2 99 [some (.inr (13, 0)), some (.inl (.int x1)), some (.inl (.int x2)), some (.inl (.int s0)), none] [.inl (.int s0)] m rfl ⟨trivial, trivial, trivial⟩ ?_
  refine zk_br R rfl (fun _ => ?_) (fun _ => ?_)
  · refine zk_st R 1 43 [some (.inr (13, 0)), some (.inl (.int x1)), some (.inl (.int x2)), some (.inl (.int s0)), none] [] m rfl ⟨trivial, trivial⟩ ?_
    refine zk_mask R [true, true, true, true, false] rfl ?_
    exact hc43 x1 x2 s0 m
  · refine zk_st R 2 105 [some (.inr (13, 0)), some (.inl (.int x1)), some (.inl (.int x2)), some (.inl (.int s0)), none] [.inl (.int (59 : Int32)), .inr (13, 0)] m rfl ⟨trivial, trivial, trivial⟩ ?_
    refine zk_call R (fun b => some (.inl (.int (z_bi b.1)))) (fun b => b.2) rfl (r_X12_takes (Nat.le_of_ble_eq_true rfl)) (fun b hb => w_X12_takes (d + 1) 0 (59 : Int32) m b hb) (fun r2 => ?_)
    refine zk_br R rfl (fun _ => ?_) (fun _ => ?_)
    · refine zk_st R 1 112 [some (.inr (13, 0)), some (.inl (.int x1)), some (.inl (.int x2)), some (.inl (.int s0)), none] [.inr (13, 0)] r2.2 rfl ⟨trivial, trivial⟩ ?_
      refine zk_call R (fun b => some (.inl (.int b.1))) (fun b => b.2) rfl (r_X12_faults (Nat.le_of_ble_eq_true rfl)) (fun b hb => w_X12_faults (d + 1) 0 r2.2 b hb) (fun r4 => ?_)
      exact zk_ret R rfl trivial rfl
    · refine zk_st R 1 43 [some (.inr (13, 0)), some (.inl (.int x1)), some (.inl (.int x2)), some (.inl (.int s0)), none] [] r2.2 rfl ⟨trivial, trivial⟩ ?_
      refine zk_mask R [true, true, true, true, false] rfl ?_
      exact hc43 x1 x2 s0 r2.2
theorem w_X12_execute_76 (d k : Nat) {o : zO} {G : Nat → Nat → zL → List zA → zM → Prop} (R : zRu (d + 3) tX12_execute 0 (z_hf []) o G) (c43 : Int32 → Int32 → Int32 → zM → Option (Int32 × zM)) (hc43 : ∀ (x1 : Int32) (x2 : Int32) (x3 : Int32) (m : zM), zLK G (fun a => (z_cI a.1, a.2) : Int32 × zM → zO) o (c43 x1 x2 x3 m) some (k + 0) 43 [some (.inr (13, 0)), some (.inl (.int x1)), some (.inl (.int x2)), some (.inl (.int x3)), none] [] m) (x1 : Int32) (s0 : Int32) (s1 : Int32) (m : zM) : zLK G (fun a => (z_cI a.1, a.2) : Int32 × zM → zO) o (f_X12_execute_76 c43 x1 s0 s1 m) some (k + 0) 76 [some (.inr (13, 0)), some (.inl (.int x1)), none, none, none] [.inl (.int s1), .inl (.int s0)] m := by
  unfold f_X12_execute_76
  refine zk_st R 7 89 [some (.inr (13, 0)), some (.inl (.int (x1 + (1 : Int32)))), some (.inl (.int (s0 ||| s1))), none, none] [.inl (.int (m.1 13 0 8)), .inl (.int (m.1 13 0 9))] m rfl ⟨trivial, trivial, trivial, trivial, (Nat.le_of_ble_eq_true rfl), trivial, (Nat.le_of_ble_eq_true rfl), trivial⟩ ?_
  refine zk_br R rfl (fun _ => ?_) (fun _ => ?_)
  · refine zk_st R 1 97 [some (.inr (13, 0)), some (.inl (.int (x1 + (1 : Int32)))), some (.inl (.int (s0 ||| s1))), none, none] [.inl (.int (0 : Int32))] m rfl ⟨trivial, trivial⟩ ?_
    refine zk_mask R [true, true, true, false, false] rfl ?_
    exact w_X12_execute_97 d k R c43 hc43 (x1 + (1 : Int32)) (s0 ||| s1) (0 : Int32) m
  · refine zk_st R 2 97 [some (.inr (13, 0)), some (.inl (.int (x1 + (1 : Int32)))), some (.inl (.int (s0 ||| s1))), none, none] [.inl (.int (1 : Int32))] m rfl ⟨trivial, trivial, trivial⟩ ?_
    refine zk_mask R [true, true, true, false, false] rfl ?_
    exact w_X12_execute_97 d k R c43 hc43 (x1 + (1 : Int32)) (s0 ||| s1) (1 : Int32) m
theorem w_X12_execute_43 (d k : Nat) {o : zO} {G : Nat → Nat → zL → List zA → zM → Prop} (R : zRu (d + 3) tX12_execute 0 (z_hf []) o G) : ∀ (j : Nat) (x1 : Int32) (x2 : Int32) (x3 : Int32) (m : zM), zLK G (fun a => (z_cI a.1, a.2) : Int32 × zM → zO) o (f_X12_execute_43 j x1 x2 x3 m) some (k + 0) 43 [some (.inr (13, 0)), some (.inl (.int x1)), some (.inl (.int x2)), some (.inl (.int x3)), none] [] m := by
  intro j
  induction j with
  | zero =>
    intro _ _ _ _
    exact zk_none
  | succ j ih =>
    intro x1 x2 x3 m
    unfold f_X12_execute_43
    refine zk_st R 1 44 [some (.inr (13, 0)), some (.inl (.int x1)), some (.inl (.int x2)), some (.inl (.int x3)), none] [.inl (.int x3)] m rfl ⟨trivial, trivial⟩ ?_
    refine zk_br R rfl (fun _ => ?_) (fun _ => ?_)
    · refine zk_st R 4 125 [some (.inr (13, 0)), some (.inl (.int x1)), some (.inl (.int x2)), some (.inl (.int x3)), none] [.inl (.int x2)] (z_sI m 13 0 8 (0 : Int32)) rfl ⟨trivial, trivial, (Nat.le_of_ble_eq_true rfl), trivial, trivial⟩ ?_
      refine zk_br R rfl (fun _ => ?_) (fun _ => ?_)
      · refine zk_st R 1 135 [some (.inr (13, 0)), some (.inl (.int x1)), some (.inl (.int x2)), some (.inl (.int x3)), none] [.inr (13, 0)] (z_sI m 13 0 8 (0 : Int32)) rfl ⟨trivial, trivial⟩ ?_
        refine zk_call R (fun _ => none) id rfl (r_X12_changes (Nat.le_of_ble_eq_true rfl)) (fun b hb => w_X12_changes (d + 2) 0 (z_sI m 13 0 8 (0 : Int32)) b hb) (fun r3 => ?_)
        refine zk_st R 2 141 [some (.inr (13, 0)), some (.inl (.int x1)), some (.inl (.int x2)), some (.inl (.int x3)), some (.inl (.int (0 : Int32)))] [] r3 rfl ⟨trivial, trivial, trivial⟩ ?_
        refine zk_mask R [true, true, false, false, true] rfl ?_
        exact w_X12_execute_141 d k R zF x1 (0 : Int32) r3
      · refine zk_st R 2 130 [some (.inr (13, 0)), some (.inl (.int x1)), some (.inl (.int x2)), some (.inl (.int x3)), none] [.inl (.int (2 : Int32)), .inr (13, 0)] (z_sI m 13 0 8 (0 : Int32)) rfl ⟨trivial, trivial, trivial⟩ ?_
        refine zk_call R (fun b => some (.inl (.int b.1))) (fun b => b.2) rfl (r_X12_raises (Nat.le_of_ble_eq_true rfl)) (fun b hb => w_X12_raises (d + 2) 0 (2 : Int32) (z_sI m 13 0 8 (0 : Int32)) b hb) (fun r4 => ?_)
        exact zk_ret R rfl trivial rfl
    · refine zk_st R 1 48 [some (.inr (13, 0)), some (.inl (.int x1)), some (.inl (.int x2)), some (.inl (.int x3)), none] [.inr (13, 0)] m rfl ⟨trivial, trivial⟩ ?_
      refine zk_call R (fun b => some (.inl (.int b.1))) (fun b => b.2) rfl (r_X12_command (Nat.le_of_ble_eq_true rfl)) (fun b hb => w_X12_command d 0 m b hb) (fun r5 => ?_)
      refine zk_st R 3 56 [some (.inr (13, 0)), some (.inl (.int x1)), some (.inl (.int x2)), some (.inl (.int x3)), some (.inl (.int r5.1))] [.inl (.int (1 : Int32)), .inl (.int r5.1)] r5.2 rfl ⟨trivial, trivial, trivial, trivial⟩ ?_
      refine zk_br R rfl (fun _ => ?_) (fun _ => ?_)
      · refine zk_st R 1 60 [some (.inr (13, 0)), some (.inl (.int x1)), some (.inl (.int x2)), some (.inl (.int x3)), some (.inl (.int r5.1))] [.inr (13, 0)] r5.2 rfl ⟨trivial, trivial⟩ ?_
        refine zk_call R (fun b => some (.inl (.int b.1))) (fun b => b.2) rfl (r_X12_faults (Nat.le_of_ble_eq_true rfl)) (fun b hb => w_X12_faults (d + 1) 0 r5.2 b hb) (fun r7 => ?_)
        exact zk_ret R rfl trivial rfl
      · refine zk_st R 3 68 [some (.inr (13, 0)), some (.inl (.int x1)), some (.inl (.int x2)), some (.inl (.int x3)), some (.inl (.int r5.1))] [.inl (.int (2 : Int32)), .inl (.int r5.1), .inl (.int x2)] r5.2 rfl ⟨trivial, trivial, trivial, trivial⟩ ?_
        refine zk_br R rfl (fun _ => ?_) (fun _ => ?_)
        · refine zk_st R 2 76 [some (.inr (13, 0)), some (.inl (.int x1)), some (.inl (.int x2)), some (.inl (.int x3)), some (.inl (.int r5.1))] [.inl (.int (1 : Int32)), .inl (.int x2)] r5.2 rfl ⟨trivial, trivial, trivial⟩ ?_
          refine zk_mask R [true, true, false, false, false] rfl ?_
          exact w_X12_execute_76 d k R (f_X12_execute_43 j) ih x1 x2 (1 : Int32) r5.2
        · refine zk_st R 1 76 [some (.inr (13, 0)), some (.inl (.int x1)), some (.inl (.int x2)), some (.inl (.int x3)), some (.inl (.int r5.1))] [.inl (.int (0 : Int32)), .inl (.int x2)] r5.2 rfl ⟨trivial, trivial⟩ ?_
          refine zk_mask R [true, true, false, false, false] rfl ?_
          exact w_X12_execute_76 d k R (f_X12_execute_43 j) ih x1 x2 (0 : Int32) r5.2
theorem w_X12_execute_7 (d k : Nat) {o : zO} {G : Nat → Nat → zL → List zA → zM → Prop} (R : zRu (d + 3) tX12_execute 0 (z_hf []) o G) : ∀ (j : Nat) (x1 : Int32) (m : zM), zLK G (fun a => (z_cI a.1, a.2) : Int32 × zM → zO) o (f_X12_execute_7 j x1 m) some (k + 0) 7 [some (.inr (13, 0)), some (.inl (.int x1)), none, none, none] [] m := by
  intro j
  induction j with
  | zero =>
    intro _ _
    exact zk_none
  | succ j ih =>
    intro x1 m
    unfold f_X12_execute_7
    refine zk_st R 2 11 [some (.inr (13, 0)), some (.inl (.int x1)), none, none, none] [.inl (.int (259 : Int32)), .inl (.int x1)] m rfl ⟨trivial, trivial, trivial⟩ ?_
    refine zk_br R rfl (fun _ => ?_) (fun _ => ?_)
    · refine zk_st R 9 43 [some (.inr (13, 0)), some (.inl (.int (0 : Int32))), some (.inl (.int (0 : Int32))), some (.inl (.int (1 : Int32))), none] [] (z_sI m 13 0 9 (0 : Int32)) rfl ⟨trivial, trivial, (Nat.le_of_ble_eq_true rfl), trivial, trivial, trivial, trivial, trivial, trivial, trivial⟩ ?_
      refine zk_mask R [true, true, true, true, false] rfl ?_
      exact w_X12_execute_43 d k R zF (0 : Int32) (0 : Int32) (1 : Int32) (z_sI m 13 0 9 (0 : Int32))
    · refine zk_gd fun e2 => ?_
      refine zk_st R 10 7 [some (.inr (13, 0)), some (.inl (.int (x1 + (1 : Int32)))), none, none, none] [] (z_sI m 23 2 (Int32.toNatClampNeg x1) (m.1 23 0 (Int32.toNatClampNeg x1))) rfl ⟨trivial, (Nat.le_of_ble_eq_true rfl), trivial, trivial, (Nat.le_of_ble_eq_true rfl), trivial, ⟨(Nat.le_of_ble_eq_true rfl), z_inb_in e2⟩, ⟨(Nat.le_of_ble_eq_true rfl), z_inb_in e2⟩, trivial, trivial, trivial⟩ ?_
      refine zk_mask R [true, true, false, false, false] rfl ?_
      exact ih (x1 + (1 : Int32)) (z_sI m 23 2 (Int32.toNatClampNeg x1) (m.1 23 0 (Int32.toNatClampNeg x1)))
theorem w_X12_execute (d k : Nat) (m : zM) (a : Int32 × zM) (ha : f_X12_execute m = some a) : z_Ev z_MT zN zRf (d + 4) (k + 0) 251 [.inr (13, 0)] m ((fun a => (z_cI a.1, a.2) : Int32 × zM → zO) a) := by
  refine zk_top (I := (yX12_execute, cX12_execute, 5, (some .int), [], tX12_execute, 13, 0, 13, 0, 0, 0)) (oc := (fun a => (z_cI a.1, a.2) : Int32 × zM → zO)) (a := a) rfl (Nat.le_of_ble_eq_true rfl) (fun G R => ?_) ha
  unfold f_X12_execute
  refine zk_st R 5 7 [some (.inr (13, 0)), some (.inl (.int (0 : Int32))), none, none, none] [] (z_sI m 13 0 0 (0 : Int32)) rfl ⟨trivial, trivial, (Nat.le_of_ble_eq_true rfl), trivial, trivial, trivial⟩ ?_
  refine zk_mask R [true, true, false, false, false] rfl ?_
  exact w_X12_execute_7 d k R zF (0 : Int32) (z_sI m 13 0 0 (0 : Int32))
