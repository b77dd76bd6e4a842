theorem r_X12_lake {i : Nat} {t : List zA} (h : i < zN 13) : z_rcv zN (zKD 207) (.inr (13, i) :: t) := by
  rw [show zKD 207 = 13 from rfl]
  exact ⟨rfl, h⟩
noncomputable def f_X12_lake_73 : Nat → Int32 → Int32 → Int32 → zM → Option (Int32 × zM)
  | 0, _, _, _, _ => none
  | j + 1, x1, x3, x4, m =>
    Option.bind (f_X12_cells m) fun r1 =>
    if r1 ≤ x4 then
      some (x3, m)
    else
      z_gd (z_inb x4 (z_alen 20)) <| if (m.1 20 65 (Int32.toNatClampNeg x4)) = x1 then
        f_X12_lake_73 j x1 (x3 + (1 : Int32)) (x4 + (1 : Int32)) m
      else
        f_X12_lake_73 j x1 x3 (x4 + (1 : Int32)) m
noncomputable def f_X12_lake_148 : Nat → Int32 → Int32 → zM → Option (Int32 × zM)
  | 0, _, _, _ => none
  | j + 1, x1, x4, m =>
    z_gd (z_inb x4 (z_alen 20)) <| if (m.1 20 65 (Int32.toNatClampNeg x4)) = x1 then
      Option.bind (f_X12_onward x4 m) fun r3 =>
      f_X12_lake_148 j x1 r3 m
    else
      some (x4, m)
noncomputable def f_X12_lake (x1 : Int32) (x2 : Int32) (m : zM) : Option (Int32 × zM) :=
  Option.bind (f_X12_isLake x1 (z_sI m 13 0 0 (0 : Int32))) fun r1 =>
  if (z_bi r1.1) = 0 then
    Option.bind (f_X12_raises (1 : Int32) r1.2) fun r3 =>
    some (r3.1, r3.2)
  else
    if x2 = (0 : Int32) then
      Option.bind (f_X12_lowest x1 r1.2) fun r5 =>
      some (r5, r1.2)
    else if x2 = (1 : Int32) then
      f_X12_lake_73 zF x1 (0 : Int32) (0 : Int32) r1.2
    else if x2 = (2 : Int32) then
      Option.bind (f_X12_lowest x1 r1.2) fun r8 =>
      z_gd (z_inb r8 (z_alen 20)) <| some ((r1.2.1 20 59 (Int32.toNatClampNeg r8)), r1.2)
    else if x2 = (3 : Int32) then
      Option.bind (f_X12_volume x1 r1.2) fun r11 =>
      some (r11, r1.2)
    else if x2 = (4 : Int32) then
      Option.bind (f_X12_bottom x1 r1.2) fun r13 =>
      some (r13, r1.2)
    else if x2 = (5 : Int32) then
      Option.bind (f_X12_bottom x1 r1.2) fun r15 =>
      Option.bind (f_X12_bestWay r15 r1.2) fun r16 =>
      some ((r16.1 13 0 30), r16)
    else if x2 = (6 : Int32) then
      Option.bind (f_X12_bottom x1 r1.2) fun r18 =>
      f_X12_lake_148 zF x1 r18 r1.2
    else
      Option.bind (f_X12_raises (2 : Int32) r1.2) fun r19 =>
      some (r19.1, r19.2)
theorem w_X12_lake_73 (d k : Nat) {o : zO} {G : Nat → Nat → zL → List zA → zM → Prop} (R : zRu (d + 5) tX12_lake 0 (z_hf []) o G) : ∀ (j : Nat) (x1 : Int32) (x3 : Int32) (x4 : Int32) (m : zM), zLK G (fun a => (z_cI a.1, a.2) : Int32 × zM → zO) o (f_X12_lake_73 j x1 x3 x4 m) some (k + 0) 73 [some (.inr (13, 0)), some (.inl (.int x1)), none, some (.inl (.int x3)), some (.inl (.int x4))] [] m := by
  intro j
  induction j with
  | zero =>
    intro _ _ _ _
    exact zk_none
  | succ j ih =>
    intro x1 x3 x4 m
    unfold f_X12_lake_73
    refine zk_st R 2 76 [some (.inr (13, 0)), some (.inl (.int x1)), none, some (.inl (.int x3)), some (.inl (.int x4))] [.inr (13, 0), .inl (.int x4)] m rfl ⟨trivial, trivial, trivial⟩ ?_
    refine zk_call R (fun b => some (.inl (.int b))) (fun _ => m) rfl (r_X12_cells (Nat.le_of_ble_eq_true rfl)) (fun b hb => w_X12_cells (d + 4) 0 m b hb) (fun r1 => ?_)
    refine zk_br R rfl (fun _ => ?_) (fun _ => ?_)
    · refine zk_st R 1 103 [some (.inr (13, 0)), some (.inl (.int x1)), none, some (.inl (.int x3)), some (.inl (.int x4))] [.inl (.int x3)] m rfl ⟨trivial, trivial⟩ ?_
      exact zk_ret R rfl trivial rfl
    · refine zk_gd fun e3 => ?_
      refine zk_st R 5 90 [some (.inr (13, 0)), some (.inl (.int x1)), none, some (.inl (.int x3)), some (.inl (.int x4))] [.inl (.int x1), .inl (.int (m.1 20 65 (Int32.toNatClampNeg x4)))] m rfl ⟨trivial, (Nat.le_of_ble_eq_true rfl), trivial, ⟨(Nat.le_of_ble_eq_true rfl), z_inb_in e3⟩, trivial, trivial⟩ ?_
      refine zk_br R rfl (fun _ => ?_) (fun _ => ?_)
      · refine zk_st R 3 73 [some (.inr (13, 0)), some (.inl (.int x1)), none, some (.inl (.int (x3 + (1 : Int32)))), some (.inl (.int (x4 + (1 : Int32))))] [] m rfl ⟨trivial, trivial, trivial, trivial⟩ ?_
        refine zk_mask R [true, true, false, true, true] rfl ?_
        exact ih x1 (x3 + (1 : Int32)) (x4 + (1 : Int32)) m
      · refine zk_st R 2 73 [some (.inr (13, 0)), some (.inl (.int x1)), none, some (.inl (.int x3)), some (.inl (.int (x4 + (1 : Int32))))] [] m rfl ⟨trivial, trivial, trivial⟩ ?_
        refine zk_mask R [true, true, false, true, true] rfl ?_
        exact ih x1 x3 (x4 + (1 : Int32)) m
theorem w_X12_lake_148 (d k : Nat) {o : zO} {G : Nat → Nat → zL → List zA → zM → Prop} (R : zRu (d + 5) tX12_lake 0 (z_hf []) o G) : ∀ (j : Nat) (x1 : Int32) (x4 : Int32) (m : zM), zLK G (fun a => (z_cI a.1, a.2) : Int32 × zM → zO) o (f_X12_lake_148 j x1 x4 m) some (k + 0) 148 [some (.inr (13, 0)), some (.inl (.int x1)), none, none, some (.inl (.int x4))] [] m := by
  intro j
  induction j with
  | zero =>
    intro _ _ _
    exact zk_none
  | succ j ih =>
    intro x1 x4 m
    unfold f_X12_lake_148
    refine zk_gd fun e1 => ?_
    refine zk_st R 5 156 [some (.inr (13, 0)), some (.inl (.int x1)), none, none, some (.inl (.int x4))] [.inl (.int x1), .inl (.int (m.1 20 65 (Int32.toNatClampNeg x4)))] m rfl ⟨trivial, (Nat.le_of_ble_eq_true rfl), trivial, ⟨(Nat.le_of_ble_eq_true rfl), z_inb_in e1⟩, trivial, trivial⟩ ?_
    refine zk_br R rfl (fun _ => ?_) (fun _ => ?_)
    · refine zk_st R 2 162 [some (.inr (13, 0)), some (.inl (.int x1)), none, none, some (.inl (.int x4))] [.inl (.int x4), .inr (13, 0)] m rfl ⟨trivial, trivial, trivial⟩ ?_
      refine zk_call R (fun b => some (.inl (.int b))) (fun _ => m) rfl (r_X12_onward (Nat.le_of_ble_eq_true rfl)) (fun b hb => w_X12_onward (d + 3) 0 x4 m b hb) (fun r3 => ?_)
      refine zk_st R 2 148 [some (.inr (13, 0)), some (.inl (.int x1)), none, none, some (.inl (.int r3))] [] m rfl ⟨trivial, trivial, trivial⟩ ?_
      refine zk_mask R [true, true, false, false, true] rfl ?_
      exact ih x1 r3 m
    · refine zk_st R 1 172 [some (.inr (13, 0)), some (.inl (.int x1)), none, none, some (.inl (.int x4))] [.inl (.int x4)] m rfl ⟨trivial, trivial⟩ ?_
      exact zk_ret R rfl trivial rfl
theorem w_X12_lake (d k : Nat) (x1 : Int32) (x2 : Int32) (m : zM) (a : Int32 × zM) (ha : f_X12_lake x1 x2 m = some a) : z_Ev z_MT zN zRf (d + 6) (k + 0) 207 [.inr (13, 0), .inl (.int x1), .inl (.int x2)] m ((fun a => (z_cI a.1, a.2) : Int32 × zM → zO) a) := by
  refine zk_top (I := (yX12_lake, cX12_lake, 5, (some .int), [], tX12_lake, 13, 2, 13, 0, 0, 0)) (oc := (fun a => (z_cI a.1, a.2) : Int32 × zM → zO)) (a := a) rfl (Nat.le_of_ble_eq_true rfl) (fun G R => ?_) ha
  unfold f_X12_lake
  refine zk_st R 5 7 [some (.inr (13, 0)), some (.inl (.int x1)), some (.inl (.int x2)), none, none] [.inl (.int x1), .inr (13, 0)] (z_sI m 13 0 0 (0 : Int32)) rfl ⟨trivial, trivial, (Nat.le_of_ble_eq_true rfl), trivial, trivial, trivial⟩ ?_
  refine zk_call R (fun b => some (.inl (.int (z_bi b.1)))) (fun b => b.2) rfl (r_X12_isLake (Nat.le_of_ble_eq_true rfl)) (fun b hb => w_X12_isLake d 0 x1 (z_sI m 13 0 0 (0 : Int32)) b hb) (fun r1 => ?_)
  refine zk_br R rfl (fun _ => ?_) (fun _ => ?_)
  · refine zk_st R 2 15 [some (.inr (13, 0)), some (.inl (.int x1)), some (.inl (.int x2)), none, none] [.inl (.int (1 : Int32)), .inr (13, 0)] r1.2 rfl ⟨trivial, trivial, trivial⟩ ?_
    refine zk_call R (fun b => some (.inl (.int b.1))) (fun b => b.2) rfl (r_X12_raises (Nat.le_of_ble_eq_true rfl)) (fun b hb => w_X12_raises (d + 4) 0 (1 : Int32) r1.2 b hb) (fun r3 => ?_)
    exact zk_ret R rfl trivial rfl
  · refine zk_st R 3 22 [some (.inr (13, 0)), some (.inl (.int x1)), some (.inl (.int x2)), some (.inl (.int (0 : Int32))), none] [.inl (.int x2)] r1.2 rfl ⟨trivial, trivial, trivial, trivial⟩ ?_
    refine zk_if (fun e4 => ?_) (fun e4 => ?_)
    · refine zk_tsw R rfl (z_swv e4 (by decide +kernel : _ = 64)) ?_
      refine zk_st R 2 66 [some (.inr (13, 0)), some (.inl (.int x1)), some (.inl (.int x2)), some (.inl (.int (0 : Int32))), none] [.inl (.int x1), .inr (13, 0)] r1.2 rfl ⟨trivial, trivial, trivial⟩ ?_
      refine zk_call R (fun b => some (.inl (.int b))) (fun _ => r1.2) rfl (r_X12_lowest (Nat.le_of_ble_eq_true rfl)) (fun b hb => w_X12_lowest (d + 4) 0 x1 r1.2 b hb) (fun r5 => ?_)
      exact zk_ret R rfl trivial rfl
    refine zk_if (fun e6 => ?_) (fun e6 => ?_)
    · refine zk_tsw R rfl (z_swv e6 (by decide +kernel : _ = 70)) ?_
      refine zk_st R 2 73 [some (.inr (13, 0)), some (.inl (.int x1)), some (.inl (.int x2)), some (.inl (.int (0 : Int32))), some (.inl (.int (0 : Int32)))] [] r1.2 rfl ⟨trivial, trivial, trivial⟩ ?_
      refine zk_mask R [true, true, false, true, true] rfl ?_
      exact w_X12_lake_73 d k R zF x1 (0 : Int32) (0 : Int32) r1.2
    refine zk_if (fun e7 => ?_) (fun e7 => ?_)
    · refine zk_tsw R rfl (z_swv e7 (by decide +kernel : _ = 104)) ?_
      refine zk_st R 4 110 [some (.inr (13, 0)), some (.inl (.int x1)), some (.inl (.int x2)), some (.inl (.int (0 : Int32))), none] [.inl (.int x1), .inr (13, 0), .inr (20, 59)] r1.2 rfl ⟨trivial, (Nat.le_of_ble_eq_true rfl), trivial, trivial, trivial⟩ ?_
      refine zk_call R (fun b => some (.inl (.int b))) (fun _ => r1.2) rfl (r_X12_lowest (Nat.le_of_ble_eq_true rfl)) (fun b hb => w_X12_lowest (d + 4) 0 x1 r1.2 b hb) (fun r8 => ?_)
      refine zk_gd fun e9 => ?_
      refine zk_st R 1 114 [some (.inr (13, 0)), some (.inl (.int x1)), some (.inl (.int x2)), some (.inl (.int (0 : Int32))), none] [.inl (.int (r1.2.1 20 59 (Int32.toNatClampNeg r8)))] r1.2 rfl ⟨⟨(Nat.le_of_ble_eq_true rfl), z_inb_in e9⟩, trivial⟩ ?_
      exact zk_ret R rfl trivial rfl
    refine zk_if (fun e10 => ?_) (fun e10 => ?_)
    · refine zk_tsw R rfl (z_swv e10 (by decide +kernel : _ = 115)) ?_
      refine zk_st R 2 117 [some (.inr (13, 0)), some (.inl (.int x1)), some (.inl (.int x2)), some (.inl (.int (0 : Int32))), none] [.inl (.int x1), .inr (13, 0)] r1.2 rfl ⟨trivial, trivial, trivial⟩ ?_
      refine zk_call R (fun b => some (.inl (.int b))) (fun _ => r1.2) rfl (r_X12_volume (Nat.le_of_ble_eq_true rfl)) (fun b hb => w_X12_volume (d + 2) 0 x1 r1.2 b hb) (fun r11 => ?_)
      exact zk_ret R rfl trivial rfl
    refine zk_if (fun e12 => ?_) (fun e12 => ?_)
    · refine zk_tsw R rfl (z_swv e12 (by decide +kernel : _ = 121)) ?_
      refine zk_st R 2 123 [some (.inr (13, 0)), some (.inl (.int x1)), some (.inl (.int x2)), some (.inl (.int (0 : Int32))), none] [.inl (.int x1), .inr (13, 0)] r1.2 rfl ⟨trivial, trivial, trivial⟩ ?_
      refine zk_call R (fun b => some (.inl (.int b))) (fun _ => r1.2) rfl (r_X12_bottom (Nat.le_of_ble_eq_true rfl)) (fun b hb => w_X12_bottom (d + 3) 0 x1 r1.2 b hb) (fun r13 => ?_)
      exact zk_ret R rfl trivial rfl
    refine zk_if (fun e14 => ?_) (fun e14 => ?_)
    · refine zk_tsw R rfl (z_swv e14 (by decide +kernel : _ = 127)) ?_
      refine zk_st R 3 130 [some (.inr (13, 0)), some (.inl (.int x1)), some (.inl (.int x2)), some (.inl (.int (0 : Int32))), none] [.inl (.int x1), .inr (13, 0), .inr (13, 0)] r1.2 rfl ⟨trivial, trivial, trivial, trivial⟩ ?_
      refine zk_call R (fun b => some (.inl (.int b))) (fun _ => r1.2) rfl (r_X12_bottom (Nat.le_of_ble_eq_true rfl)) (fun b hb => w_X12_bottom (d + 3) 0 x1 r1.2 b hb) (fun r15 => ?_)
      refine zk_call R (fun _ => none) id rfl (r_X12_bestWay (Nat.le_of_ble_eq_true rfl)) (fun b hb => w_X12_bestWay (d + 1) 0 r15 r1.2 b hb) (fun r16 => ?_)
      refine zk_st R 2 140 [some (.inr (13, 0)), some (.inl (.int x1)), some (.inl (.int x2)), some (.inl (.int (0 : Int32))), none] [.inl (.int (r16.1 13 0 30))] r16 rfl ⟨trivial, (Nat.le_of_ble_eq_true rfl), trivial⟩ ?_
      exact zk_ret R rfl trivial rfl
    refine zk_if (fun e17 => ?_) (fun e17 => ?_)
    · refine zk_tsw R rfl (z_swv e17 (by decide +kernel : _ = 141)) ?_
      refine zk_st R 2 143 [some (.inr (13, 0)), some (.inl (.int x1)), some (.inl (.int x2)), some (.inl (.int (0 : Int32))), none] [.inl (.int x1), .inr (13, 0)] r1.2 rfl ⟨trivial, trivial, trivial⟩ ?_
      refine zk_call R (fun b => some (.inl (.int b))) (fun _ => r1.2) rfl (r_X12_bottom (Nat.le_of_ble_eq_true rfl)) (fun b hb => w_X12_bottom (d + 3) 0 x1 r1.2 b hb) (fun r18 => ?_)
      refine zk_st R 1 148 [some (.inr (13, 0)), some (.inl (.int x1)), some (.inl (.int x2)), some (.inl (.int (0 : Int32))), some (.inl (.int r18))] [] r1.2 rfl ⟨trivial, trivial⟩ ?_
      refine zk_mask R [true, true, false, false, true] rfl ?_
      exact w_X12_lake_148 d k R zF x1 r18 r1.2
    refine zk_tsw R rfl (z_swd 7 (by decide) (fun i hi => ?_) (by decide : _ = 173)) ?_
    · have hi' : i = 0 ∨ i = 1 ∨ i = 2 ∨ i = 3 ∨ i = 4 ∨ i = 5 ∨ i = 6 := by omega
      rcases hi' with rfl | rfl | rfl | rfl | rfl | rfl | rfl
      · exact e4
      · exact e6
      · exact e7
      · exact e10
      · exact e12
      · exact e14
      · exact e17
    · refine zk_st R 2 175 [some (.inr (13, 0)), some (.inl (.int x1)), some (.inl (.int x2)), some (.inl (.int (0 : Int32))), none] [.inl (.int (2 : Int32)), .inr (13, 0)] r1.2 rfl ⟨trivial, trivial, trivial⟩ ?_
      refine zk_call R (fun b => some (.inl (.int b.1))) (fun b => b.2) rfl (r_X12_raises (Nat.le_of_ble_eq_true rfl)) (fun b hb => w_X12_raises (d + 4) 0 (2 : Int32) r1.2 b hb) (fun r19 => ?_)
      exact zk_ret R rfl trivial rfl
theorem r_X12_remedy {i : Nat} {t : List zA} (h : i < zN 13) : z_rcv zN (zKD 209) (.inr (13, i) :: t) := by
  rw [show zKD 209 = 13 from rfl]
  exact ⟨rfl, h⟩
noncomputable def f_X12_remedy (x1 : Int32) (m : zM) : Option (Int32 × zM) :=
  Option.bind (f_X12_isLake x1 (z_sI m 13 0 0 (0 : Int32))) fun r1 =>
  if (z_bi r1.1) = 0 then
    Option.bind (f_X12_raises (1 : Int32) r1.2) fun r3 =>
    some (r3.1, r3.2)
  else
    Option.bind (f_X12_bottom x1 r1.2) fun r4 =>
    Option.bind (f_X12_bestWay r4 r1.2) fun r5 =>
    Option.bind (f_X12_volume x1 r5) fun r6 =>
    if (r5.1 13 0 30) < r6 then
      some ((2 : Int32), r5)
    else
      some ((1 : Int32), r5)
theorem w_X12_remedy (d k : Nat) (x1 : Int32) (m : zM) (a : Int32 × zM) (ha : f_X12_remedy x1 m = some a) : z_Ev z_MT zN zRf (d + 6) (k + 0) 209 [.inr (13, 0), .inl (.int x1)] m ((fun a => (z_cI a.1, a.2) : Int32 × zM → zO) a) := by
  refine zk_top (I := (yX12_remedy, cX12_remedy, 2, (some .int), [], tX12_remedy, 13, 1, 13, 0, 0, 0)) (oc := (fun a => (z_cI a.1, a.2) : Int32 × zM → zO)) (a := a) rfl (Nat.le_of_ble_eq_true rfl) (fun G R => ?_) ha
  unfold f_X12_remedy
  refine zk_st R 5 7 [some (.inr (13, 0)), some (.inl (.int x1))] [.inl (.int x1), .inr (13, 0)] (z_sI m 13 0 0 (0 : Int32)) rfl ⟨trivial, trivial, (Nat.le_of_ble_eq_true rfl), trivial, trivial, trivial⟩ ?_
  refine zk_call R (fun b => some (.inl (.int (z_bi b.1)))) (fun b => b.2) rfl (r_X12_isLake (Nat.le_of_ble_eq_true rfl)) (fun b hb => w_X12_isLake d 0 x1 (z_sI m 13 0 0 (0 : Int32)) b hb) (fun r1 => ?_)
  refine zk_br R rfl (fun _ => ?_) (fun _ => ?_)
  · refine zk_st R 2 15 [some (.inr (13, 0)), some (.inl (.int x1))] [.inl (.int (1 : Int32)), .inr (13, 0)] r1.2 rfl ⟨trivial, trivial, trivial⟩ ?_
    refine zk_call R (fun b => some (.inl (.int b.1))) (fun b => b.2) rfl (r_X12_raises (Nat.le_of_ble_eq_true rfl)) (fun b hb => w_X12_raises (d + 4) 0 (1 : Int32) r1.2 b hb) (fun r3 => ?_)
    exact zk_ret R rfl trivial rfl
  · refine zk_st R 3 22 [some (.inr (13, 0)), some (.inl (.int x1))] [.inl (.int x1), .inr (13, 0), .inr (13, 0)] r1.2 rfl ⟨trivial, trivial, trivial, trivial⟩ ?_
    refine zk_call R (fun b => some (.inl (.int b))) (fun _ => r1.2) rfl (r_X12_bottom (Nat.le_of_ble_eq_true rfl)) (fun b hb => w_X12_bottom (d + 3) 0 x1 r1.2 b hb) (fun r4 => ?_)
    refine zk_call R (fun _ => none) id rfl (r_X12_bestWay (Nat.le_of_ble_eq_true rfl)) (fun b hb => w_X12_bestWay (d + 1) 0 r4 r1.2 b hb) (fun r5 => ?_)
    refine zk_st R 2 30 [some (.inr (13, 0)), some (.inl (.int x1))] [.inl (.int x1), .inr (13, 0)] r5 rfl ⟨trivial, trivial, trivial⟩ ?_
    refine zk_call R (fun b => some (.inl (.int b))) (fun _ => r5) rfl (r_X12_volume (Nat.le_of_ble_eq_true rfl)) (fun b hb => w_X12_volume (d + 2) 0 x1 r5 b hb) (fun r6 => ?_)
    refine zk_st R 2 37 [some (.inr (13, 0)), some (.inl (.int x1))] [.inl (.int (r5.1 13 0 30)), .inl (.int r6)] r5 rfl ⟨trivial, (Nat.le_of_ble_eq_true rfl), trivial⟩ ?_
    refine zk_br R rfl (fun _ => ?_) (fun _ => ?_)
    · refine zk_st R 1 45 [some (.inr (13, 0)), some (.inl (.int x1))] [.inl (.int (2 : Int32))] r5 rfl ⟨trivial, trivial⟩ ?_
      exact zk_ret R rfl trivial rfl
    · refine zk_st R 2 45 [some (.inr (13, 0)), some (.inl (.int x1))] [.inl (.int (1 : Int32))] r5 rfl ⟨trivial, trivial, trivial⟩ ?_
      exact zk_ret R rfl trivial rfl
theorem r_X12_fillLake {i : Nat} {t : List zA} (h : i < zN 13) : z_rcv zN (zKD 210) (.inr (13, i) :: t) := by
  rw [show zKD 210 = 13 from rfl]
  exact ⟨rfl, h⟩
noncomputable def f_X12_fillLake_31 : Nat → Int32 → Int32 → Int32 → zM → Option (Int32 × zM)
  | 0, _, _, _, _ => none
  | j + 1, x1, x2, x3, m =>
    Option.bind (f_X12_cells m) fun r1 =>
    if r1 ≤ x3 then
      some (x2, m)
    else
      z_gd (z_inb x3 (z_alen 20)) <| if (m.1 20 65 (Int32.toNatClampNeg x3)) = x1 then
        z_gd (z_inb x3 (z_alen 20)) <| z_gd (z_inb ((3 : Int32) + x3) (z_alen 23)) <| f_X12_fillLake_31 j x1 x2 (x3 + (1 : Int32)) (z_sI m 23 0 (Int32.toNatClampNeg ((3 : Int32) + x3)) (m.1 20 59 (Int32.toNatClampNeg x3)))
      else
        f_X12_fillLake_31 j x1 x2 (x3 + (1 : Int32)) m
noncomputable def f_X12_fillLake (x1 : Int32) (m : zM) : Option (Int32 × zM) :=
  Option.bind (f_X12_isLake x1 (z_sI m 13 0 0 (0 : Int32))) fun r1 =>
  if (z_bi r1.1) = 0 then
    Option.bind (f_X12_raises (1 : Int32) r1.2) fun r3 =>
    some (r3.1, r3.2)
  else
    Option.bind (f_X12_changes r1.2) fun r4 =>
    Option.bind (f_X12_volume x1 r4) fun r5 =>
    f_X12_fillLake_31 zF x1 r5 (0 : Int32) r4
theorem w_X12_fillLake_31 (d k : Nat) {o : zO} {G : Nat → Nat → zL → List zA → zM → Prop} (R : zRu (d + 5) tX12_fillLake 0 (z_hf []) o G) : ∀ (j : Nat) (x1 : Int32) (x2 : Int32) (x3 : Int32) (m : zM), zLK G (fun a => (z_cI a.1, a.2) : Int32 × zM → zO) o (f_X12_fillLake_31 j x1 x2 x3 m) some (k + 0) 31 [some (.inr (13, 0)), some (.inl (.int x1)), some (.inl (.int x2)), some (.inl (.int x3))] [] m := by
  intro j
  induction j with
  | zero =>
    intro _ _ _ _
    exact zk_none
  | succ j ih =>
    intro x1 x2 x3 m
    unfold f_X12_fillLake_31
    refine zk_st R 2 33 [some (.inr (13, 0)), some (.inl (.int x1)), some (.inl (.int x2)), some (.inl (.int x3))] [.inr (13, 0), .inl (.int x3)] m rfl ⟨trivial, trivial, trivial⟩ ?_
    refine zk_call R (fun b => some (.inl (.int b))) (fun _ => m) rfl (r_X12_cells (Nat.le_of_ble_eq_true rfl)) (fun b hb => w_X12_cells (d + 4) 0 m b hb) (fun r1 => ?_)
    refine zk_br R rfl (fun _ => ?_) (fun _ => ?_)
    · refine zk_st R 1 70 [some (.inr (13, 0)), some (.inl (.int x1)), some (.inl (.int x2)), some (.inl (.int x3))] [.inl (.int x2)] m rfl ⟨trivial, trivial⟩ ?_
      exact zk_ret R rfl trivial rfl
    · refine zk_gd fun e3 => ?_
      refine zk_st R 5 46 [some (.inr (13, 0)), some (.inl (.int x1)), some (.inl (.int x2)), some (.inl (.int x3))] [.inl (.int x1), .inl (.int (m.1 20 65 (Int32.toNatClampNeg x3)))] m rfl ⟨trivial, (Nat.le_of_ble_eq_true rfl), trivial, ⟨(Nat.le_of_ble_eq_true rfl), z_inb_in e3⟩, trivial, trivial⟩ ?_
      refine zk_br R rfl (fun _ => ?_) (fun _ => ?_)
      · refine zk_gd fun e5 => ?_
        refine zk_gd fun e6 => ?_
        refine zk_st R 12 31 [some (.inr (13, 0)), some (.inl (.int x1)), some (.inl (.int x2)), some (.inl (.int (x3 + (1 : Int32))))] [] (z_sI m 23 0 (Int32.toNatClampNeg ((3 : Int32) + x3)) (m.1 20 59 (Int32.toNatClampNeg x3))) rfl ⟨trivial, (Nat.le_of_ble_eq_true rfl), trivial, trivial, trivial, trivial, (Nat.le_of_ble_eq_true rfl), trivial, ⟨(Nat.le_of_ble_eq_true rfl), z_inb_in e5⟩, ⟨(Nat.le_of_ble_eq_true rfl), z_inb_in e6⟩, trivial, trivial, trivial⟩ ?_
        refine zk_mask R [true, true, true, true] rfl ?_
        exact ih x1 x2 (x3 + (1 : Int32)) (z_sI m 23 0 (Int32.toNatClampNeg ((3 : Int32) + x3)) (m.1 20 59 (Int32.toNatClampNeg x3)))
      · refine zk_st R 2 31 [some (.inr (13, 0)), some (.inl (.int x1)), some (.inl (.int x2)), some (.inl (.int (x3 + (1 : Int32))))] [] m rfl ⟨trivial, trivial, trivial⟩ ?_
        refine zk_mask R [true, true, true, true] rfl ?_
        exact ih x1 x2 (x3 + (1 : Int32)) m
theorem w_X12_fillLake (d k : Nat) (x1 : Int32) (m : zM) (a : Int32 × zM) (ha : f_X12_fillLake x1 m = some a) : z_Ev z_MT zN zRf (d + 6) (k + 0) 210 [.inr (13, 0), .inl (.int x1)] m ((fun a => (z_cI a.1, a.2) : Int32 × zM → zO) a) := by
  refine zk_top (I := (yX12_fillLake, cX12_fillLake, 4, (some .int), [], tX12_fillLake, 13, 1, 13, 0, 0, 0)) (oc := (fun a => (z_cI a.1, a.2) : Int32 × zM → zO)) (a := a) rfl (Nat.le_of_ble_eq_true rfl) (fun G R => ?_) ha
  unfold f_X12_fillLake
  refine zk_st R 5 7 [some (.inr (13, 0)), some (.inl (.int x1)), none, none] [.inl (.int x1), .inr (13, 0)] (z_sI m 13 0 0 (0 : Int32)) rfl ⟨trivial, trivial, (Nat.le_of_ble_eq_true rfl), trivial, trivial, trivial⟩ ?_
  refine zk_call R (fun b => some (.inl (.int (z_bi b.1)))) (fun b => b.2) rfl (r_X12_isLake (Nat.le_of_ble_eq_true rfl)) (fun b hb => w_X12_isLake d 0 x1 (z_sI m 13 0 0 (0 : Int32)) b hb) (fun r1 => ?_)
  refine zk_br R rfl (fun _ => ?_) (fun _ => ?_)
  · refine zk_st R 2 15 [some (.inr (13, 0)), some (.inl (.int x1)), none, none] [.inl (.int (1 : Int32)), .inr (13, 0)] r1.2 rfl ⟨trivial, trivial, trivial⟩ ?_
    refine zk_call R (fun b => some (.inl (.int b.1))) (fun b => b.2) rfl (r_X12_raises (Nat.le_of_ble_eq_true rfl)) (fun b hb => w_X12_raises (d + 4) 0 (1 : Int32) r1.2 b hb) (fun r3 => ?_)
    exact zk_ret R rfl trivial rfl
  · refine zk_st R 1 20 [some (.inr (13, 0)), some (.inl (.int x1)), none, none] [.inr (13, 0)] r1.2 rfl ⟨trivial, trivial⟩ ?_
    refine zk_call R (fun _ => none) id rfl (r_X12_changes (Nat.le_of_ble_eq_true rfl)) (fun b hb => w_X12_changes (d + 4) 0 r1.2 b hb) (fun r4 => ?_)
    refine zk_st R 2 25 [some (.inr (13, 0)), some (.inl (.int x1)), none, none] [.inl (.int x1), .inr (13, 0)] r4 rfl ⟨trivial, trivial, trivial⟩ ?_
    refine zk_call R (fun b => some (.inl (.int b))) (fun _ => r4) rfl (r_X12_volume (Nat.le_of_ble_eq_true rfl)) (fun b hb => w_X12_volume (d + 2) 0 x1 r4 b hb) (fun r5 => ?_)
    refine zk_st R 3 31 [some (.inr (13, 0)), some (.inl (.int x1)), some (.inl (.int r5)), some (.inl (.int (0 : Int32)))] [] r4 rfl ⟨trivial, trivial, trivial, trivial⟩ ?_
    refine zk_mask R [true, true, true, true] rfl ?_
    exact w_X12_fillLake_31 d k R zF x1 r5 (0 : Int32) r4
theorem r_X12_carveLake {i : Nat} {t : List zA} (h : i < zN 13) : z_rcv zN (zKD 211) (.inr (13, i) :: t) := by
  rw [show zKD 211 = 13 from rfl]
  exact ⟨rfl, h⟩
noncomputable def f_X12_carveLake_36 : Nat → Int32 → Int32 → zM → Option (Int32 × zM)
  | 0, _, _, _ => none
  | j + 1, x2, x3, m =>
    if (m.1 13 0 29) ≤ x3 then
      some (x2, m)
    else
      z_gd (z_inb x3 (z_alen 27)) <| Option.bind (f_X12_height (m.1 27 0 (Int32.toNatClampNeg x3)) m) fun r3 =>
      z_gd (z_inb (x3 - (1 : Int32)) (z_alen 27)) <| Option.bind (f_X12_height (m.1 27 0 (Int32.toNatClampNeg (x3 - (1 : Int32)))) m) fun r5 =>
      if r5 < r3 then
        z_gd (z_inb x3 (z_alen 27)) <| z_gd (z_inb (x3 - (1 : Int32)) (z_alen 27)) <| Option.bind (f_X12_height (m.1 27 0 (Int32.toNatClampNeg (x3 - (1 : Int32)))) m) fun r9 =>
        z_gd (z_inb ((3 : Int32) + (m.1 27 0 (Int32.toNatClampNeg x3))) (z_alen 23)) <| f_X12_carveLake_36 j (x2 + (1 : Int32)) (x3 + (1 : Int32)) (z_sI m 23 0 (Int32.toNatClampNeg ((3 : Int32) + (m.1 27 0 (Int32.toNatClampNeg x3)))) r9)
      else
        f_X12_carveLake_36 j x2 (x3 + (1 : Int32)) m
noncomputable def f_X12_carveLake (x1 : Int32) (m : zM) : Option (Int32 × zM) :=
  Option.bind (f_X12_isLake x1 (z_sI m 13 0 0 (0 : Int32))) fun r1 =>
  if (z_bi r1.1) = 0 then
    Option.bind (f_X12_raises (1 : Int32) r1.2) fun r3 =>
    some (r3.1, r3.2)
  else
    Option.bind (f_X12_changes r1.2) fun r4 =>
    Option.bind (f_X12_bottom x1 r4) fun r5 =>
    Option.bind (f_X12_bestWay r5 r4) fun r6 =>
    f_X12_carveLake_36 zF (0 : Int32) (1 : Int32) r6
theorem w_X12_carveLake_36 (d k : Nat) {o : zO} {G : Nat → Nat → zL → List zA → zM → Prop} (R : zRu (d + 5) tX12_carveLake 0 (z_hf []) o G) : ∀ (j : Nat) (x2 : Int32) (x3 : Int32) (m : zM), zLK G (fun a => (z_cI a.1, a.2) : Int32 × zM → zO) o (f_X12_carveLake_36 j x2 x3 m) some (k + 0) 36 [some (.inr (13, 0)), none, some (.inl (.int x2)), some (.inl (.int x3))] [] m := by
  intro j
  induction j with
  | zero =>
    intro _ _ _
    exact zk_none
  | succ j ih =>
    intro x2 x3 m
    unfold f_X12_carveLake_36
    refine zk_st R 3 41 [some (.inr (13, 0)), none, some (.inl (.int x2)), some (.inl (.int x3))] [.inl (.int (m.1 13 0 29)), .inl (.int x3)] m rfl ⟨trivial, trivial, (Nat.le_of_ble_eq_true rfl), trivial⟩ ?_
    refine zk_br R rfl (fun _ => ?_) (fun _ => ?_)
    · refine zk_st R 1 107 [some (.inr (13, 0)), none, some (.inl (.int x2)), some (.inl (.int x3))] [.inl (.int x2)] m rfl ⟨trivial, trivial⟩ ?_
      exact zk_ret R rfl trivial rfl
    · refine zk_gd fun e2 => ?_
      refine zk_st R 5 51 [some (.inr (13, 0)), none, some (.inl (.int x2)), some (.inl (.int x3))] [.inl (.int (m.1 27 0 (Int32.toNatClampNeg x3))), .inr (13, 0)] m rfl ⟨trivial, trivial, (Nat.le_of_ble_eq_true rfl), trivial, ⟨(Nat.le_of_ble_eq_true rfl), z_inb_in e2⟩, trivial⟩ ?_
      refine zk_call R (fun b => some (.inl (.int b))) (fun _ => m) rfl (r_X12_height (Nat.le_of_ble_eq_true rfl)) (fun b hb => w_X12_height (d + 4) 0 (m.1 27 0 (Int32.toNatClampNeg x3)) m b hb) (fun r3 => ?_)
      refine zk_gd fun e4 => ?_
      refine zk_st R 7 63 [some (.inr (13, 0)), none, some (.inl (.int x2)), some (.inl (.int x3))] [.inl (.int (m.1 27 0 (Int32.toNatClampNeg (x3 - (1 : Int32))))), .inr (13, 0), .inl (.int r3)] m rfl ⟨trivial, trivial, (Nat.le_of_ble_eq_true rfl), trivial, trivial, trivial, ⟨(Nat.le_of_ble_eq_true rfl), z_inb_in e4⟩, trivial⟩ ?_
      refine zk_call R (fun b => some (.inl (.int b))) (fun _ => m) rfl (r_X12_height (Nat.le_of_ble_eq_true rfl)) (fun b hb => w_X12_height (d + 4) 0 (m.1 27 0 (Int32.toNatClampNeg (x3 - (1 : Int32)))) m b hb) (fun r5 => ?_)
      refine zk_br R rfl (fun _ => ?_) (fun _ => ?_)
      · refine zk_gd fun e7 => ?_
        refine zk_gd fun e8 => ?_
        refine zk_st R 15 93 [some (.inr (13, 0)), none, some (.inl (.int x2)), some (.inl (.int x3))] [.inl (.int (m.1 27 0 (Int32.toNatClampNeg (x3 - (1 : Int32))))), .inr (13, 0), .inl (.int ((3 : Int32) + (m.1 27 0 (Int32.toNatClampNeg x3)))), .inr (23, 0)] m rfl ⟨trivial, (Nat.le_of_ble_eq_true rfl), trivial, trivial, (Nat.le_of_ble_eq_true rfl), trivial, ⟨(Nat.le_of_ble_eq_true rfl), z_inb_in e7⟩, trivial, trivial, trivial, (Nat.le_of_ble_eq_true rfl), trivial, trivial, trivial, ⟨(Nat.le_of_ble_eq_true rfl), z_inb_in e8⟩, trivial⟩ ?_
        refine zk_call R (fun b => some (.inl (.int b))) (fun _ => m) rfl (r_X12_height (Nat.le_of_ble_eq_true rfl)) (fun b hb => w_X12_height (d + 4) 0 (m.1 27 0 (Int32.toNatClampNeg (x3 - (1 : Int32)))) m b hb) (fun r9 => ?_)
        refine zk_gd fun e10 => ?_
        refine zk_st R 4 36 [some (.inr (13, 0)), none, some (.inl (.int (x2 + (1 : Int32)))), some (.inl (.int (x3 + (1 : Int32))))] [] (z_sI m 23 0 (Int32.toNatClampNeg ((3 : Int32) + (m.1 27 0 (Int32.toNatClampNeg x3)))) r9) rfl ⟨⟨(Nat.le_of_ble_eq_true rfl), z_inb_in e10⟩, trivial, trivial, trivial, trivial⟩ ?_
        refine zk_mask R [true, false, true, true] rfl ?_
        exact ih (x2 + (1 : Int32)) (x3 + (1 : Int32)) (z_sI m 23 0 (Int32.toNatClampNeg ((3 : Int32) + (m.1 27 0 (Int32.toNatClampNeg x3)))) r9)
      · refine zk_st R 3 36 [some (.inr (13, 0)), none, some (.inl (.int x2)), some (.inl (.int (x3 + (1 : Int32))))] [] m rfl ⟨trivial, trivial, trivial, trivial⟩ ?_
        refine zk_mask R [true, false, true, true] rfl ?_
        exact ih x2 (x3 + (1 : Int32)) m
theorem w_X12_carveLake (d k : Nat) (x1 : Int32) (m : zM) (a : Int32 × zM) (ha : f_X12_carveLake x1 m = some a) : z_Ev z_MT zN zRf (d + 6) (k + 0) 211 [.inr (13, 0), .inl (.int x1)] m ((fun a => (z_cI a.1, a.2) : Int32 × zM → zO) a) := by
  refine zk_top (I := (yX12_carveLake, cX12_carveLake, 4, (some .int), [], tX12_carveLake, 13, 1, 13, 0, 0, 0)) (oc := (fun a => (z_cI a.1, a.2) : Int32 × zM → zO)) (a := a) rfl (Nat.le_of_ble_eq_true rfl) (fun G R => ?_) ha
  unfold f_X12_carveLake
  refine zk_st R 5 7 [some (.inr (13, 0)), some (.inl (.int x1)), none, none] [.inl (.int x1), .inr (13, 0)] (z_sI m 13 0 0 (0 : Int32)) rfl ⟨trivial, trivial, (Nat.le_of_ble_eq_true rfl), trivial, trivial, trivial⟩ ?_
  refine zk_call R (fun b => some (.inl (.int (z_bi b.1)))) (fun b => b.2) rfl (r_X12_isLake (Nat.le_of_ble_eq_true rfl)) (fun b hb => w_X12_isLake d 0 x1 (z_sI m 13 0 0 (0 : Int32)) b hb) (fun r1 => ?_)
  refine zk_br R rfl (fun _ => ?_) (fun _ => ?_)
  · refine zk_st R 2 15 [some (.inr (13, 0)), some (.inl (.int x1)), none, none] [.inl (.int (1 : Int32)), .inr (13, 0)] r1.2 rfl ⟨trivial, trivial, trivial⟩ ?_
    refine zk_call R (fun b => some (.inl (.int b.1))) (fun b => b.2) rfl (r_X12_raises (Nat.le_of_ble_eq_true rfl)) (fun b hb => w_X12_raises (d + 4) 0 (1 : Int32) r1.2 b hb) (fun r3 => ?_)
    exact zk_ret R rfl trivial rfl
  · refine zk_st R 1 20 [some (.inr (13, 0)), some (.inl (.int x1)), none, none] [.inr (13, 0)] r1.2 rfl ⟨trivial, trivial⟩ ?_
    refine zk_call R (fun _ => none) id rfl (r_X12_changes (Nat.le_of_ble_eq_true rfl)) (fun b hb => w_X12_changes (d + 4) 0 r1.2 b hb) (fun r4 => ?_)
    refine zk_st R 3 26 [some (.inr (13, 0)), some (.inl (.int x1)), none, none] [.inl (.int x1), .inr (13, 0), .inr (13, 0)] r4 rfl ⟨trivial, trivial, trivial, trivial⟩ ?_
    refine zk_call R (fun b => some (.inl (.int b))) (fun _ => r4) rfl (r_X12_bottom (Nat.le_of_ble_eq_true rfl)) (fun b hb => w_X12_bottom (d + 3) 0 x1 r4 b hb) (fun r5 => ?_)
    refine zk_call R (fun _ => none) id rfl (r_X12_bestWay (Nat.le_of_ble_eq_true rfl)) (fun b hb => w_X12_bestWay (d + 1) 0 r5 r4 b hb) (fun r6 => ?_)
    refine zk_st R 4 36 [some (.inr (13, 0)), some (.inl (.int x1)), some (.inl (.int (0 : Int32))), some (.inl (.int (1 : Int32)))] [] r6 rfl ⟨trivial, trivial, trivial, trivial, trivial⟩ ?_
    refine zk_mask R [true, false, true, true] rfl ?_
    exact w_X12_carveLake_36 d k R zF (0 : Int32) (1 : Int32) r6
theorem r_X12_account {i : Nat} {t : List zA} (h : i < zN 13) : z_rcv zN (zKD 222) (.inr (13, i) :: t) := by
  rw [show zKD 222 = 13 from rfl]
  exact ⟨rfl, h⟩
noncomputable def f_X12_account_101 (c51 : Int32 → Int32 → Int32 → zM → Option (Int32 × zM)) (x1 : Int32) (x2 : Int32) (x3 : Int32) (m : zM) : Option (Int32 × zM) :=
  if x1 = (5 : Int32) then
    z_gd (z_inb x3 (z_alen 20)) <| Option.bind (f_J9_max_7cf53 x2 (m.1 20 63 (Int32.toNatClampNeg x3)) m) fun r3 =>
    c51 x1 r3 (x3 + (1 : Int32)) m
  else
    c51 x1 x2 (x3 + (1 : Int32)) m
noncomputable def f_X12_account_88 (c51 : Int32 → Int32 → Int32 → zM → Option (Int32 × zM)) (x1 : Int32) (x2 : Int32) (x3 : Int32) (m : zM) : Option (Int32 × zM) :=
  if x1 = (4 : Int32) then
    Option.bind (f_X12_height x3 m) fun r2 =>
    f_X12_account_101 c51 x1 (x2 + r2) x3 m
  else
    f_X12_account_101 c51 x1 x2 x3 m
noncomputable def f_X12_account_75 (c51 : Int32 → Int32 → Int32 → zM → Option (Int32 × zM)) (x1 : Int32) (x2 : Int32) (x3 : Int32) (m : zM) : Option (Int32 × zM) :=
  if x1 = (2 : Int32) then
    Option.bind (f_X12_soaks x3 m) fun r2 =>
    f_X12_account_88 c51 x1 (x2 + r2) x3 m
  else
    f_X12_account_88 c51 x1 x2 x3 m
noncomputable def f_X12_account_51 : Nat → Int32 → Int32 → Int32 → zM → Option (Int32 × zM)
  | 0, _, _, _, _ => none
  | j + 1, x1, x2, x3, m =>
    Option.bind (f_X12_cells m) fun r1 =>
    if r1 ≤ x3 then
      some (x2, m)
    else
      if x1 = 0 then
        z_gd (z_inb ((67 : Int32) + x3) (z_alen 23)) <| f_X12_account_75 (f_X12_account_51 j) x1 (x2 + (m.1 23 0 (Int32.toNatClampNeg ((67 : Int32) + x3)))) x3 m
      else
        f_X12_account_75 (f_X12_account_51 j) x1 x2 x3 m
noncomputable def f_X12_account (x1 : Int32) (m : zM) : Option (Int32 × zM) :=
  Option.bind (f_X12_in (Int32.toInt64 x1) (0 : Int64) (5 : Int64) (z_sI m 13 0 0 (0 : Int32))) fun r1 =>
  if (z_bi r1) = 0 then
    Option.bind (f_X12_raises (1 : Int32) (z_sI m 13 0 0 (0 : Int32))) fun r3 =>
    some (r3.1, r3.2)
  else
    if x1 = (1 : Int32) then
      Option.bind (f_X12_leaves (z_sI m 13 0 0 (0 : Int32))) fun r5 =>
      some (r5.1, r5.2)
    else
      if x1 = (3 : Int32) then
        Option.bind (f_X12_depths (z_sI m 13 0 0 (0 : Int32))) fun r7 =>
        some (r7.1, r7.2)
      else
        Option.bind (f_X12_waters (z_sI m 13 0 0 (0 : Int32))) fun r8 =>
        f_X12_account_51 zF x1 (0 : Int32) (0 : Int32) r8
theorem w_X12_account_101 (d k : Nat) {o : zO} {G : Nat → Nat → zL → List zA → zM → Prop} (R : zRu (d + 5) tX12_account 0 (z_hf []) o G) (c51 : Int32 → Int32 → Int32 → zM → Option (Int32 × zM)) (hc51 : ∀ (x1 : Int32) (x2 : Int32) (x3 : Int32) (m : zM), zLK G (fun a => (z_cI a.1, a.2) : Int32 × zM → zO) o (c51 x1 x2 x3 m) some (k + 0) 51 [some (.inr (13, 0)), some (.inl (.int x1)), some (.inl (.int x2)), some (.inl (.int x3))] [] m) (x1 : Int32) (x2 : Int32) (x3 : Int32) (m : zM) : zLK G (fun a => (z_cI a.1, a.2) : Int32 × zM → zO) o (f_X12_account_101 c51 x1 x2 x3 m) some (k + 0) 101 [some (.inr (13, 0)), some (.inl (.int x1)), some (.inl (.int x2)), some (.inl (.int x3))] [] m := by
  unfold f_X12_account_101
  refine zk_st R 2 103 [some (.inr (13, 0)), some (.inl (.int x1)), some (.inl (.int x2)), some (.inl (.int x3))] [.inl (.int (5 : Int32)), .inl (.int x1)] m rfl ⟨trivial, trivial, trivial⟩ ?_
  refine zk_br R rfl (fun _ => ?_) (fun _ => ?_)
  · refine zk_gd fun e2 => ?_
    refine zk_st R 5 113 [some (.inr (13, 0)), some (.inl (.int x1)), some (.inl (.int x2)), some (.inl (.int x3))] [.inl (.int (m.1 20 63 (Int32.toNatClampNeg x3))), .inl (.int x2)] m rfl ⟨trivial, trivial, (Nat.le_of_ble_eq_true rfl), trivial, ⟨(Nat.le_of_ble_eq_true rfl), z_inb_in e2⟩, trivial⟩ ?_
    refine zk_call R (fun b => some (.inl (.int b))) (fun _ => m) rfl (r_J9_max_7cf53) (fun b hb => w_J9_max_7cf53 (d + 4) 0 x2 (m.1 20 63 (Int32.toNatClampNeg x3)) m b hb) (fun r3 => ?_)
    refine zk_st R 3 51 [some (.inr (13, 0)), some (.inl (.int x1)), some (.inl (.int r3)), some (.inl (.int (x3 + (1 : Int32))))] [] m rfl ⟨trivial, trivial, trivial, trivial⟩ ?_
    refine zk_mask R [true, true, true, true] rfl ?_
    exact hc51 x1 r3 (x3 + (1 : Int32)) m
  · refine zk_st R 2 51 [some (.inr (13, 0)), some (.inl (.int x1)), some (.inl (.int x2)), some (.inl (.int (x3 + (1 : Int32))))] [] m rfl ⟨trivial, trivial, trivial⟩ ?_
    refine zk_mask R [true, true, true, true] rfl ?_
    exact hc51 x1 x2 (x3 + (1 : Int32)) m
theorem w_X12_account_88 (d k : Nat) {o : zO} {G : Nat → Nat → zL → List zA → zM → Prop} (R : zRu (d + 5) tX12_account 0 (z_hf []) o G) (c51 : Int32 → Int32 → Int32 → zM → Option (Int32 × zM)) (hc51 : ∀ (x1 : Int32) (x2 : Int32) (x3 : Int32) (m : zM), zLK G (fun a => (z_cI a.1, a.2) : Int32 × zM → zO) o (c51 x1 x2 x3 m) some (k + 0) 51 [some (.inr (13, 0)), some (.inl (.int x1)), some (.inl (.int x2)), some (.inl (.int x3))] [] m) (x1 : Int32) (x2 : Int32) (x3 : Int32) (m : zM) : zLK G (fun a => (z_cI a.1, a.2) : Int32 × zM → zO) o (f_X12_account_88 c51 x1 x2 x3 m) some (k + 0) 88 [some (.inr (13, 0)), some (.inl (.int x1)), some (.inl (.int x2)), some (.inl (.int x3))] [] m := by
  unfold f_X12_account_88
  refine zk_st R 2 90 [some (.inr (13, 0)), some (.inl (.int x1)), some (.inl (.int x2)), some (.inl (.int x3))] [.inl (.int (4 : Int32)), .inl (.int x1)] m rfl ⟨trivial, trivial, trivial⟩ ?_
  refine zk_br R rfl (fun _ => ?_) (fun _ => ?_)
  · refine zk_st R 3 96 [some (.inr (13, 0)), some (.inl (.int x1)), some (.inl (.int x2)), some (.inl (.int x3))] [.inl (.int x3), .inr (13, 0), .inl (.int x2)] m rfl ⟨trivial, trivial, trivial, trivial⟩ ?_
    refine zk_call R (fun b => some (.inl (.int b))) (fun _ => m) rfl (r_X12_height (Nat.le_of_ble_eq_true rfl)) (fun b hb => w_X12_height (d + 4) 0 x3 m b hb) (fun r2 => ?_)
    refine zk_st R 2 101 [some (.inr (13, 0)), some (.inl (.int x1)), some (.inl (.int (x2 + r2))), some (.inl (.int x3))] [] m rfl ⟨trivial, trivial, trivial⟩ ?_
    refine zk_mask R [true, true, true, true] rfl ?_
    exact w_X12_account_101 d k R c51 hc51 x1 (x2 + r2) x3 m
  · refine zk_mask R [true, true, true, true] rfl ?_
    exact w_X12_account_101 d k R c51 hc51 x1 x2 x3 m
theorem w_X12_account_75 (d k : Nat) {o : zO} {G : Nat → Nat → zL → List zA → zM → Prop} (R : zRu (d + 5) tX12_account 0 (z_hf []) o G) (c51 : Int32 → Int32 → Int32 → zM → Option (Int32 × zM)) (hc51 : ∀ (x1 : Int32) (x2 : Int32) (x3 : Int32) (m : zM), zLK G (fun a => (z_cI a.1, a.2) : Int32 × zM → zO) o (c51 x1 x2 x3 m) some (k + 0) 51 [some (.inr (13, 0)), some (.inl (.int x1)), some (.inl (.int x2)), some (.inl (.int x3))] [] m) (x1 : Int32) (x2 : Int32) (x3 : Int32) (m : zM) : zLK G (fun a => (z_cI a.1, a.2) : Int32 × zM → zO) o (f_X12_account_75 c51 x1 x2 x3 m) some (k + 0) 75 [some (.inr (13, 0)), some (.inl (.int x1)), some (.inl (.int x2)), some (.inl (.int x3))] [] m := by
  unfold f_X12_account_75
  refine zk_st R 2 77 [some (.inr (13, 0)), some (.inl (.int x1)), some (.inl (.int x2)), some (.inl (.int x3))] [.inl (.int (2 : Int32)), .inl (.int x1)] m rfl ⟨trivial, trivial, trivial⟩ ?_
  refine zk_br R rfl (fun _ => ?_) (fun _ => ?_)
  · refine zk_st R 3 83 [some (.inr (13, 0)), some (.inl (.int x1)), some (.inl (.int x2)), some (.inl (.int x3))] [.inl (.int x3), .inr (13, 0), .inl (.int x2)] m rfl ⟨trivial, trivial, trivial, trivial⟩ ?_
    refine zk_call R (fun b => some (.inl (.int b))) (fun _ => m) rfl (r_X12_soaks (Nat.le_of_ble_eq_true rfl)) (fun b hb => w_X12_soaks (d + 3) 0 x3 m b hb) (fun r2 => ?_)
    refine zk_st R 2 88 [some (.inr (13, 0)), some (.inl (.int x1)), some (.inl (.int (x2 + r2))), some (.inl (.int x3))] [] m rfl ⟨trivial, trivial, trivial⟩ ?_
    refine zk_mask R [true, true, true, true] rfl ?_
    exact w_X12_account_88 d k R c51 hc51 x1 (x2 + r2) x3 m
  · refine zk_mask R [true, true, true, true] rfl ?_
    exact w_X12_account_88 d k R c51 hc51 x1 x2 x3 m
theorem w_X12_account_51 (d k : Nat) {o : zO} {G : Nat → Nat → zL → List zA → zM → Prop} (R : zRu (d + 5) tX12_account 0 (z_hf []) o G) : ∀ (j : Nat) (x1 : Int32) (x2 : Int32) (x3 : Int32) (m : zM), zLK G (fun a => (z_cI a.1, a.2) : Int32 × zM → zO) o (f_X12_account_51 j x1 x2 x3 m) some (k + 0) 51 [some (.inr (13, 0)), some (.inl (.int x1)), some (.inl (.int x2)), some (.inl (.int x3))] [] m := by
  intro j
  induction j with
  | zero =>
    intro _ _ _ _
    exact zk_none
  | succ j ih =>
    intro x1 x2 x3 m
    unfold f_X12_account_51
    refine zk_st R 2 53 [some (.inr (13, 0)), some (.inl (.int x1)), some (.inl (.int x2)), some (.inl (.int x3))] [.inr (13, 0), .inl (.int x3)] m rfl ⟨trivial, trivial, trivial⟩ ?_
    refine zk_call R (fun b => some (.inl (.int b))) (fun _ => m) rfl (r_X12_cells (Nat.le_of_ble_eq_true rfl)) (fun b hb => w_X12_cells (d + 4) 0 m b hb) (fun r1 => ?_)
    refine zk_br R rfl (fun _ => ?_) (fun _ => ?_)
    · refine zk_st R 1 124 [some (.inr (13, 0)), some (.inl (.int x1)), some (.inl (.int x2)), some (.inl (.int x3))] [.inl (.int x2)] m rfl ⟨trivial, trivial⟩ ?_
      exact zk_ret R rfl trivial rfl
    · refine zk_st R 1 60 [some (.inr (13, 0)), some (.inl (.int x1)), some (.inl (.int x2)), some (.inl (.int x3))] [.inl (.int x1)] m rfl ⟨trivial, trivial⟩ ?_
      refine zk_br R rfl (fun _ => ?_) (fun _ => ?_)
      · refine zk_gd fun e4 => ?_
        refine zk_st R 9 75 [some (.inr (13, 0)), some (.inl (.int x1)), some (.inl (.int (x2 + (m.1 23 0 (Int32.toNatClampNeg ((67 : Int32) + x3)))))), some (.inl (.int x3))] [] m rfl ⟨trivial, trivial, (Nat.le_of_ble_eq_true rfl), trivial, trivial, trivial, ⟨(Nat.le_of_ble_eq_true rfl), z_inb_in e4⟩, trivial, trivial, trivial⟩ ?_
        refine zk_mask R [true, true, true, true] rfl ?_
        exact w_X12_account_75 d k R (f_X12_account_51 j) ih x1 (x2 + (m.1 23 0 (Int32.toNatClampNeg ((67 : Int32) + x3)))) x3 m
      · refine zk_mask R [true, true, true, true] rfl ?_
        exact w_X12_account_75 d k R (f_X12_account_51 j) ih x1 x2 x3 m
theorem w_X12_account (d k : Nat) (x1 : Int32) (m : zM) (a : Int32 × zM) (ha : f_X12_account x1 m = some a) : z_Ev z_MT zN zRf (d + 6) (k + 0) 222 [.inr (13, 0), .inl (.int x1)] m ((fun a => (z_cI a.1, a.2) : Int32 × zM → zO) a) := by
  refine zk_top (I := (yX12_account, cX12_account, 4, (some .int), [], tX12_account, 13, 1, 13, 0, 0, 0)) (oc := (fun a => (z_cI a.1, a.2) : Int32 × zM → zO)) (a := a) rfl (Nat.le_of_ble_eq_true rfl) (fun G R => ?_) ha
  unfold f_X12_account
  refine zk_st R 7 11 [some (.inr (13, 0)), some (.inl (.int x1)), none, none] [.inl (.long (5 : Int64)), .inl (.long (0 : Int64)), .inl (.long (Int32.toInt64 x1))] (z_sI m 13 0 0 (0 : Int32)) rfl ⟨trivial, trivial, (Nat.le_of_ble_eq_true rfl), trivial, trivial, trivial, trivial, trivial⟩ ?_
  refine zk_call R (fun b => some (.inl (.int (z_bi b)))) (fun _ => (z_sI m 13 0 0 (0 : Int32))) rfl (r_X12_in) (fun b hb => w_X12_in (d + 4) 0 (Int32.toInt64 x1) (0 : Int64) (5 : Int64) (z_sI m 13 0 0 (0 : Int32)) b hb) (fun r1 => ?_)
  refine zk_br R rfl (fun _ => ?_) (fun _ => ?_)
  · refine zk_st R 2 19 [some (.inr (13, 0)), some (.inl (.int x1)), none, none] [.inl (.int (1 : Int32)), .inr (13, 0)] (z_sI m 13 0 0 (0 : Int32)) rfl ⟨trivial, trivial, trivial⟩ ?_
    refine zk_call R (fun b => some (.inl (.int b.1))) (fun b => b.2) rfl (r_X12_raises (Nat.le_of_ble_eq_true rfl)) (fun b hb => w_X12_raises (d + 4) 0 (1 : Int32) (z_sI m 13 0 0 (0 : Int32)) b hb) (fun r3 => ?_)
    exact zk_ret R rfl trivial rfl
  · refine zk_st R 2 25 [some (.inr (13, 0)), some (.inl (.int x1)), none, none] [.inl (.int (1 : Int32)), .inl (.int x1)] (z_sI m 13 0 0 (0 : Int32)) rfl ⟨trivial, trivial, trivial⟩ ?_
    refine zk_br R rfl (fun _ => ?_) (fun _ => ?_)
    · refine zk_st R 1 29 [some (.inr (13, 0)), some (.inl (.int x1)), none, none] [.inr (13, 0)] (z_sI m 13 0 0 (0 : Int32)) rfl ⟨trivial, trivial⟩ ?_
      refine zk_call R (fun b => some (.inl (.int b.1))) (fun b => b.2) rfl (r_X12_leaves (Nat.le_of_ble_eq_true rfl)) (fun b hb => w_X12_leaves d 0 (z_sI m 13 0 0 (0 : Int32)) b hb) (fun r5 => ?_)
      exact zk_ret R rfl trivial rfl
    · refine zk_st R 2 35 [some (.inr (13, 0)), some (.inl (.int x1)), none, none] [.inl (.int (3 : Int32)), .inl (.int x1)] (z_sI m 13 0 0 (0 : Int32)) rfl ⟨trivial, trivial, trivial⟩ ?_
      refine zk_br R rfl (fun _ => ?_) (fun _ => ?_)
      · refine zk_st R 1 39 [some (.inr (13, 0)), some (.inl (.int x1)), none, none] [.inr (13, 0)] (z_sI m 13 0 0 (0 : Int32)) rfl ⟨trivial, trivial⟩ ?_
        refine zk_call R (fun b => some (.inl (.int b.1))) (fun b => b.2) rfl (r_X12_depths (Nat.le_of_ble_eq_true rfl)) (fun b hb => w_X12_depths (d + 2) 0 (z_sI m 13 0 0 (0 : Int32)) b hb) (fun r7 => ?_)
        exact zk_ret R rfl trivial rfl
      · refine zk_st R 1 44 [some (.inr (13, 0)), some (.inl (.int x1)), none, none] [.inr (13, 0)] (z_sI m 13 0 0 (0 : Int32)) rfl ⟨trivial, trivial⟩ ?_
        refine zk_call R (fun _ => none) id rfl (r_X12_waters (Nat.le_of_ble_eq_true rfl)) (fun b hb => w_X12_waters (d + 1) 0 (z_sI m 13 0 0 (0 : Int32)) b hb) (fun r8 => ?_)
        refine zk_st R 4 51 [some (.inr (13, 0)), some (.inl (.int x1)), some (.inl (.int (0 : Int32))), some (.inl (.int (0 : Int32)))] [] r8 rfl ⟨trivial, trivial, trivial, trivial, trivial⟩ ?_
        refine zk_mask R [true, true, true, true] rfl ?_
        exact w_X12_account_51 d k R zF x1 (0 : Int32) (0 : Int32) r8
theorem r_X12_order {i : Nat} {t : List zA} (h : i < zN 13) : z_rcv zN (zKD 223) (.inr (13, i) :: t) := by
  rw [show zKD 223 = 13 from rfl]
  exact ⟨rfl, h⟩
noncomputable def f_X12_order (x1 : Int32) (m : zM) : Option (Int32 × zM) :=
  Option.bind (f_X12_isCell x1 (z_sI m 13 0 0 (0 : Int32))) fun r1 =>
  if (z_bi r1) = 0 then
    Option.bind (f_X12_raises (1 : Int32) (z_sI m 13 0 0 (0 : Int32))) fun r3 =>
    some (r3.1, r3.2)
  else
    Option.bind (f_X12_streams (z_sI m 13 0 0 (0 : Int32))) fun r4 =>
    z_gd (z_inb x1 (z_alen 20)) <| some ((r4.1 20 64 (Int32.toNatClampNeg x1)), r4)
theorem w_X12_order (d k : Nat) (x1 : Int32) (m : zM) (a : Int32 × zM) (ha : f_X12_order x1 m = some a) : z_Ev z_MT zN zRf (d + 6) (k + 0) 223 [.inr (13, 0), .inl (.int x1)] m ((fun a => (z_cI a.1, a.2) : Int32 × zM → zO) a) := by
  refine zk_top (I := (yX12_order, cX12_order, 2, (some .int), [], tX12_order, 13, 1, 13, 0, 0, 0)) (oc := (fun a => (z_cI a.1, a.2) : Int32 × zM → zO)) (a := a) rfl (Nat.le_of_ble_eq_true rfl) (fun G R => ?_) ha
  unfold f_X12_order
  refine zk_st R 5 7 [some (.inr (13, 0)), some (.inl (.int x1))] [.inl (.int x1), .inr (13, 0)] (z_sI m 13 0 0 (0 : Int32)) rfl ⟨trivial, trivial, (Nat.le_of_ble_eq_true rfl), trivial, trivial, trivial⟩ ?_
  refine zk_call R (fun b => some (.inl (.int (z_bi b)))) (fun _ => (z_sI m 13 0 0 (0 : Int32))) rfl (r_X12_isCell (Nat.le_of_ble_eq_true rfl)) (fun b hb => w_X12_isCell (d + 3) 0 x1 (z_sI m 13 0 0 (0 : Int32)) b hb) (fun r1 => ?_)
  refine zk_br R rfl (fun _ => ?_) (fun _ => ?_)
  · refine zk_st R 2 15 [some (.inr (13, 0)), some (.inl (.int x1))] [.inl (.int (1 : Int32)), .inr (13, 0)] (z_sI m 13 0 0 (0 : Int32)) rfl ⟨trivial, trivial, trivial⟩ ?_
    refine zk_call R (fun b => some (.inl (.int b.1))) (fun b => b.2) rfl (r_X12_raises (Nat.le_of_ble_eq_true rfl)) (fun b hb => w_X12_raises (d + 4) 0 (1 : Int32) (z_sI m 13 0 0 (0 : Int32)) b hb) (fun r3 => ?_)
    exact zk_ret R rfl trivial rfl
  · refine zk_st R 1 20 [some (.inr (13, 0)), some (.inl (.int x1))] [.inr (13, 0)] (z_sI m 13 0 0 (0 : Int32)) rfl ⟨trivial, trivial⟩ ?_
    refine zk_call R (fun _ => none) id rfl (r_X12_streams (Nat.le_of_ble_eq_true rfl)) (fun b hb => w_X12_streams d 0 (z_sI m 13 0 0 (0 : Int32)) b hb) (fun r4 => ?_)
    refine zk_gd fun e5 => ?_
    refine zk_st R 4 29 [some (.inr (13, 0)), some (.inl (.int x1))] [.inl (.int (r4.1 20 64 (Int32.toNatClampNeg x1)))] r4 rfl ⟨trivial, (Nat.le_of_ble_eq_true rfl), trivial, ⟨(Nat.le_of_ble_eq_true rfl), z_inb_in e5⟩, trivial⟩ ?_
    exact zk_ret R rfl trivial rfl
theorem r_X12_reach {i : Nat} {t : List zA} (h : i < zN 13) : z_rcv zN (zKD 226) (.inr (13, i) :: t) := by
  rw [show zKD 226 = 13 from rfl]
  exact ⟨rfl, h⟩
noncomputable def f_X12_reach_85 : Nat → Int32 → Int32 → Int32 → zM → Option (Int32 × zM)
  | 0, _, _, _, _ => none
  | j + 1, x1, x3, x4, m =>
    Option.bind (f_X12_cells m) fun r1 =>
    if r1 ≤ x4 then
      some (x3, m)
    else
      z_gd (z_inb x4 (z_alen 20)) <| if (m.1 20 65 (Int32.toNatClampNeg x4)) = x1 then
        f_X12_reach_85 j x1 (x3 + (1 : Int32)) (x4 + (1 : Int32)) m
      else
        f_X12_reach_85 j x1 x3 (x4 + (1 : Int32)) m
noncomputable def f_X12_reach (x1 : Int32) (x2 : Int32) (m : zM) : Option (Int32 × zM) :=
  Option.bind (f_X12_streams (z_sI m 13 0 0 (0 : Int32))) fun r1 =>
  Option.bind (f_X12_in (Int32.toInt64 x1) (0 : Int64) (Int32.toInt64 ((r1.1 13 0 18) - (1 : Int32))) r1) fun r2 =>
  if (z_bi r2) = 0 then
    Option.bind (f_X12_raises (1 : Int32) r1) fun r4 =>
    some (r4.1, r4.2)
  else
    if x2 = (0 : Int32) then
      Option.bind (f_X12_head x1 r1) fun r6 =>
      some (r6, r1)
    else if x2 = (1 : Int32) then
      Option.bind (f_X12_tail x1 r1) fun r8 =>
      some (r8, r1)
    else if x2 = (2 : Int32) then
      f_X12_reach_85 zF x1 (0 : Int32) (0 : Int32) r1
    else if x2 = (3 : Int32) then
      Option.bind (f_X12_head x1 r1) fun r11 =>
      z_gd (z_inb r11 (z_alen 20)) <| some ((r1.1 20 64 (Int32.toNatClampNeg r11)), r1)
    else if x2 = (4 : Int32) then
      Option.bind (f_X12_tail x1 r1) fun r14 =>
      Option.bind (f_X12_onward r14 r1) fun r15 =>
      if r15 < 0 then
        some ((-1 : Int32), r1)
      else
        z_gd (z_inb r15 (z_alen 20)) <| some ((r1.1 20 65 (Int32.toNatClampNeg r15)), r1)
    else
      Option.bind (f_X12_raises (2 : Int32) r1) fun r18 =>
      some (r18.1, r18.2)
theorem w_X12_reach_85 (d k : Nat) {o : zO} {G : Nat → Nat → zL → List zA → zM → Prop} (R : zRu (d + 5) tX12_reach 0 (z_hf []) o G) : ∀ (j : Nat) (x1 : Int32) (x3 : Int32) (x4 : Int32) (m : zM), zLK G (fun a => (z_cI a.1, a.2) : Int32 × zM → zO) o (f_X12_reach_85 j x1 x3 x4 m) some (k + 0) 85 [some (.inr (13, 0)), some (.inl (.int x1)), none, some (.inl (.int x3)), some (.inl (.int x4))] [] m := by
  intro j
  induction j with
  | zero =>
    intro _ _ _ _
    exact zk_none
  | succ j ih =>
    intro x1 x3 x4 m
    unfold f_X12_reach_85
    refine zk_st R 2 88 [some (.inr (13, 0)), some (.inl (.int x1)), none, some (.inl (.int x3)), some (.inl (.int x4))] [.inr (13, 0), .inl (.int x4)] m rfl ⟨trivial, trivial, trivial⟩ ?_
    refine zk_call R (fun b => some (.inl (.int b))) (fun _ => m) rfl (r_X12_cells (Nat.le_of_ble_eq_true rfl)) (fun b hb => w_X12_cells (d + 4) 0 m b hb) (fun r1 => ?_)
    refine zk_br R rfl (fun _ => ?_) (fun _ => ?_)
    · refine zk_st R 1 115 [some (.inr (13, 0)), some (.inl (.int x1)), none, some (.inl (.int x3)), some (.inl (.int x4))] [.inl (.int x3)] m rfl ⟨trivial, trivial⟩ ?_
      exact zk_ret R rfl trivial rfl
    · refine zk_gd fun e3 => ?_
      refine zk_st R 5 102 [some (.inr (13, 0)), some (.inl (.int x1)), none, some (.inl (.int x3)), some (.inl (.int x4))] [.inl (.int x1), .inl (.int (m.1 20 65 (Int32.toNatClampNeg x4)))] m rfl ⟨trivial, (Nat.le_of_ble_eq_true rfl), trivial, ⟨(Nat.le_of_ble_eq_true rfl), z_inb_in e3⟩, trivial, trivial⟩ ?_
      refine zk_br R rfl (fun _ => ?_) (fun _ => ?_)
      · refine zk_st R 3 85 [some (.inr (13, 0)), some (.inl (.int x1)), none, some (.inl (.int (x3 + (1 : Int32)))), some (.inl (.int (x4 + (1 : Int32))))] [] m rfl ⟨trivial, trivial, trivial, trivial⟩ ?_
        refine zk_mask R [true, true, false, true, true] rfl ?_
        exact ih x1 (x3 + (1 : Int32)) (x4 + (1 : Int32)) m
      · refine zk_st R 2 85 [some (.inr (13, 0)), some (.inl (.int x1)), none, some (.inl (.int x3)), some (.inl (.int (x4 + (1 : Int32))))] [] m rfl ⟨trivial, trivial, trivial⟩ ?_
        refine zk_mask R [true, true, false, true, true] rfl ?_
        exact ih x1 x3 (x4 + (1 : Int32)) m
theorem w_X12_reach (d k : Nat) (x1 : Int32) (x2 : Int32) (m : zM) (a : Int32 × zM) (ha : f_X12_reach x1 x2 m = some a) : z_Ev z_MT zN zRf (d + 6) (k + 0) 226 [.inr (13, 0), .inl (.int x1), .inl (.int x2)] m ((fun a => (z_cI a.1, a.2) : Int32 × zM → zO) a) := by
  refine zk_top (I := (yX12_reach, cX12_reach, 5, (some .int), [], tX12_reach, 13, 2, 13, 0, 0, 0)) (oc := (fun a => (z_cI a.1, a.2) : Int32 × zM → zO)) (a := a) rfl (Nat.le_of_ble_eq_true rfl) (fun G R => ?_) ha
  unfold f_X12_reach
  refine zk_st R 4 6 [some (.inr (13, 0)), some (.inl (.int x1)), some (.inl (.int x2)), none, none] [.inr (13, 0)] (z_sI m 13 0 0 (0 : Int32)) rfl ⟨trivial, trivial, (Nat.le_of_ble_eq_true rfl), trivial, trivial⟩ ?_
  refine zk_call R (fun _ => none) id rfl (r_X12_streams (Nat.le_of_ble_eq_true rfl)) (fun b hb => w_X12_streams d 0 (z_sI m 13 0 0 (0 : Int32)) b hb) (fun r1 => ?_)
  refine zk_st R 8 19 [some (.inr (13, 0)), some (.inl (.int x1)), some (.inl (.int x2)), none, none] [.inl (.long (Int32.toInt64 ((r1.1 13 0 18) - (1 : Int32)))), .inl (.long (0 : Int64)), .inl (.long (Int32.toInt64 x1))] r1 rfl ⟨trivial, trivial, trivial, trivial, (Nat.le_of_ble_eq_true rfl), trivial, trivial, trivial, trivial⟩ ?_
  refine zk_call R (fun b => some (.inl (.int (z_bi b)))) (fun _ => r1) rfl (r_X12_in) (fun b hb => w_X12_in (d + 4) 0 (Int32.toInt64 x1) (0 : Int64) (Int32.toInt64 ((r1.1 13 0 18) - (1 : Int32))) r1 b hb) (fun r2 => ?_)
  refine zk_br R rfl (fun _ => ?_) (fun _ => ?_)
  · refine zk_st R 2 27 [some (.inr (13, 0)), some (.inl (.int x1)), some (.inl (.int x2)), none, none] [.inl (.int (1 : Int32)), .inr (13, 0)] r1 rfl ⟨trivial, trivial, trivial⟩ ?_
    refine zk_call R (fun b => some (.inl (.int b.1))) (fun b => b.2) rfl (r_X12_raises (Nat.le_of_ble_eq_true rfl)) (fun b hb => w_X12_raises (d + 4) 0 (1 : Int32) r1 b hb) (fun r4 => ?_)
    exact zk_ret R rfl trivial rfl
  · refine zk_st R 1 32 [some (.inr (13, 0)), some (.inl (.int x1)), some (.inl (.int x2)), none, none] [.inl (.int x2)] r1 rfl ⟨trivial, trivial⟩ ?_
    refine zk_if (fun e5 => ?_) (fun e5 => ?_)
    · refine zk_tsw R rfl (z_swv e5 (by decide +kernel : _ = 68)) ?_
      refine zk_st R 2 70 [some (.inr (13, 0)), some (.inl (.int x1)), some (.inl (.int x2)), none, none] [.inl (.int x1), .inr (13, 0)] r1 rfl ⟨trivial, trivial, trivial⟩ ?_
      refine zk_call R (fun b => some (.inl (.int b))) (fun _ => r1) rfl (r_X12_head (Nat.le_of_ble_eq_true rfl)) (fun b hb => w_X12_head (d + 1) 0 x1 r1 b hb) (fun r6 => ?_)
      exact zk_ret R rfl trivial rfl
    refine zk_if (fun e7 => ?_) (fun e7 => ?_)
    · refine zk_tsw R rfl (z_swv e7 (by decide +kernel : _ = 74)) ?_
      refine zk_st R 2 76 [some (.inr (13, 0)), some (.inl (.int x1)), some (.inl (.int x2)), none, none] [.inl (.int x1), .inr (13, 0)] r1 rfl ⟨trivial, trivial, trivial⟩ ?_
      refine zk_call R (fun b => some (.inl (.int b))) (fun _ => r1) rfl (r_X12_tail (Nat.le_of_ble_eq_true rfl)) (fun b hb => w_X12_tail d 0 x1 r1 b hb) (fun r8 => ?_)
      exact zk_ret R rfl trivial rfl
    refine zk_if (fun e9 => ?_) (fun e9 => ?_)
    · refine zk_tsw R rfl (z_swv e9 (by decide +kernel : _ = 80)) ?_
      refine zk_st R 4 85 [some (.inr (13, 0)), some (.inl (.int x1)), some (.inl (.int x2)), some (.inl (.int (0 : Int32))), some (.inl (.int (0 : Int32)))] [] r1 rfl ⟨trivial, trivial, trivial, trivial, trivial⟩ ?_
      refine zk_mask R [true, true, false, true, true] rfl ?_
      exact w_X12_reach_85 d k R zF x1 (0 : Int32) (0 : Int32) r1
    refine zk_if (fun e10 => ?_) (fun e10 => ?_)
    · refine zk_tsw R rfl (z_swv e10 (by decide +kernel : _ = 116)) ?_
      refine zk_st R 4 122 [some (.inr (13, 0)), some (.inl (.int x1)), some (.inl (.int x2)), none, none] [.inl (.int x1), .inr (13, 0), .inr (20, 64)] r1 rfl ⟨trivial, (Nat.le_of_ble_eq_true rfl), trivial, trivial, trivial⟩ ?_
      refine zk_call R (fun b => some (.inl (.int b))) (fun _ => r1) rfl (r_X12_head (Nat.le_of_ble_eq_true rfl)) (fun b hb => w_X12_head (d + 1) 0 x1 r1 b hb) (fun r11 => ?_)
      refine zk_gd fun e12 => ?_
      refine zk_st R 1 126 [some (.inr (13, 0)), some (.inl (.int x1)), some (.inl (.int x2)), none, none] [.inl (.int (r1.1 20 64 (Int32.toNatClampNeg r11)))] r1 rfl ⟨⟨(Nat.le_of_ble_eq_true rfl), z_inb_in e12⟩, trivial⟩ ?_
      exact zk_ret R rfl trivial rfl
    refine zk_if (fun e13 => ?_) (fun e13 => ?_)
    · refine zk_tsw R rfl (z_swv e13 (by decide +kernel : _ = 127)) ?_
      refine zk_st R 3 130 [some (.inr (13, 0)), some (.inl (.int x1)), some (.inl (.int x2)), none, none] [.inl (.int x1), .inr (13, 0), .inr (13, 0)] r1 rfl ⟨trivial, trivial, trivial, trivial⟩ ?_
      refine zk_call R (fun b => some (.inl (.int b))) (fun _ => r1) rfl (r_X12_tail (Nat.le_of_ble_eq_true rfl)) (fun b hb => w_X12_tail d 0 x1 r1 b hb) (fun r14 => ?_)
      refine zk_call R (fun b => some (.inl (.int b))) (fun _ => r1) rfl (r_X12_onward (Nat.le_of_ble_eq_true rfl)) (fun b hb => w_X12_onward (d + 3) 0 r14 r1 b hb) (fun r15 => ?_)
      refine zk_st R 2 140 [some (.inr (13, 0)), some (.inl (.int x1)), some (.inl (.int x2)), none, some (.inl (.int r15))] [.inl (.int r15)] r1 rfl ⟨trivial, trivial, trivial⟩ ?_
      refine zk_br R rfl (fun _ => ?_) (fun _ => ?_)
      · refine zk_st R 1 154 [some (.inr (13, 0)), some (.inl (.int x1)), some (.inl (.int x2)), none, some (.inl (.int r15))] [.inl (.int (-1 : Int32))] r1 rfl ⟨trivial, trivial⟩ ?_
        exact zk_ret R rfl trivial rfl
      · refine zk_gd fun e17 => ?_
        refine zk_st R 5 154 [some (.inr (13, 0)), some (.inl (.int x1)), some (.inl (.int x2)), none, some (.inl (.int r15))] [.inl (.int (r1.1 20 65 (Int32.toNatClampNeg r15)))] r1 rfl ⟨trivial, (Nat.le_of_ble_eq_true rfl), trivial, ⟨(Nat.le_of_ble_eq_true rfl), z_inb_in e17⟩, trivial, trivial⟩ ?_
        exact zk_ret R rfl trivial rfl
    refine zk_tsw R rfl (z_swd 5 (by decide) (fun i hi => ?_) (by decide : _ = 155)) ?_
    · have hi' : i = 0 ∨ i = 1 ∨ i = 2 ∨ i = 3 ∨ i = 4 := by omega
      rcases hi' with rfl | rfl | rfl | rfl | rfl
      · exact e5
      · exact e7
      · exact e9
      · exact e10
      · exact e13
    · refine zk_st R 2 157 [some (.inr (13, 0)), some (.inl (.int x1)), some (.inl (.int x2)), none, none] [.inl (.int (2 : Int32)), .inr (13, 0)] r1 rfl ⟨trivial, trivial, trivial⟩ ?_
      refine zk_call R (fun b => some (.inl (.int b.1))) (fun b => b.2) rfl (r_X12_raises (Nat.le_of_ble_eq_true rfl)) (fun b hb => w_X12_raises (d + 4) 0 (2 : Int32) r1 b hb) (fun r18 => ?_)
      exact zk_ret R rfl trivial rfl
theorem r_X12_reachOf {i : Nat} {t : List zA} (h : i < zN 13) : z_rcv zN (zKD 227) (.inr (13, i) :: t) := by
  rw [show zKD 227 = 13 from rfl]
  exact ⟨rfl, h⟩
noncomputable def f_X12_reachOf (x1 : Int32) (m : zM) : Option (Int32 × zM) :=
  Option.bind (f_X12_isCell x1 (z_sI m 13 0 0 (0 : Int32))) fun r1 =>
  if (z_bi r1) = 0 then
    Option.bind (f_X12_raises (1 : Int32) (z_sI m 13 0 0 (0 : Int32))) fun r3 =>
    some (r3.1, r3.2)
  else
    Option.bind (f_X12_streams (z_sI m 13 0 0 (0 : Int32))) fun r4 =>
    z_gd (z_inb x1 (z_alen 20)) <| if 0 ≤ (r4.1 20 65 (Int32.toNatClampNeg x1)) then
      z_gd (z_inb x1 (z_alen 20)) <| some ((r4.1 20 65 (Int32.toNatClampNeg x1)), r4)
    else
      Option.bind (f_X12_raises (2 : Int32) r4) fun r8 =>
      some (r8.1, r8.2)
theorem w_X12_reachOf (d k : Nat) (x1 : Int32) (m : zM) (a : Int32 × zM) (ha : f_X12_reachOf x1 m = some a) : z_Ev z_MT zN zRf (d + 6) (k + 0) 227 [.inr (13, 0), .inl (.int x1)] m ((fun a => (z_cI a.1, a.2) : Int32 × zM → zO) a) := by
  refine zk_top (I := (yX12_reachOf, cX12_reachOf, 2, (some .int), [], tX12_reachOf, 13, 1, 13, 0, 0, 0)) (oc := (fun a => (z_cI a.1, a.2) : Int32 × zM → zO)) (a := a) rfl (Nat.le_of_ble_eq_true rfl) (fun G R => ?_) ha
  unfold f_X12_reachOf
  refine zk_st R 5 7 [some (.inr (13, 0)), some (.inl (.int x1))] [.inl (.int x1), .inr (13, 0)] (z_sI m 13 0 0 (0 : Int32)) rfl ⟨trivial, trivial, (Nat.le_of_ble_eq_true rfl), trivial, trivial, trivial⟩ ?_
  refine zk_call R (fun b => some (.inl (.int (z_bi b)))) (fun _ => (z_sI m 13 0 0 (0 : Int32))) rfl (r_X12_isCell (Nat.le_of_ble_eq_true rfl)) (fun b hb => w_X12_isCell (d + 3) 0 x1 (z_sI m 13 0 0 (0 : Int32)) b hb) (fun r1 => ?_)
  refine zk_br R rfl (fun _ => ?_) (fun _ => ?_)
  · refine zk_st R 2 15 [some (.inr (13, 0)), some (.inl (.int x1))] [.inl (.int (1 : Int32)), .inr (13, 0)] (z_sI m 13 0 0 (0 : Int32)) rfl ⟨trivial, trivial, trivial⟩ ?_
    refine zk_call R (fun b => some (.inl (.int b.1))) (fun b => b.2) rfl (r_X12_raises (Nat.le_of_ble_eq_true rfl)) (fun b hb => w_X12_raises (d + 4) 0 (1 : Int32) (z_sI m 13 0 0 (0 : Int32)) b hb) (fun r3 => ?_)
    exact zk_ret R rfl trivial rfl
  · refine zk_st R 1 20 [some (.inr (13, 0)), some (.inl (.int x1))] [.inr (13, 0)] (z_sI m 13 0 0 (0 : Int32)) rfl ⟨trivial, trivial⟩ ?_
    refine zk_call R (fun _ => none) id rfl (r_X12_streams (Nat.le_of_ble_eq_true rfl)) (fun b hb => w_X12_streams d 0 (z_sI m 13 0 0 (0 : Int32)) b hb) (fun r4 => ?_)
    refine zk_gd fun e5 => ?_
    refine zk_st R 4 29 [some (.inr (13, 0)), some (.inl (.int x1))] [.inl (.int (r4.1 20 65 (Int32.toNatClampNeg x1)))] r4 rfl ⟨trivial, (Nat.le_of_ble_eq_true rfl), trivial, ⟨(Nat.le_of_ble_eq_true rfl), z_inb_in e5⟩, trivial⟩ ?_
    refine zk_br R rfl (fun _ => ?_) (fun _ => ?_)
    · refine zk_gd fun e7 => ?_
      refine zk_st R 4 46 [some (.inr (13, 0)), some (.inl (.int x1))] [.inl (.int (r4.1 20 65 (Int32.toNatClampNeg x1)))] r4 rfl ⟨trivial, (Nat.le_of_ble_eq_true rfl), trivial, ⟨(Nat.le_of_ble_eq_true rfl), z_inb_in e7⟩, trivial⟩ ?_
      exact zk_ret R rfl trivial rfl
    · refine zk_st R 2 34 [some (.inr (13, 0)), some (.inl (.int x1))] [.inl (.int (2 : Int32)), .inr (13, 0)] r4 rfl ⟨trivial, trivial, trivial⟩ ?_
      refine zk_call R (fun b => some (.inl (.int b.1))) (fun b => b.2) rfl (r_X12_raises (Nat.le_of_ble_eq_true rfl)) (fun b hb => w_X12_raises (d + 4) 0 (2 : Int32) r4 b hb) (fun r8 => ?_)
      refine zk_st R 1 46 [some (.inr (13, 0)), some (.inl (.int x1))] [.inl (.int r8.1)] r8.2 rfl ⟨trivial, trivial⟩ ?_
      exact zk_ret R rfl trivial rfl
theorem r_X12_leavingIf {i : Nat} {t : List zA} (h : i < zN 13) : z_rcv zN (zKD 244) (.inr (13, i) :: t) := by
  rw [show zKD 244 = 13 from rfl]
  exact ⟨rfl, h⟩
noncomputable def f_X12_leavingIf_30 (x1 : Int32) (x2 : Int32) (s1 : Int32) (m : zM) : Option (Int32 × zM) :=
  if ((z_sI m 13 0 0 s1).1 13 0 0) ≤ 0 then
    z_gd (z_inb ((131 : Int32) + x1) (z_alen 23)) <| Option.bind (f_X12_leaves (z_sI (z_sI m 13 0 0 s1) 23 0 (Int32.toNatClampNeg ((131 : Int32) + x1)) x2)) fun r3 =>
    z_gd (z_inb ((131 : Int32) + x1) (z_alen 23)) <| some (r3.1, (z_sI r3.2 23 0 (Int32.toNatClampNeg ((131 : Int32) + x1)) ((z_sI m 13 0 0 s1).1 23 0 (Int32.toNatClampNeg ((131 : Int32) + x1)))))
  else
    some ((0 : Int32), (z_sI m 13 0 0 s1))
noncomputable def f_X12_leavingIf (x1 : Int32) (x2 : Int32) (m : zM) : Option (Int32 × zM) :=
  Option.bind (f_X12_isCell x1 m) fun r1 =>
  if (z_bi r1) = 0 then
    f_X12_leavingIf_30 x1 x2 (1 : Int32) m
  else
    Option.bind (f_X12_in (Int32.toInt64 x2) (0 : Int64) (9 : Int64) m) fun r3 =>
    if (z_bi r3) = 0 then
      f_X12_leavingIf_30 x1 x2 (2 : Int32) m
    else
      f_X12_leavingIf_30 x1 x2 (0 : Int32) m
theorem w_X12_leavingIf_30 (d k : Nat) {o : zO} {G : Nat → Nat → zL → List zA → zM → Prop} (R : zRu (d + 5) tX12_leavingIf 0 (z_hf []) o G) (x1 : Int32) (x2 : Int32) (s1 : Int32) (m : zM) : zLK G (fun a => (z_cI a.1, a.2) : Int32 × zM → zO) o (f_X12_leavingIf_30 x1 x2 s1 m) some (k + 0) 30 [some (.inr (13, 0)), some (.inl (.int x1)), some (.inl (.int x2)), none, none] [.inl (.int s1), .inr (13, 0)] m := by
  unfold f_X12_leavingIf_30
  refine zk_st R 3 37 [some (.inr (13, 0)), some (.inl (.int x1)), some (.inl (.int x2)), none, none] [.inl (.int ((z_sI m 13 0 0 s1).1 13 0 0))] (z_sI m 13 0 0 s1) rfl ⟨(Nat.le_of_ble_eq_true rfl), trivial, (Nat.le_of_ble_eq_true rfl), trivial⟩ ?_
  refine zk_br R rfl (fun _ => ?_) (fun _ => ?_)
  · refine zk_gd fun e2 => ?_
    refine zk_st R 15 65 [some (.inr (13, 0)), some (.inl (.int x1)), some (.inl (.int x2)), some (.inl (.int ((z_sI m 13 0 0 s1).1 23 0 (Int32.toNatClampNeg ((131 : Int32) + x1))))), none] [.inr (13, 0)] (z_sI (z_sI m 13 0 0 s1) 23 0 (Int32.toNatClampNeg ((131 : Int32) + x1)) x2) rfl ⟨trivial, (Nat.le_of_ble_eq_true rfl), trivial, trivial, trivial, ⟨(Nat.le_of_ble_eq_true rfl), z_inb_in e2⟩, trivial, trivial, (Nat.le_of_ble_eq_true rfl), trivial, trivial, trivial, trivial, ⟨(Nat.le_of_ble_eq_true rfl), z_inb_in e2⟩, trivial, trivial⟩ ?_
    refine zk_call R (fun b => some (.inl (.int b.1))) (fun b => b.2) rfl (r_X12_leaves (Nat.le_of_ble_eq_true rfl)) (fun b hb => w_X12_leaves d 0 (z_sI (z_sI m 13 0 0 s1) 23 0 (Int32.toNatClampNeg ((131 : Int32) + x1)) x2) b hb) (fun r3 => ?_)
    refine zk_gd fun e4 => ?_
    refine zk_st R 9 83 [some (.inr (13, 0)), some (.inl (.int x1)), some (.inl (.int x2)), some (.inl (.int ((z_sI m 13 0 0 s1).1 23 0 (Int32.toNatClampNeg ((131 : Int32) + x1))))), some (.inl (.int r3.1))] [.inl (.int r3.1)] (z_sI r3.2 23 0 (Int32.toNatClampNeg ((131 : Int32) + x1)) ((z_sI m 13 0 0 s1).1 23 0 (Int32.toNatClampNeg ((131 : Int32) + x1)))) rfl ⟨trivial, trivial, (Nat.le_of_ble_eq_true rfl), trivial, trivial, trivial, trivial, ⟨(Nat.le_of_ble_eq_true rfl), z_inb_in e4⟩, trivial, trivial⟩ ?_
    exact zk_ret R rfl trivial rfl
  · refine zk_st R 1 41 [some (.inr (13, 0)), some (.inl (.int x1)), some (.inl (.int x2)), none, none] [.inl (.int (0 : Int32))] (z_sI m 13 0 0 s1) rfl ⟨trivial, trivial⟩ ?_
    exact zk_ret R rfl trivial rfl
theorem w_X12_leavingIf (d k : Nat) (x1 : Int32) (x2 : Int32) (m : zM) (a : Int32 × zM) (ha : f_X12_leavingIf x1 x2 m = some a) : z_Ev z_MT zN zRf (d + 6) (k + 0) 244 [.inr (13, 0), .inl (.int x1), .inl (.int x2)] m ((fun a => (z_cI a.1, a.2) : Int32 × zM → zO) a) := by
  refine zk_top (I := (yX12_leavingIf, cX12_leavingIf, 5, (some .int), [], tX12_leavingIf, 13, 2, 13, 0, 0, 0)) (oc := (fun a => (z_cI a.1, a.2) : Int32 × zM → zO)) (a := a) rfl (Nat.le_of_ble_eq_true rfl) (fun G R => ?_) ha
  unfold f_X12_leavingIf
  refine zk_st R 3 3 [some (.inr (13, 0)), some (.inl (.int x1)), some (.inl (.int x2)), none, none] [.inl (.int x1), .inr (13, 0), .inr (13, 0)] m rfl ⟨trivial, trivial, trivial, trivial⟩ ?_
  refine zk_call R (fun b => some (.inl (.int (z_bi b)))) (fun _ => m) rfl (r_X12_isCell (Nat.le_of_ble_eq_true rfl)) (fun b hb => w_X12_isCell (d + 3) 0 x1 m b hb) (fun r1 => ?_)
  refine zk_br R rfl (fun _ => ?_) (fun _ => ?_)
  · refine zk_st R 2 30 [some (.inr (13, 0)), some (.inl (.int x1)), some (.inl (.int x2)), none, none] [.inl (.int (1 : Int32)), .inr (13, 0)] m rfl ⟨trivial, trivial, trivial⟩ ?_
    refine zk_mask R [true, true, true, false, false] rfl ?_
    exact w_X12_leavingIf_30 d k R x1 x2 (1 : Int32) m
  · refine zk_st R 4 19 [some (.inr (13, 0)), some (.inl (.int x1)), some (.inl (.int x2)), none, none] [.inl (.long (9 : Int64)), .inl (.long (0 : Int64)), .inl (.long (Int32.toInt64 x2)), .inr (13, 0)] m rfl ⟨trivial, trivial, trivial, trivial, trivial⟩ ?_
    refine zk_call R (fun b => some (.inl (.int (z_bi b)))) (fun _ => m) rfl (r_X12_in) (fun b hb => w_X12_in (d + 4) 0 (Int32.toInt64 x2) (0 : Int64) (9 : Int64) m b hb) (fun r3 => ?_)
    refine zk_br R rfl (fun _ => ?_) (fun _ => ?_)
    · refine zk_st R 1 30 [some (.inr (13, 0)), some (.inl (.int x1)), some (.inl (.int x2)), none, none] [.inl (.int (2 : Int32)), .inr (13, 0)] m rfl ⟨trivial, trivial⟩ ?_
      refine zk_mask R [true, true, true, false, false] rfl ?_
      exact w_X12_leavingIf_30 d k R x1 x2 (2 : Int32) m
    · refine zk_st R 2 30 [some (.inr (13, 0)), some (.inl (.int x1)), some (.inl (.int x2)), none, none] [.inl (.int (0 : Int32)), .inr (13, 0)] m rfl ⟨trivial, trivial, trivial⟩ ?_
      refine zk_mask R [true, true, true, false, false] rfl ?_
      exact w_X12_leavingIf_30 d k R x1 x2 (0 : Int32) m
theorem r_L_level {as : List zA} : z_rcv zN (zKD 268) as := by
  rw [show zKD 268 = 0 from rfl]
  trivial
noncomputable def f_L_level (x1 : Int32) (m : zM) : Option (Int32 × zM) :=
  z_bh (f_X11_level x1 m) (fun r1 m2 =>
  z_gd (z_inb (0 : Int32) (z_alen 32)) <| some ((0 : Int32), (z_sL m2 32 0 (Int32.toNatClampNeg (0 : Int32)) (Int32.toInt64 r1)))) (z_hf [(0, 9, 12, 21, 1, 1)] 4) id
theorem w_L_level (d k : Nat) (x1 : Int32) (m : zM) (a : Int32 × zM) (ha : f_L_level x1 m = some a) : z_Ev z_MT zN zRf (d + 6) (k + 1) 268 [.inr (12, 0), .inl (.int x1), .inr (32, 0)] m ((fun a => (z_cI a.1, a.2) : Int32 × zM → zO) a) := by
  refine zk_top (I := (yL_level, cL_level, 4, (some .int), [(0, 9, 12, 21, 1, 1)], tL_level, 0, 3, 0, 0, 0, 0)) (oc := (fun a => (z_cI a.1, a.2) : Int32 × zM → zO)) (a := a) rfl (Nat.le_of_ble_eq_true rfl) (fun G R => ?_) ha
  unfold f_L_level
  refine zk_st R 4 4 [some (.inr (12, 0)), some (.inl (.int x1)), some (.inr (32, 0)), none] [.inl (.int x1), .inr (12, 0), .inl (.int (0 : Int32)), .inr (32, 0)] m rfl ⟨trivial, trivial, trivial, trivial, trivial⟩ ?_
  refine zk_callh (cr := id) R (k + 0) 1 (fun r1 => some (.inl (.int r1))) rfl (r_X11_level (Nat.le_of_ble_eq_true rfl)) (fun b m' hb => w_X11_level d 0 x1 m _ hb) (fun e m' hb => w_X11_level d 0 x1 m _ hb) (fun _ _ => rfl) (fun r1 m2 => ?_)
  refine zk_gd fun e3 => ?_
  refine zk_st R 4 16 [some (.inr (12, 0)), some (.inl (.int x1)), some (.inr (32, 0)), none] [.inl (.int (0 : Int32))] (z_sL m2 32 0 (Int32.toNatClampNeg (0 : Int32)) (Int32.toInt64 r1)) rfl ⟨trivial, ⟨(Nat.le_of_ble_eq_true rfl), z_inb_in e3⟩, trivial, trivial, trivial⟩ ?_
  exact zk_ret R rfl trivial rfl
theorem r_L_levelByPools {as : List zA} : z_rcv zN (zKD 269) as := by
  rw [show zKD 269 = 0 from rfl]
  trivial
noncomputable def f_L_levelByPools (x1 : Int32) (m : zM) : Option (Int32 × zM) :=
  z_bh (f_X11_levelByPools x1 m) (fun r1 m2 =>
  z_gd (z_inb (0 : Int32) (z_alen 32)) <| some ((0 : Int32), (z_sL m2 32 0 (Int32.toNatClampNeg (0 : Int32)) (Int32.toInt64 r1)))) (z_hf [(0, 9, 12, 21, 1, 1)] 4) id
theorem w_L_levelByPools (d k : Nat) (x1 : Int32) (m : zM) (a : Int32 × zM) (ha : f_L_levelByPools x1 m = some a) : z_Ev z_MT zN zRf (d + 6) (k + 1) 269 [.inr (12, 0), .inl (.int x1), .inr (32, 0)] m ((fun a => (z_cI a.1, a.2) : Int32 × zM → zO) a) := by
  refine zk_top (I := (yL_levelByPools, cL_levelByPools, 4, (some .int), [(0, 9, 12, 21, 1, 1)], tL_levelByPools, 0, 3, 0, 0, 0, 0)) (oc := (fun a => (z_cI a.1, a.2) : Int32 × zM → zO)) (a := a) rfl (Nat.le_of_ble_eq_true rfl) (fun G R => ?_) ha
  unfold f_L_levelByPools
  refine zk_st R 4 4 [some (.inr (12, 0)), some (.inl (.int x1)), some (.inr (32, 0)), none] [.inl (.int x1), .inr (12, 0), .inl (.int (0 : Int32)), .inr (32, 0)] m rfl ⟨trivial, trivial, trivial, trivial, trivial⟩ ?_
  refine zk_callh (cr := id) R (k + 0) 1 (fun r1 => some (.inl (.int r1))) rfl (r_X11_levelByPools (Nat.le_of_ble_eq_true rfl)) (fun b m' hb => w_X11_levelByPools d 0 x1 m _ hb) (fun e m' hb => w_X11_levelByPools d 0 x1 m _ hb) (fun _ _ => rfl) (fun r1 m2 => ?_)
  refine zk_gd fun e3 => ?_
  refine zk_st R 4 16 [some (.inr (12, 0)), some (.inl (.int x1)), some (.inr (32, 0)), none] [.inl (.int (0 : Int32))] (z_sL m2 32 0 (Int32.toNatClampNeg (0 : Int32)) (Int32.toInt64 r1)) rfl ⟨trivial, ⟨(Nat.le_of_ble_eq_true rfl), z_inb_in e3⟩, trivial, trivial, trivial⟩ ?_
  exact zk_ret R rfl trivial rfl
