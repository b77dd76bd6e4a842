theorem r_X12_map {i : Nat} {t : List zA} (h : i < zN 13) : z_rcv zN (zKD 254) (.inr (13, i) :: t) := by
  rw [show zKD 254 = 13 from rfl]
  exact ⟨rfl, h⟩
noncomputable def f_X12_map_29 (x1 : Int32) (s1 : Int32) (m : zM) : Option (Int32 × zM) :=
  if ((z_sI m 13 0 0 s1).1 13 0 0) ≤ 0 then
    z_gd (z_inb (0 : Int32) (z_alen 23)) <| z_gd (z_nz (((z_sI m 13 0 0 s1).1 23 0 (Int32.toNatClampNeg (0 : Int32))) + (1 : Int32))) <| if (z_irem x1 (((z_sI m 13 0 0 s1).1 23 0 (Int32.toNatClampNeg (0 : Int32))) + (1 : Int32))) = ((z_sI m 13 0 0 s1).1 23 0 (Int32.toNatClampNeg (0 : Int32))) then
      z_gd (z_bC (47 : Int32)) <| some ((47 : Int32), (z_sI m 13 0 0 s1))
    else
      Option.bind (f_X12_looks (z_sI m 13 0 0 s1)) fun r6 =>
      z_gd (z_inb (0 : Int32) (z_alen 23)) <| z_gd (z_nz ((r6.1 23 0 (Int32.toNatClampNeg (0 : Int32))) + (1 : Int32))) <| z_gd (z_inb (((r6.1 23 0 (Int32.toNatClampNeg (0 : Int32))) * (x1 / ((r6.1 23 0 (Int32.toNatClampNeg (0 : Int32))) + (1 : Int32)))) + (z_irem x1 (((z_sI m 13 0 0 s1).1 23 0 (Int32.toNatClampNeg (0 : Int32))) + (1 : Int32)))) (z_alen 20)) <| if 0 ≤ (r6.1 20 61 (Int32.toNatClampNeg (((r6.1 23 0 (Int32.toNatClampNeg (0 : Int32))) * (x1 / ((r6.1 23 0 (Int32.toNatClampNeg (0 : Int32))) + (1 : Int32)))) + (z_irem x1 (((z_sI m 13 0 0 s1).1 23 0 (Int32.toNatClampNeg (0 : Int32))) + (1 : Int32)))))) then
        z_gd (z_inb (((r6.1 23 0 (Int32.toNatClampNeg (0 : Int32))) * (x1 / ((r6.1 23 0 (Int32.toNatClampNeg (0 : Int32))) + (1 : Int32)))) + (z_irem x1 (((z_sI m 13 0 0 s1).1 23 0 (Int32.toNatClampNeg (0 : Int32))) + (1 : Int32)))) (z_alen 20)) <| if (r6.1 20 61 (Int32.toNatClampNeg (((r6.1 23 0 (Int32.toNatClampNeg (0 : Int32))) * (x1 / ((r6.1 23 0 (Int32.toNatClampNeg (0 : Int32))) + (1 : Int32)))) + (z_irem x1 (((z_sI m 13 0 0 s1).1 23 0 (Int32.toNatClampNeg (0 : Int32))) + (1 : Int32)))))) = 0 then
          z_gd (z_bC (94 : Int32)) <| some ((94 : Int32), r6)
        else
          z_gd (z_inb (((r6.1 23 0 (Int32.toNatClampNeg (0 : Int32))) * (x1 / ((r6.1 23 0 (Int32.toNatClampNeg (0 : Int32))) + (1 : Int32)))) + (z_irem x1 (((z_sI m 13 0 0 s1).1 23 0 (Int32.toNatClampNeg (0 : Int32))) + (1 : Int32)))) (z_alen 20)) <| if (r6.1 20 61 (Int32.toNatClampNeg (((r6.1 23 0 (Int32.toNatClampNeg (0 : Int32))) * (x1 / ((r6.1 23 0 (Int32.toNatClampNeg (0 : Int32))) + (1 : Int32)))) + (z_irem x1 (((z_sI m 13 0 0 s1).1 23 0 (Int32.toNatClampNeg (0 : Int32))) + (1 : Int32)))))) = (1 : Int32) then
            z_gd (z_bC (62 : Int32)) <| some ((62 : Int32), r6)
          else
            z_gd (z_inb (((r6.1 23 0 (Int32.toNatClampNeg (0 : Int32))) * (x1 / ((r6.1 23 0 (Int32.toNatClampNeg (0 : Int32))) + (1 : Int32)))) + (z_irem x1 (((z_sI m 13 0 0 s1).1 23 0 (Int32.toNatClampNeg (0 : Int32))) + (1 : Int32)))) (z_alen 20)) <| if (r6.1 20 61 (Int32.toNatClampNeg (((r6.1 23 0 (Int32.toNatClampNeg (0 : Int32))) * (x1 / ((r6.1 23 0 (Int32.toNatClampNeg (0 : Int32))) + (1 : Int32)))) + (z_irem x1 (((z_sI m 13 0 0 s1).1 23 0 (Int32.toNatClampNeg (0 : Int32))) + (1 : Int32)))))) = (2 : Int32) then
              z_gd (z_bC (118 : Int32)) <| some ((118 : Int32), r6)
            else
              z_gd (z_bC (60 : Int32)) <| some ((60 : Int32), r6)
      else
        z_gd (z_bC (111 : Int32)) <| some ((111 : Int32), r6)
  else
    z_gd (z_bC (0 : Int32)) <| some ((0 : Int32), (z_sI m 13 0 0 s1))
noncomputable def f_X12_map (x1 : Int32) (m : zM) : Option (Int32 × zM) :=
  Option.bind (f_X12_cells m) fun r1 =>
  z_gd (z_inb (1 : Int32) (z_alen 23)) <| Option.bind (f_X12_in (Int32.toInt64 x1) (0 : Int64) (Int32.toInt64 ((r1 + (m.1 23 0 (Int32.toNatClampNeg (1 : Int32)))) - (2 : Int32))) m) fun r3 =>
  if (z_bi r3) = 0 then
    f_X12_map_29 x1 (1 : Int32) m
  else
    f_X12_map_29 x1 (0 : Int32) m
theorem w_X12_map_29 (d k : Nat) {o : zO} {G : Nat → Nat → zL → List zA → zM → Prop} (R : zRu (d + 3) tX12_map 2 (z_hf []) o G) (x1 : Int32) (s1 : Int32) (m : zM) : zLK G (fun a => (z_cI a.1, a.2) : Int32 × zM → zO) o (f_X12_map_29 x1 s1 m) some (k + 0) 29 [some (.inr (13, 0)), some (.inl (.int x1)), none, none] [.inl (.int s1), .inr (13, 0)] m := by
  unfold f_X12_map_29
  refine zk_st R 3 36 [some (.inr (13, 0)), some (.inl (.int x1)), none, none] [.inl (.int ((z_sI m 13 0 0 s1).1 13 0 0))] (z_sI m 13 0 0 s1) rfl ⟨(Nat.le_of_ble_eq_true rfl), trivial, (Nat.le_of_ble_eq_true rfl), trivial⟩ ?_
  refine zk_br R rfl (fun _ => ?_) (fun _ => ?_)
  · refine zk_gd fun e2 => ?_
    refine zk_gd fun e3 => ?_
    refine zk_st R 14 59 [some (.inr (13, 0)), some (.inl (.int x1)), some (.inl (.int (z_irem x1 (((z_sI m 13 0 0 s1).1 23 0 (Int32.toNatClampNeg (0 : Int32))) + (1 : Int32))))), none] [.inl (.int ((z_sI m 13 0 0 s1).1 23 0 (Int32.toNatClampNeg (0 : Int32)))), .inl (.int (z_irem x1 (((z_sI m 13 0 0 s1).1 23 0 (Int32.toNatClampNeg (0 : Int32))) + (1 : Int32))))] (z_sI m 13 0 0 s1) rfl ⟨trivial, trivial, (Nat.le_of_ble_eq_true rfl), trivial, ⟨(Nat.le_of_ble_eq_true rfl), z_inb_in e2⟩, trivial, trivial, (z_nz_ne e3), trivial, trivial, trivial, (Nat.le_of_ble_eq_true rfl), trivial, ⟨(Nat.le_of_ble_eq_true rfl), z_inb_in e2⟩, trivial⟩ ?_
    refine zk_br R rfl (fun _ => ?_) (fun _ => ?_)
    · refine zk_gd fun e5 => ?_
      refine zk_st R 1 64 [some (.inr (13, 0)), some (.inl (.int x1)), some (.inl (.int (z_irem x1 (((z_sI m 13 0 0 s1).1 23 0 (Int32.toNatClampNeg (0 : Int32))) + (1 : Int32))))), none] [.inl (.int (47 : Int32))] (z_sI m 13 0 0 s1) rfl ⟨trivial, trivial⟩ ?_
      exact zk_ret R rfl (z_bC_of e5) rfl
    · refine zk_st R 1 66 [some (.inr (13, 0)), some (.inl (.int x1)), some (.inl (.int (z_irem x1 (((z_sI m 13 0 0 s1).1 23 0 (Int32.toNatClampNeg (0 : Int32))) + (1 : Int32))))), none] [.inr (13, 0)] (z_sI m 13 0 0 s1) rfl ⟨trivial, trivial⟩ ?_
      refine zk_call R (fun _ => none) id rfl (r_X12_looks (Nat.le_of_ble_eq_true rfl)) (fun b hb => w_X12_looks d 0 (z_sI m 13 0 0 s1) b hb) (fun r6 => ?_)
      refine zk_gd fun e7 => ?_
      refine zk_gd fun e8 => ?_
      refine zk_gd fun e9 => ?_
      refine zk_st R 20 95 [some (.inr (13, 0)), some (.inl (.int x1)), some (.inl (.int (z_irem x1 (((z_sI m 13 0 0 s1).1 23 0 (Int32.toNatClampNeg (0 : Int32))) + (1 : Int32))))), some (.inl (.int (((r6.1 23 0 (Int32.toNatClampNeg (0 : Int32))) * (x1 / ((r6.1 23 0 (Int32.toNatClampNeg (0 : Int32))) + (1 : Int32)))) + (z_irem x1 (((z_sI m 13 0 0 s1).1 23 0 (Int32.toNatClampNeg (0 : Int32))) + (1 : Int32))))))] [.inl (.int (r6.1 20 61 (Int32.toNatClampNeg (((r6.1 23 0 (Int32.toNatClampNeg (0 : Int32))) * (x1 / ((r6.1 23 0 (Int32.toNatClampNeg (0 : Int32))) + (1 : Int32)))) + (z_irem x1 (((z_sI m 13 0 0 s1).1 23 0 (Int32.toNatClampNeg (0 : Int32))) + (1 : Int32)))))))] r6 rfl ⟨trivial, (Nat.le_of_ble_eq_true rfl), trivial, ⟨(Nat.le_of_ble_eq_true rfl), z_inb_in e7⟩, trivial, trivial, (Nat.le_of_ble_eq_true rfl), trivial, ⟨(Nat.le_of_ble_eq_true rfl), z_inb_in e7⟩, trivial, trivial, (z_nz_ne e8), trivial, trivial, trivial, trivial, trivial, (Nat.le_of_ble_eq_true rfl), trivial, ⟨(Nat.le_of_ble_eq_true rfl), z_inb_in e9⟩, trivial⟩ ?_
      refine zk_br R rfl (fun _ => ?_) (fun _ => ?_)
      · refine zk_gd fun e11 => ?_
        refine zk_st R 4 109 [some (.inr (13, 0)), some (.inl (.int x1)), some (.inl (.int (z_irem x1 (((z_sI m 13 0 0 s1).1 23 0 (Int32.toNatClampNeg (0 : Int32))) + (1 : Int32))))), some (.inl (.int (((r6.1 23 0 (Int32.toNatClampNeg (0 : Int32))) * (x1 / ((r6.1 23 0 (Int32.toNatClampNeg (0 : Int32))) + (1 : Int32)))) + (z_irem x1 (((z_sI m 13 0 0 s1).1 23 0 (Int32.toNatClampNeg (0 : Int32))) + (1 : Int32))))))] [.inl (.int (r6.1 20 61 (Int32.toNatClampNeg (((r6.1 23 0 (Int32.toNatClampNeg (0 : Int32))) * (x1 / ((r6.1 23 0 (Int32.toNatClampNeg (0 : Int32))) + (1 : Int32)))) + (z_irem x1 (((z_sI m 13 0 0 s1).1 23 0 (Int32.toNatClampNeg (0 : Int32))) + (1 : Int32)))))))] r6 rfl ⟨trivial, (Nat.le_of_ble_eq_true rfl), trivial, ⟨(Nat.le_of_ble_eq_true rfl), z_inb_in e11⟩, trivial⟩ ?_
        refine zk_br R rfl (fun _ => ?_) (fun _ => ?_)
        · refine zk_gd fun e13 => ?_
          refine zk_st R 2 149 [some (.inr (13, 0)), some (.inl (.int x1)), some (.inl (.int (z_irem x1 (((z_sI m 13 0 0 s1).1 23 0 (Int32.toNatClampNeg (0 : Int32))) + (1 : Int32))))), some (.inl (.int (((r6.1 23 0 (Int32.toNatClampNeg (0 : Int32))) * (x1 / ((r6.1 23 0 (Int32.toNatClampNeg (0 : Int32))) + (1 : Int32)))) + (z_irem x1 (((z_sI m 13 0 0 s1).1 23 0 (Int32.toNatClampNeg (0 : Int32))) + (1 : Int32))))))] [.inl (.int (94 : Int32))] r6 rfl ⟨trivial, trivial, trivial⟩ ?_
          exact zk_ret R rfl (z_bC_of e13) rfl
        · refine zk_gd fun e14 => ?_
          refine zk_st R 5 124 [some (.inr (13, 0)), some (.inl (.int x1)), some (.inl (.int (z_irem x1 (((z_sI m 13 0 0 s1).1 23 0 (Int32.toNatClampNeg (0 : Int32))) + (1 : Int32))))), some (.inl (.int (((r6.1 23 0 (Int32.toNatClampNeg (0 : Int32))) * (x1 / ((r6.1 23 0 (Int32.toNatClampNeg (0 : Int32))) + (1 : Int32)))) + (z_irem x1 (((z_sI m 13 0 0 s1).1 23 0 (Int32.toNatClampNeg (0 : Int32))) + (1 : Int32))))))] [.inl (.int (1 : Int32)), .inl (.int (r6.1 20 61 (Int32.toNatClampNeg (((r6.1 23 0 (Int32.toNatClampNeg (0 : Int32))) * (x1 / ((r6.1 23 0 (Int32.toNatClampNeg (0 : Int32))) + (1 : Int32)))) + (z_irem x1 (((z_sI m 13 0 0 s1).1 23 0 (Int32.toNatClampNeg (0 : Int32))) + (1 : Int32)))))))] r6 rfl ⟨trivial, (Nat.le_of_ble_eq_true rfl), trivial, ⟨(Nat.le_of_ble_eq_true rfl), z_inb_in e14⟩, trivial, trivial⟩ ?_
          refine zk_br R rfl (fun _ => ?_) (fun _ => ?_)
          · refine zk_gd fun e16 => ?_
            refine zk_st R 2 149 [some (.inr (13, 0)), some (.inl (.int x1)), some (.inl (.int (z_irem x1 (((z_sI m 13 0 0 s1).1 23 0 (Int32.toNatClampNeg (0 : Int32))) + (1 : Int32))))), some (.inl (.int (((r6.1 23 0 (Int32.toNatClampNeg (0 : Int32))) * (x1 / ((r6.1 23 0 (Int32.toNatClampNeg (0 : Int32))) + (1 : Int32)))) + (z_irem x1 (((z_sI m 13 0 0 s1).1 23 0 (Int32.toNatClampNeg (0 : Int32))) + (1 : Int32))))))] [.inl (.int (62 : Int32))] r6 rfl ⟨trivial, trivial, trivial⟩ ?_
            exact zk_ret R rfl (z_bC_of e16) rfl
          · refine zk_gd fun e17 => ?_
            refine zk_st R 5 139 [some (.inr (13, 0)), some (.inl (.int x1)), some (.inl (.int (z_irem x1 (((z_sI m 13 0 0 s1).1 23 0 (Int32.toNatClampNeg (0 : Int32))) + (1 : Int32))))), some (.inl (.int (((r6.1 23 0 (Int32.toNatClampNeg (0 : Int32))) * (x1 / ((r6.1 23 0 (Int32.toNatClampNeg (0 : Int32))) + (1 : Int32)))) + (z_irem x1 (((z_sI m 13 0 0 s1).1 23 0 (Int32.toNatClampNeg (0 : Int32))) + (1 : Int32))))))] [.inl (.int (2 : Int32)), .inl (.int (r6.1 20 61 (Int32.toNatClampNeg (((r6.1 23 0 (Int32.toNatClampNeg (0 : Int32))) * (x1 / ((r6.1 23 0 (Int32.toNatClampNeg (0 : Int32))) + (1 : Int32)))) + (z_irem x1 (((z_sI m 13 0 0 s1).1 23 0 (Int32.toNatClampNeg (0 : Int32))) + (1 : Int32)))))))] r6 rfl ⟨trivial, (Nat.le_of_ble_eq_true rfl), trivial, ⟨(Nat.le_of_ble_eq_true rfl), z_inb_in e17⟩, trivial, trivial⟩ ?_
            refine zk_br R rfl (fun _ => ?_) (fun _ => ?_)
            · refine zk_gd fun e19 => ?_
              refine zk_st R 2 149 [some (.inr (13, 0)), some (.inl (.int x1)), some (.inl (.int (z_irem x1 (((z_sI m 13 0 0 s1).1 23 0 (Int32.toNatClampNeg (0 : Int32))) + (1 : Int32))))), some (.inl (.int (((r6.1 23 0 (Int32.toNatClampNeg (0 : Int32))) * (x1 / ((r6.1 23 0 (Int32.toNatClampNeg (0 : Int32))) + (1 : Int32)))) + (z_irem x1 (((z_sI m 13 0 0 s1).1 23 0 (Int32.toNatClampNeg (0 : Int32))) + (1 : Int32))))))] [.inl (.int (118 : Int32))] r6 rfl ⟨trivial, trivial, trivial⟩ ?_
              exact zk_ret R rfl (z_bC_of e19) rfl
            · refine zk_gd fun e20 => ?_
              refine zk_st R 1 149 [some (.inr (13, 0)), some (.inl (.int x1)), some (.inl (.int (z_irem x1 (((z_sI m 13 0 0 s1).1 23 0 (Int32.toNatClampNeg (0 : Int32))) + (1 : Int32))))), some (.inl (.int (((r6.1 23 0 (Int32.toNatClampNeg (0 : Int32))) * (x1 / ((r6.1 23 0 (Int32.toNatClampNeg (0 : Int32))) + (1 : Int32)))) + (z_irem x1 (((z_sI m 13 0 0 s1).1 23 0 (Int32.toNatClampNeg (0 : Int32))) + (1 : Int32))))))] [.inl (.int (60 : Int32))] r6 rfl ⟨trivial, trivial⟩ ?_
              exact zk_ret R rfl (z_bC_of e20) rfl
      · refine zk_gd fun e21 => ?_
        refine zk_st R 2 149 [some (.inr (13, 0)), some (.inl (.int x1)), some (.inl (.int (z_irem x1 (((z_sI m 13 0 0 s1).1 23 0 (Int32.toNatClampNeg (0 : Int32))) + (1 : Int32))))), some (.inl (.int (((r6.1 23 0 (Int32.toNatClampNeg (0 : Int32))) * (x1 / ((r6.1 23 0 (Int32.toNatClampNeg (0 : Int32))) + (1 : Int32)))) + (z_irem x1 (((z_sI m 13 0 0 s1).1 23 0 (Int32.toNatClampNeg (0 : Int32))) + (1 : Int32))))))] [.inl (.int (111 : Int32))] r6 rfl ⟨trivial, trivial, trivial⟩ ?_
        exact zk_ret R rfl (z_bC_of e21) rfl
  · refine zk_gd fun e22 => ?_
    refine zk_st R 1 40 [some (.inr (13, 0)), some (.inl (.int x1)), none, none] [.inl (.int (0 : Int32))] (z_sI m 13 0 0 s1) rfl ⟨trivial, trivial⟩ ?_
    exact zk_ret R rfl (z_bC_of e22) rfl
theorem w_X12_map (d k : Nat) (x1 : Int32) (m : zM) (a : Int32 × zM) (ha : f_X12_map x1 m = some a) : z_Ev z_MT zN zRf (d + 4) (k + 0) 254 [.inr (13, 0), .inl (.int x1)] m ((fun a => (z_cI a.1, a.2) : Int32 × zM → zO) a) := by
  refine zk_top (I := (yX12_map, cX12_map, 4, (some .char), [], tX12_map, 13, 1, 13, 0, 0, 0)) (oc := (fun a => (z_cI a.1, a.2) : Int32 × zM → zO)) (a := a) rfl (Nat.le_of_ble_eq_true rfl) (fun G R => ?_) ha
  unfold f_X12_map
  refine zk_st R 5 5 [some (.inr (13, 0)), some (.inl (.int x1)), none, none] [.inr (13, 0), .inl (.long (0 : Int64)), .inl (.long (Int32.toInt64 x1)), .inr (13, 0)] m rfl ⟨trivial, trivial, trivial, trivial, trivial, trivial⟩ ?_
  refine zk_call R (fun b => some (.inl (.int b))) (fun _ => m) rfl (r_X12_cells (Nat.le_of_ble_eq_true rfl)) (fun b hb => w_X12_cells (d + 2) 0 m b hb) (fun r1 => ?_)
  refine zk_gd fun e2 => ?_
  refine zk_st R 8 18 [some (.inr (13, 0)), some (.inl (.int x1)), none, none] [.inl (.long (Int32.toInt64 ((r1 + (m.1 23 0 (Int32.toNatClampNeg (1 : Int32)))) - (2 : Int32)))), .inl (.long (0 : Int64)), .inl (.long (Int32.toInt64 x1)), .inr (13, 0)] m rfl ⟨trivial, (Nat.le_of_ble_eq_true rfl), trivial, ⟨(Nat.le_of_ble_eq_true rfl), z_inb_in e2⟩, trivial, trivial, trivial, trivial, trivial⟩ ?_
  refine zk_call R (fun b => some (.inl (.int (z_bi b)))) (fun _ => m) rfl (r_X12_in) (fun b hb => w_X12_in (d + 2) 0 (Int32.toInt64 x1) (0 : Int64) (Int32.toInt64 ((r1 + (m.1 23 0 (Int32.toNatClampNeg (1 : Int32)))) - (2 : Int32))) m b hb) (fun r3 => ?_)
  refine zk_br R rfl (fun _ => ?_) (fun _ => ?_)
  · refine zk_st R 1 29 [some (.inr (13, 0)), some (.inl (.int x1)), none, none] [.inl (.int (1 : Int32)), .inr (13, 0)] m rfl ⟨trivial, trivial⟩ ?_
    refine zk_mask R [true, true, false, false] rfl ?_
    exact w_X12_map_29 d k R x1 (1 : Int32) m
  · refine zk_st R 2 29 [some (.inr (13, 0)), some (.inl (.int x1)), none, none] [.inl (.int (0 : Int32)), .inr (13, 0)] m rfl ⟨trivial, trivial, trivial⟩ ?_
    refine zk_mask R [true, true, false, false] rfl ?_
    exact w_X12_map_29 d k R x1 (0 : Int32) m
theorem r_L_cell {as : List zA} : z_rcv zN (zKD 266) as := by
  rw [show zKD 266 = 0 from rfl]
  trivial
noncomputable def f_L_cell (x1 : Int32) (x2 : Int32) (m : zM) : Option (Int32 × zM) :=
  z_bh (f_X11_cell x1 x2 m) (fun r1 m2 =>
  z_gd (z_inb (0 : Int32) (z_alen 32)) <| some ((0 : Int32), (z_sL m2 32 0 (Int32.toNatClampNeg (0 : Int32)) (Int32.toInt64 r1)))) (z_hf [(0, 10, 13, 21, 1, 1), (0, 10, 17, 13, 0, 2)] 5) id
theorem w_L_cell (d k : Nat) (x1 : Int32) (x2 : Int32) (m : zM) (a : Int32 × zM) (ha : f_L_cell x1 x2 m = some a) : z_Ev z_MT zN zRf (d + 4) (k + 2) 266 [.inr (12, 0), .inl (.int x1), .inl (.int x2), .inr (32, 0)] m ((fun a => (z_cI a.1, a.2) : Int32 × zM → zO) a) := by
  refine zk_top (I := (yL_cell, cL_cell, 5, (some .int), [(0, 10, 13, 21, 1, 1), (0, 10, 17, 13, 0, 2)], tL_cell, 0, 4, 0, 0, 0, 0)) (oc := (fun a => (z_cI a.1, a.2) : Int32 × zM → zO)) (a := a) rfl (Nat.le_of_ble_eq_true rfl) (fun G R => ?_) ha
  unfold f_L_cell
  refine zk_st R 5 5 [some (.inr (12, 0)), some (.inl (.int x1)), some (.inl (.int x2)), some (.inr (32, 0)), none] [.inl (.int x2), .inl (.int x1), .inr (12, 0), .inl (.int (0 : Int32)), .inr (32, 0)] m rfl ⟨trivial, trivial, trivial, trivial, trivial, trivial⟩ ?_
  refine zk_callh (cr := id) R (k + 0) 2 (fun r1 => some (.inl (.int r1))) rfl (r_X11_cell (Nat.le_of_ble_eq_true rfl)) (fun b m' hb => w_X11_cell d 0 x1 x2 m _ hb) (fun e m' hb => w_X11_cell d 0 x1 x2 m _ hb) (fun _ _ => rfl) (fun r1 m2 => ?_)
  refine zk_gd fun e3 => ?_
  refine zk_st R 4 22 [some (.inr (12, 0)), some (.inl (.int x1)), some (.inl (.int x2)), some (.inr (32, 0)), none] [.inl (.int (0 : Int32))] (z_sL m2 32 0 (Int32.toNatClampNeg (0 : Int32)) (Int32.toInt64 r1)) rfl ⟨trivial, ⟨(Nat.le_of_ble_eq_true rfl), z_inb_in e3⟩, trivial, trivial, trivial⟩ ?_
  exact zk_ret R rfl trivial rfl
theorem r_X0_plan {i : Nat} {t : List zA} (h : i < zN 2) : z_rcv zN (zKD 39) (.inr (2, i) :: t) := by
  rw [show zKD 39 = 2 from rfl]
  exact ⟨rfl, h⟩
noncomputable def f_X0_plan_167 (g1 : Nat) (c70 : Int32 → Int32 → Int32 → zM → Option (zM)) (x3 : Int32) (x4 : Int32) (x5 : Int32) (m : zM) : Option (zM) :=
  if x4 = (-1 : Int32) then
    c70 x3 x4 (x5 + (1 : Int32)) m
  else
    Option.bind (f_X7_at 20 (3 * g1) x4 m) fun r2 =>
    c70 x3 x4 (x5 + (1 : Int32)) (z_sI m 2 0 4 ((m.1 2 0 4) + (r2 - x3)))
noncomputable def f_X0_plan_127 (g1 : Nat) (c70 : Int32 → Int32 → Int32 → zM → Option (zM)) (x3 : Int32) (x5 : Int32) (s0 : Int32) (m : zM) : Option (zM) :=
  if s0 = (-1 : Int32) then
    f_X0_plan_167 g1 c70 x3 s0 x5 m
  else
    Option.bind (f_X7_at 20 (3 * g1) s0 m) fun r2 =>
    if x3 ≤ r2 then
      f_X0_plan_167 g1 c70 x3 s0 x5 m
    else
      Option.bind (f_X7_at 20 (3 * g1) s0 m) fun r4 =>
      Option.bind (f_X0_solve g1 r4 m) fun r5 =>
      c70 r4 s0 (x5 + (1 : Int32)) r5
noncomputable def f_X0_plan_70 (g1 : Nat) : Nat → Int32 → Int32 → Int32 → zM → Option (zM)
  | 0, _, _, _, _ => none
  | j + 1, x3, x4, x5, m =>
    if (64 : Int32) ≤ x5 then
      some m
    else
      if x4 = (-1 : Int32) then
        some m
      else
        Option.bind (f_X7_put 20 58 (m.1 2 0 3) x4 m) fun r3 =>
        Option.bind (f_X4_isOutlet g1 x4 (z_sI r3 2 0 3 ((r3.1 2 0 3) + (1 : Int32)))) fun r4 =>
        if (z_bi r4) = 0 then
          Option.bind (f_X0_bestStep g1 x4 x3 (z_sI r3 2 0 3 ((r3.1 2 0 3) + (1 : Int32)))) fun r6 =>
          f_X0_plan_127 g1 (f_X0_plan_70 g1 j) x3 x5 r6 (z_sI r3 2 0 3 ((r3.1 2 0 3) + (1 : Int32)))
        else
          f_X0_plan_127 g1 (f_X0_plan_70 g1 j) x3 x5 (-1 : Int32) (z_sI r3 2 0 3 ((r3.1 2 0 3) + (1 : Int32)))
noncomputable def f_X0_plan_54 (g1 : Nat) (x2 : Int32) (x3 : Int32) (m : zM) : Option (zM) :=
  f_X0_plan_70 g1 zF x3 x2 (0 : Int32) (z_sI (z_sI m 2 0 3 (0 : Int32)) 2 0 4 (0 : Int32))
noncomputable def f_X0_plan_12 (g1 : Nat) : Nat → Int32 → Int32 → Int32 → zM → Option (zM)
  | 0, _, _, _, _ => none
  | j + 1, x2, x3, x4, m =>
    if x3 < x4 then
      f_X0_plan_54 g1 x2 x3 m
    else
      if (99 : Int32) < x4 then
        f_X0_plan_54 g1 x2 x3 m
      else
        Option.bind (f_X4_hasHeight g1 x4 m) fun r3 =>
        if (z_bi r3) = 0 then
          f_X0_plan_12 g1 j x2 x3 (x4 + (1 : Int32)) m
        else
          Option.bind (f_X0_solve g1 x4 m) fun r5 =>
          Option.bind (f_X0_keepOwn g1 x4 r5) fun r6 =>
          f_X0_plan_12 g1 j x2 x3 (x4 + (1 : Int32)) r6
noncomputable def f_X0_plan (g1 : Nat) (x2 : Int32) (m : zM) : Option (zM) :=
  Option.bind (f_X7_at 20 (3 * g1) x2 m) fun r1 =>
  f_X0_plan_12 g1 zF x2 r1 (0 : Int32) m
theorem w_X0_plan_167 (d k : Nat) {o : zO} {G : Nat → Nat → zL → List zA → zM → Prop} (g1 : Nat) (hg1 : g1 < zN 6) (R : zRu (d + 4) tX0_plan 0 (z_hf []) o G) (c70 : Int32 → Int32 → Int32 → zM → Option (zM)) (hc70 : ∀ (x3 : Int32) (x4 : Int32) (x5 : Int32) (m : zM), zLK G (fun a => (.inl none, a) : zM → zO) o (c70 x3 x4 x5 m) some (k + 0) 70 [some (.inr (2, 0)), some (.inr (6, g1)), none, some (.inl (.int x3)), some (.inl (.int x4)), some (.inl (.int x5))] [] m) (x3 : Int32) (x4 : Int32) (x5 : Int32) (m : zM) : zLK G (fun a => (.inl none, a) : zM → zO) o (f_X0_plan_167 g1 c70 x3 x4 x5 m) some (k + 0) 167 [some (.inr (2, 0)), some (.inr (6, g1)), none, some (.inl (.int x3)), some (.inl (.int x4)), some (.inl (.int x5))] [] m := by
  unfold f_X0_plan_167
  refine zk_st R 2 170 [some (.inr (2, 0)), some (.inr (6, g1)), none, some (.inl (.int x3)), some (.inl (.int x4)), some (.inl (.int x5))] [.inl (.int (-1 : Int32)), .inl (.int x4)] m rfl ⟨trivial, trivial, trivial⟩ ?_
  refine zk_br R rfl (fun _ => ?_) (fun _ => ?_)
  · refine zk_st R 2 70 [some (.inr (2, 0)), some (.inr (6, g1)), none, some (.inl (.int x3)), some (.inl (.int x4)), some (.inl (.int (x5 + (1 : Int32))))] [] m rfl ⟨trivial, trivial, trivial⟩ ?_
    refine zk_mask R [true, true, false, true, true, true] rfl ?_
    exact hc70 x3 x4 (x5 + (1 : Int32)) m
  · refine zk_st R 6 184 [some (.inr (2, 0)), some (.inr (6, g1)), none, some (.inl (.int x3)), some (.inl (.int x4)), some (.inl (.int x5))] [.inl (.int x4), .inr (20, 3 * g1), .inl (.int (m.1 2 0 4)), .inr (2, 0)] m rfl ⟨trivial, trivial, (Nat.le_of_ble_eq_true rfl), trivial, hg1, trivial, trivial⟩ ?_
    refine zk_call R (fun b => some (.inl (.int b))) (fun _ => m) rfl (r_X7_at) (fun b hb => w_X7_at_k20 (d + 3) 0 (3 * g1) (z_g0 hg1) x4 m b hb) (fun r2 => ?_)
    refine zk_st R 6 70 [some (.inr (2, 0)), some (.inr (6, g1)), none, some (.inl (.int x3)), some (.inl (.int x4)), some (.inl (.int (x5 + (1 : Int32))))] [] (z_sI m 2 0 4 ((m.1 2 0 4) + (r2 - x3))) rfl ⟨trivial, trivial, trivial, (Nat.le_of_ble_eq_true rfl), trivial, trivial, trivial⟩ ?_
    refine zk_mask R [true, true, false, true, true, true] rfl ?_
    exact hc70 x3 x4 (x5 + (1 : Int32)) (z_sI m 2 0 4 ((m.1 2 0 4) + (r2 - x3)))
theorem w_X0_plan_127 (d k : Nat) {o : zO} {G : Nat → Nat → zL → List zA → zM → Prop} (g1 : Nat) (hg1 : g1 < zN 6) (R : zRu (d + 4) tX0_plan 0 (z_hf []) o G) (c70 : Int32 → Int32 → Int32 → zM → Option (zM)) (hc70 : ∀ (x3 : Int32) (x4 : Int32) (x5 : Int32) (m : zM), zLK G (fun a => (.inl none, a) : zM → zO) o (c70 x3 x4 x5 m) some (k + 0) 70 [some (.inr (2, 0)), some (.inr (6, g1)), none, some (.inl (.int x3)), some (.inl (.int x4)), some (.inl (.int x5))] [] m) (x3 : Int32) (x5 : Int32) (s0 : Int32) (m : zM) : zLK G (fun a => (.inl none, a) : zM → zO) o (f_X0_plan_127 g1 c70 x3 x5 s0 m) some (k + 0) 127 [some (.inr (2, 0)), some (.inr (6, g1)), none, some (.inl (.int x3)), none, some (.inl (.int x5))] [.inl (.int s0)] m := by
  unfold f_X0_plan_127
  refine zk_st R 3 132 [some (.inr (2, 0)), some (.inr (6, g1)), none, some (.inl (.int x3)), some (.inl (.int s0)), some (.inl (.int x5))] [.inl (.int (-1 : Int32)), .inl (.int s0)] m rfl ⟨trivial, trivial, trivial, trivial⟩ ?_
  refine zk_br R rfl (fun _ => ?_) (fun _ => ?_)
  · refine zk_mask R [true, true, false, true, true, true] rfl ?_
    exact w_X0_plan_167 d k g1 hg1 R c70 hc70 x3 s0 x5 m
  · refine zk_st R 3 141 [some (.inr (2, 0)), some (.inr (6, g1)), none, some (.inl (.int x3)), some (.inl (.int s0)), some (.inl (.int x5))] [.inl (.int s0), .inr (20, 3 * g1)] m rfl ⟨trivial, hg1, trivial, trivial⟩ ?_
    refine zk_call R (fun b => some (.inl (.int b))) (fun _ => m) rfl (r_X7_at) (fun b hb => w_X7_at_k20 (d + 3) 0 (3 * g1) (z_g0 hg1) s0 m b hb) (fun r2 => ?_)
    refine zk_st R 1 145 [some (.inr (2, 0)), some (.inr (6, g1)), none, some (.inl (.int x3)), some (.inl (.int s0)), some (.inl (.int x5))] [.inl (.int x3), .inl (.int r2)] m rfl ⟨trivial, trivial⟩ ?_
    refine zk_br R rfl (fun _ => ?_) (fun _ => ?_)
    · refine zk_mask R [true, true, false, true, true, true] rfl ?_
      exact w_X0_plan_167 d k g1 hg1 R c70 hc70 x3 s0 x5 m
    · refine zk_st R 3 154 [some (.inr (2, 0)), some (.inr (6, g1)), none, some (.inl (.int x3)), some (.inl (.int s0)), some (.inl (.int x5))] [.inl (.int s0), .inr (20, 3 * g1)] m rfl ⟨trivial, hg1, trivial, trivial⟩ ?_
      refine zk_call R (fun b => some (.inl (.int b))) (fun _ => m) rfl (r_X7_at) (fun b hb => w_X7_at_k20 (d + 3) 0 (3 * g1) (z_g0 hg1) s0 m b hb) (fun r4 => ?_)
      refine zk_st R 4 161 [some (.inr (2, 0)), some (.inr (6, g1)), none, some (.inl (.int r4)), some (.inl (.int s0)), some (.inl (.int x5))] [.inl (.int r4), .inr (6, g1), .inr (2, 0)] m rfl ⟨trivial, trivial, trivial, trivial, trivial⟩ ?_
      refine zk_call R (fun _ => none) id rfl (r_X0_solve (Nat.le_of_ble_eq_true rfl)) (fun b hb => w_X0_solve d 0 g1 hg1 r4 m b hb) (fun r5 => ?_)
      refine zk_st R 3 70 [some (.inr (2, 0)), some (.inr (6, g1)), none, some (.inl (.int r4)), some (.inl (.int s0)), some (.inl (.int (x5 + (1 : Int32))))] [] r5 rfl ⟨trivial, trivial, trivial, trivial⟩ ?_
      refine zk_mask R [true, true, false, true, true, true] rfl ?_
      exact hc70 r4 s0 (x5 + (1 : Int32)) r5
theorem w_X0_plan_70 (d k : Nat) {o : zO} {G : Nat → Nat → zL → List zA → zM → Prop} (g1 : Nat) (hg1 : g1 < zN 6) (R : zRu (d + 4) tX0_plan 0 (z_hf []) o G) : ∀ (j : Nat) (x3 : Int32) (x4 : Int32) (x5 : Int32) (m : zM), zLK G (fun a => (.inl none, a) : zM → zO) o (f_X0_plan_70 g1 j x3 x4 x5 m) some (k + 0) 70 [some (.inr (2, 0)), some (.inr (6, g1)), none, some (.inl (.int x3)), some (.inl (.int x4)), some (.inl (.int x5))] [] m := by
  intro j
  induction j with
  | zero =>
    intro _ _ _ _
    exact zk_none
  | succ j ih =>
    intro x3 x4 x5 m
    unfold f_X0_plan_70
    refine zk_st R 2 74 [some (.inr (2, 0)), some (.inr (6, g1)), none, some (.inl (.int x3)), some (.inl (.int x4)), some (.inl (.int x5))] [.inl (.int (64 : Int32)), .inl (.int x5)] m rfl ⟨trivial, trivial, trivial⟩ ?_
    refine zk_br R rfl (fun _ => ?_) (fun _ => ?_)
    · exact zk_ret R rfl trivial rfl
    · refine zk_st R 2 80 [some (.inr (2, 0)), some (.inr (6, g1)), none, some (.inl (.int x3)), some (.inl (.int x4)), some (.inl (.int x5))] [.inl (.int (-1 : Int32)), .inl (.int x4)] m rfl ⟨trivial, trivial, trivial⟩ ?_
      refine zk_br R rfl (fun _ => ?_) (fun _ => ?_)
      · exact zk_ret R rfl trivial rfl
      · refine zk_st R 5 93 [some (.inr (2, 0)), some (.inr (6, g1)), none, some (.inl (.int x3)), some (.inl (.int x4)), some (.inl (.int x5))] [.inl (.int x4), .inl (.int (m.1 2 0 3)), .inr (20, 58)] m rfl ⟨trivial, (Nat.le_of_ble_eq_true rfl), trivial, (Nat.le_of_ble_eq_true rfl), trivial, trivial⟩ ?_
        refine zk_call R (fun _ => none) id rfl (r_X7_put) (fun b hb => w_X7_put_k20 (d + 3) 0 58 (Nat.le_of_ble_eq_true rfl) (m.1 2 0 3) x4 m b hb) (fun r3 => ?_)
        refine zk_st R 8 109 [some (.inr (2, 0)), some (.inr (6, g1)), none, some (.inl (.int x3)), some (.inl (.int x4)), some (.inl (.int x5))] [.inl (.int x4), .inr (6, g1)] (z_sI r3 2 0 3 ((r3.1 2 0 3) + (1 : Int32))) rfl ⟨trivial, trivial, (Nat.le_of_ble_eq_true rfl), trivial, trivial, (Nat.le_of_ble_eq_true rfl), trivial, trivial, trivial⟩ ?_
        refine zk_call R (fun b => some (.inl (.int (z_bi b)))) (fun _ => (z_sI r3 2 0 3 ((r3.1 2 0 3) + (1 : Int32)))) rfl (r_X4_isOutlet hg1) (fun b hb => w_X4_isOutlet (d + 2) 0 g1 hg1 x4 (z_sI r3 2 0 3 ((r3.1 2 0 3) + (1 : Int32))) b hb) (fun r4 => ?_)
        refine zk_br R rfl (fun _ => ?_) (fun _ => ?_)
        · refine zk_st R 4 124 [some (.inr (2, 0)), some (.inr (6, g1)), none, some (.inl (.int x3)), some (.inl (.int x4)), some (.inl (.int x5))] [.inl (.int x3), .inl (.int x4), .inr (6, g1), .inr (2, 0)] (z_sI r3 2 0 3 ((r3.1 2 0 3) + (1 : Int32))) rfl ⟨trivial, trivial, trivial, trivial, trivial⟩ ?_
          refine zk_call R (fun b => some (.inl (.int b))) (fun _ => (z_sI r3 2 0 3 ((r3.1 2 0 3) + (1 : Int32)))) rfl (r_X0_bestStep (Nat.le_of_ble_eq_true rfl)) (fun b hb => w_X0_bestStep (d + 1) 0 g1 hg1 x4 x3 (z_sI r3 2 0 3 ((r3.1 2 0 3) + (1 : Int32))) b hb) (fun r6 => ?_)
          refine zk_mask R [true, true, false, true, false, true] rfl ?_
          exact w_X0_plan_127 d k g1 hg1 R (f_X0_plan_70 g1 j) ih x3 x5 r6 (z_sI r3 2 0 3 ((r3.1 2 0 3) + (1 : Int32)))
        · refine zk_st R 2 127 [some (.inr (2, 0)), some (.inr (6, g1)), none, some (.inl (.int x3)), some (.inl (.int x4)), some (.inl (.int x5))] [.inl (.int (-1 : Int32))] (z_sI r3 2 0 3 ((r3.1 2 0 3) + (1 : Int32))) rfl ⟨trivial, trivial, trivial⟩ ?_
          refine zk_mask R [true, true, false, true, false, true] rfl ?_
          exact w_X0_plan_127 d k g1 hg1 R (f_X0_plan_70 g1 j) ih x3 x5 (-1 : Int32) (z_sI r3 2 0 3 ((r3.1 2 0 3) + (1 : Int32)))
theorem w_X0_plan_54 (d k : Nat) {o : zO} {G : Nat → Nat → zL → List zA → zM → Prop} (g1 : Nat) (hg1 : g1 < zN 6) (R : zRu (d + 4) tX0_plan 0 (z_hf []) o G) (x2 : Int32) (x3 : Int32) (m : zM) : zLK G (fun a => (.inl none, a) : zM → zO) o (f_X0_plan_54 g1 x2 x3 m) some (k + 0) 54 [some (.inr (2, 0)), some (.inr (6, g1)), some (.inl (.int x2)), some (.inl (.int x3)), none, none] [] m := by
  unfold f_X0_plan_54
  refine zk_st R 10 70 [some (.inr (2, 0)), some (.inr (6, g1)), some (.inl (.int x2)), some (.inl (.int x3)), some (.inl (.int x2)), some (.inl (.int (0 : Int32)))] [] (z_sI (z_sI m 2 0 3 (0 : Int32)) 2 0 4 (0 : Int32)) rfl ⟨trivial, trivial, (Nat.le_of_ble_eq_true rfl), trivial, trivial, (Nat.le_of_ble_eq_true rfl), trivial, trivial, trivial, trivial, trivial⟩ ?_
  refine zk_mask R [true, true, false, true, true, true] rfl ?_
  exact w_X0_plan_70 d k g1 hg1 R zF x3 x2 (0 : Int32) (z_sI (z_sI m 2 0 3 (0 : Int32)) 2 0 4 (0 : Int32))
theorem w_X0_plan_12 (d k : Nat) {o : zO} {G : Nat → Nat → zL → List zA → zM → Prop} (g1 : Nat) (hg1 : g1 < zN 6) (R : zRu (d + 4) tX0_plan 0 (z_hf []) o G) : ∀ (j : Nat) (x2 : Int32) (x3 : Int32) (x4 : Int32) (m : zM), zLK G (fun a => (.inl none, a) : zM → zO) o (f_X0_plan_12 g1 j x2 x3 x4 m) some (k + 0) 12 [some (.inr (2, 0)), some (.inr (6, g1)), some (.inl (.int x2)), some (.inl (.int x3)), some (.inl (.int x4)), none] [] m := by
  intro j
  induction j with
  | zero =>
    intro _ _ _ _
    exact zk_none
  | succ j ih =>
    intro x2 x3 x4 m
    unfold f_X0_plan_12
    refine zk_st R 2 15 [some (.inr (2, 0)), some (.inr (6, g1)), some (.inl (.int x2)), some (.inl (.int x3)), some (.inl (.int x4)), none] [.inl (.int x3), .inl (.int x4)] m rfl ⟨trivial, trivial, trivial⟩ ?_
    refine zk_br R rfl (fun _ => ?_) (fun _ => ?_)
    · refine zk_mask R [true, true, true, true, false, false] rfl ?_
      exact w_X0_plan_54 d k g1 hg1 R x2 x3 m
    · refine zk_st R 2 22 [some (.inr (2, 0)), some (.inr (6, g1)), some (.inl (.int x2)), some (.inl (.int x3)), some (.inl (.int x4)), none] [.inl (.int (99 : Int32)), .inl (.int x4)] m rfl ⟨trivial, trivial, trivial⟩ ?_
      refine zk_br R rfl (fun _ => ?_) (fun _ => ?_)
      · refine zk_mask R [true, true, true, true, false, false] rfl ?_
        exact w_X0_plan_54 d k g1 hg1 R x2 x3 m
      · refine zk_st R 2 28 [some (.inr (2, 0)), some (.inr (6, g1)), some (.inl (.int x2)), some (.inl (.int x3)), some (.inl (.int x4)), none] [.inl (.int x4), .inr (6, g1)] m rfl ⟨trivial, trivial, trivial⟩ ?_
        refine zk_call R (fun b => some (.inl (.int (z_bi b)))) (fun _ => m) rfl (r_X4_hasHeight hg1) (fun b hb => w_X4_hasHeight (d + 2) 0 g1 hg1 x4 m b hb) (fun r3 => ?_)
        refine zk_br R rfl (fun _ => ?_) (fun _ => ?_)
        · refine zk_st R 2 12 [some (.inr (2, 0)), some (.inr (6, g1)), some (.inl (.int x2)), some (.inl (.int x3)), some (.inl (.int (x4 + (1 : Int32)))), none] [] m rfl ⟨trivial, trivial, trivial⟩ ?_
          refine zk_mask R [true, true, true, true, true, false] rfl ?_
          exact ih x2 x3 (x4 + (1 : Int32)) m
        · refine zk_st R 3 38 [some (.inr (2, 0)), some (.inr (6, g1)), some (.inl (.int x2)), some (.inl (.int x3)), some (.inl (.int x4)), none] [.inl (.int x4), .inr (6, g1), .inr (2, 0)] m rfl ⟨trivial, trivial, trivial, trivial⟩ ?_
          refine zk_call R (fun _ => none) id rfl (r_X0_solve (Nat.le_of_ble_eq_true rfl)) (fun b hb => w_X0_solve d 0 g1 hg1 x4 m b hb) (fun r5 => ?_)
          refine zk_st R 3 45 [some (.inr (2, 0)), some (.inr (6, g1)), some (.inl (.int x2)), some (.inl (.int x3)), some (.inl (.int x4)), none] [.inl (.int x4), .inr (6, g1), .inr (2, 0)] r5 rfl ⟨trivial, trivial, trivial, trivial⟩ ?_
          refine zk_call R (fun _ => none) id rfl (r_X0_keepOwn (Nat.le_of_ble_eq_true rfl)) (fun b hb => w_X0_keepOwn (d + 2) 0 g1 hg1 x4 r5 b hb) (fun r6 => ?_)
          refine zk_st R 2 12 [some (.inr (2, 0)), some (.inr (6, g1)), some (.inl (.int x2)), some (.inl (.int x3)), some (.inl (.int (x4 + (1 : Int32)))), none] [] r6 rfl ⟨trivial, trivial, trivial⟩ ?_
          refine zk_mask R [true, true, true, true, true, false] rfl ?_
          exact ih x2 x3 (x4 + (1 : Int32)) r6
theorem w_X0_plan (d k : Nat) (g1 : Nat) (hg1 : g1 < zN 6) (x2 : Int32) (m : zM) (a : zM) (ha : f_X0_plan g1 x2 m = some a) : z_Ev z_MT zN zRf (d + 5) (k + 0) 39 [.inr (2, 0), .inr (6, g1), .inl (.int x2)] m ((fun a => (.inl none, a) : zM → zO) a) := by
  refine zk_top (I := (yX0_plan, cX0_plan, 6, none, [], tX0_plan, 2, 2, 2, 0, 0, 0)) (oc := (fun a => (.inl none, a) : zM → zO)) (a := a) rfl (Nat.le_of_ble_eq_true rfl) (fun G R => ?_) ha
  unfold f_X0_plan
  refine zk_st R 3 5 [some (.inr (2, 0)), some (.inr (6, g1)), some (.inl (.int x2)), none, none, none] [.inl (.int x2), .inr (20, 3 * g1)] m rfl ⟨trivial, hg1, trivial, trivial⟩ ?_
  refine zk_call R (fun b => some (.inl (.int b))) (fun _ => m) rfl (r_X7_at) (fun b hb => w_X7_at_k20 (d + 3) 0 (3 * g1) (z_g0 hg1) x2 m b hb) (fun r1 => ?_)
  refine zk_st R 3 12 [some (.inr (2, 0)), some (.inr (6, g1)), some (.inl (.int x2)), some (.inl (.int r1)), some (.inl (.int (0 : Int32))), none] [] m rfl ⟨trivial, trivial, trivial, trivial⟩ ?_
  refine zk_mask R [true, true, true, true, true, false] rfl ?_
  exact w_X0_plan_12 d k g1 hg1 R zF x2 r1 (0 : Int32) m
theorem r_X3_trace {i : Nat} {t : List zA} (h : i < zN 5) : z_rcv zN (zKD 62) (.inr (5, i) :: t) := by
  rw [show zKD 62 = 5 from rfl]
  exact ⟨rfl, h⟩
noncomputable def f_X3_trace_22 (g1 : Nat) : Nat → Int32 → zM → Option (zM)
  | 0, _, _ => none
  | j + 1, x3, m =>
    if (m.1 5 0 0) ≤ x3 then
      Option.bind (f_X3_findSequence m) fun r2 =>
      Option.bind (f_X3_findMouths r2) fun r3 =>
      some r3
    else
      Option.bind (f_X3_choose g1 x3 m) fun r4 =>
      f_X3_trace_22 g1 j (x3 + (1 : Int32)) r4
noncomputable def f_X3_trace (g1 : Nat) (m : zM) : Option (zM) :=
  Option.bind (f_X4_size g1 m) fun r1 =>
  Option.bind (f_X3_findFlat g1 (z_sI m 5 0 0 r1)) fun r2 =>
  Option.bind (f_X3_findRanks g1 r2) fun r3 =>
  f_X3_trace_22 g1 zF (0 : Int32) r3
theorem w_X3_trace_22 (d k : Nat) {o : zO} {G : Nat → Nat → zL → List zA → zM → Prop} (g1 : Nat) (hg1 : g1 < zN 6) (R : zRu (d + 4) tX3_trace 0 (z_hf []) o G) : ∀ (j : Nat) (x3 : Int32) (m : zM), zLK G (fun a => (.inl none, a) : zM → zO) o (f_X3_trace_22 g1 j x3 m) some (k + 0) 22 [some (.inr (5, 0)), some (.inr (6, g1)), some (.inr (4, 0)), some (.inl (.int x3))] [] m := by
  intro j
  induction j with
  | zero =>
    intro _ _
    exact zk_none
  | succ j ih =>
    intro x3 m
    unfold f_X3_trace_22
    refine zk_st R 3 27 [some (.inr (5, 0)), some (.inr (6, g1)), some (.inr (4, 0)), some (.inl (.int x3))] [.inl (.int (m.1 5 0 0)), .inl (.int x3)] m rfl ⟨trivial, trivial, (Nat.le_of_ble_eq_true rfl), trivial⟩ ?_
    refine zk_br R rfl (fun _ => ?_) (fun _ => ?_)
    · refine zk_st R 1 44 [some (.inr (5, 0)), some (.inr (6, g1)), some (.inr (4, 0)), some (.inl (.int x3))] [.inr (5, 0)] m rfl ⟨trivial, trivial⟩ ?_
      refine zk_call R (fun _ => none) id rfl (r_X3_findSequence (Nat.le_of_ble_eq_true rfl)) (fun b hb => w_X3_findSequence (d + 2) 0 m b hb) (fun r2 => ?_)
      refine zk_st R 1 48 [some (.inr (5, 0)), some (.inr (6, g1)), some (.inr (4, 0)), some (.inl (.int x3))] [.inr (5, 0)] r2 rfl ⟨trivial, trivial⟩ ?_
      refine zk_call R (fun _ => none) id rfl (r_X3_findMouths (Nat.le_of_ble_eq_true rfl)) (fun b hb => w_X3_findMouths (d + 2) 0 r2 b hb) (fun r3 => ?_)
      exact zk_ret R rfl trivial rfl
    · refine zk_st R 4 34 [some (.inr (5, 0)), some (.inr (6, g1)), some (.inr (4, 0)), some (.inl (.int x3))] [.inl (.int x3), .inr (4, 0), .inr (6, g1), .inr (5, 0)] m rfl ⟨trivial, trivial, trivial, trivial, trivial⟩ ?_
      refine zk_call R (fun _ => none) id rfl (r_X3_choose (Nat.le_of_ble_eq_true rfl)) (fun b hb => w_X3_choose d 0 g1 hg1 x3 m b hb) (fun r4 => ?_)
      refine zk_st R 2 22 [some (.inr (5, 0)), some (.inr (6, g1)), some (.inr (4, 0)), some (.inl (.int (x3 + (1 : Int32))))] [] r4 rfl ⟨trivial, trivial, trivial⟩ ?_
      refine zk_mask R [true, true, true, true] rfl ?_
      exact ih (x3 + (1 : Int32)) r4
theorem w_X3_trace (d k : Nat) (g1 : Nat) (hg1 : g1 < zN 6) (m : zM) (a : zM) (ha : f_X3_trace g1 m = some a) : z_Ev z_MT zN zRf (d + 5) (k + 0) 62 [.inr (5, 0), .inr (6, g1), .inr (4, 0)] m ((fun a => (.inl none, a) : zM → zO) a) := by
  refine zk_top (I := (yX3_trace, cX3_trace, 4, none, [], tX3_trace, 5, 2, 5, 0, 0, 0)) (oc := (fun a => (.inl none, a) : zM → zO)) (a := a) rfl (Nat.le_of_ble_eq_true rfl) (fun G R => ?_) ha
  unfold f_X3_trace
  refine zk_st R 2 2 [some (.inr (5, 0)), some (.inr (6, g1)), some (.inr (4, 0)), none] [.inr (6, g1), .inr (5, 0)] m rfl ⟨trivial, trivial, trivial⟩ ?_
  refine zk_call R (fun b => some (.inl (.int b))) (fun _ => m) rfl (r_X4_size hg1) (fun b hb => w_X4_size (d + 3) 0 g1 hg1 m b hb) (fun r1 => ?_)
  refine zk_st R 4 11 [some (.inr (5, 0)), some (.inr (6, g1)), some (.inr (4, 0)), none] [.inr (4, 0), .inr (6, g1), .inr (5, 0)] (z_sI m 5 0 0 r1) rfl ⟨(Nat.le_of_ble_eq_true rfl), trivial, trivial, trivial, trivial⟩ ?_
  refine zk_call R (fun _ => none) id rfl (r_X3_findFlat (Nat.le_of_ble_eq_true rfl)) (fun b hb => w_X3_findFlat d 0 g1 hg1 (z_sI m 5 0 0 r1) b hb) (fun r2 => ?_)
  refine zk_st R 3 17 [some (.inr (5, 0)), some (.inr (6, g1)), some (.inr (4, 0)), none] [.inr (4, 0), .inr (6, g1), .inr (5, 0)] r2 rfl ⟨trivial, trivial, trivial, trivial⟩ ?_
  refine zk_call R (fun _ => none) id rfl (r_X3_findRanks (Nat.le_of_ble_eq_true rfl)) (fun b hb => w_X3_findRanks d 0 g1 hg1 r2 b hb) (fun r3 => ?_)
  refine zk_st R 2 22 [some (.inr (5, 0)), some (.inr (6, g1)), some (.inr (4, 0)), some (.inl (.int (0 : Int32)))] [] r3 rfl ⟨trivial, trivial, trivial⟩ ?_
  refine zk_mask R [true, true, true, true] rfl ?_
  exact w_X3_trace_22 d k g1 hg1 R zF (0 : Int32) r3
theorem r_X9_readCommand {i : Nat} {t : List zA} (h : i < zN 10) : z_rcv zN (zKD 97) (.inr (10, i) :: t) := by
  rw [show zKD 97 = 10 from rfl]
  exact ⟨rfl, h⟩
noncomputable def f_X9_readCommand_49 (x1 : Int32) (m : zM) : Option (Int32 × zM) :=
  Option.bind (f_X9_isDigit (z_sI m 10 0 3 ((m.1 10 0 3) + (1 : Int32)))) fun r1 =>
  if (z_bi r1) = 0 then
    some (((z_sI m 10 0 3 ((m.1 10 0 3) + (1 : Int32))).1 10 0 3), (z_sI m 10 0 3 ((m.1 10 0 3) + (1 : Int32))))
  else
    Option.bind (f_X9_readNumber (z_sI m 10 0 3 ((m.1 10 0 3) + (1 : Int32)))) fun r3 =>
    if ((z_sI r3.2 10 0 5 r3.1).1 10 0 5) < x1 then
      if ((z_sI r3.2 10 0 5 r3.1).1 10 0 4) = (111 : Int32) then
        Option.bind (f_X9_readMark (z_sI r3.2 10 0 5 r3.1)) fun r6 =>
        some (r6.1, r6.2)
      else
        Option.bind (f_X9_readValue (z_sI r3.2 10 0 5 r3.1)) fun r7 =>
        some (r7.1, r7.2)
    else
      some (((z_sI m 10 0 3 ((m.1 10 0 3) + (1 : Int32))).1 10 0 3), (z_sI r3.2 10 0 5 r3.1))
noncomputable def f_X9_readCommand (x1 : Int32) (m : zM) : Option (Int32 × zM) :=
  Option.bind (f_X9_sign m) fun r1 =>
  if ((z_sI m 10 0 4 r1).1 10 0 4) = (104 : Int32) then
    f_X9_readCommand_49 x1 (z_sI m 10 0 4 r1)
  else
    if ((z_sI m 10 0 4 r1).1 10 0 4) = (114 : Int32) then
      f_X9_readCommand_49 x1 (z_sI m 10 0 4 r1)
    else
      if ((z_sI m 10 0 4 r1).1 10 0 4) = (115 : Int32) then
        f_X9_readCommand_49 x1 (z_sI m 10 0 4 r1)
      else
        if ((z_sI m 10 0 4 r1).1 10 0 4) = (111 : Int32) then
          f_X9_readCommand_49 x1 (z_sI m 10 0 4 r1)
        else
          some (((z_sI m 10 0 4 r1).1 10 0 3), (z_sI m 10 0 4 r1))
theorem w_X9_readCommand_49 (d k : Nat) {o : zO} {G : Nat → Nat → zL → List zA → zM → Prop} (R : zRu (d + 4) tX9_readCommand 0 (z_hf []) o G) (x1 : Int32) (m : zM) : zLK G (fun a => (z_cI a.1, a.2) : Int32 × zM → zO) o (f_X9_readCommand_49 x1 m) some (k + 0) 49 [some (.inr (10, 0)), some (.inl (.int x1)), none] [] m := by
  unfold f_X9_readCommand_49
  refine zk_st R 10 65 [some (.inr (10, 0)), some (.inl (.int x1)), some (.inl (.int ((z_sI m 10 0 3 ((m.1 10 0 3) + (1 : Int32))).1 10 0 3)))] [.inr (10, 0)] (z_sI m 10 0 3 ((m.1 10 0 3) + (1 : Int32))) rfl ⟨trivial, trivial, (Nat.le_of_ble_eq_true rfl), trivial, trivial, (Nat.le_of_ble_eq_true rfl), trivial, (Nat.le_of_ble_eq_true rfl), trivial, trivial, trivial⟩ ?_
  refine zk_call R (fun b => some (.inl (.int (z_bi b)))) (fun _ => (z_sI m 10 0 3 ((m.1 10 0 3) + (1 : Int32)))) rfl (r_X9_isDigit (Nat.le_of_ble_eq_true rfl)) (fun b hb => w_X9_isDigit (d + 2) 0 (z_sI m 10 0 3 ((m.1 10 0 3) + (1 : Int32))) b hb) (fun r1 => ?_)
  refine zk_br R rfl (fun _ => ?_) (fun _ => ?_)
  · refine zk_st R 2 75 [some (.inr (10, 0)), some (.inl (.int x1)), some (.inl (.int ((z_sI m 10 0 3 ((m.1 10 0 3) + (1 : Int32))).1 10 0 3)))] [.inl (.int ((z_sI m 10 0 3 ((m.1 10 0 3) + (1 : Int32))).1 10 0 3))] (z_sI m 10 0 3 ((m.1 10 0 3) + (1 : Int32))) rfl ⟨trivial, (Nat.le_of_ble_eq_true rfl), trivial⟩ ?_
    exact zk_ret R rfl trivial rfl
  · refine zk_st R 2 78 [some (.inr (10, 0)), some (.inl (.int x1)), some (.inl (.int ((z_sI m 10 0 3 ((m.1 10 0 3) + (1 : Int32))).1 10 0 3)))] [.inr (10, 0), .inr (10, 0)] (z_sI m 10 0 3 ((m.1 10 0 3) + (1 : Int32))) rfl ⟨trivial, trivial, trivial⟩ ?_
    refine zk_call R (fun b => some (.inl (.int b.1))) (fun b => b.2) rfl (r_X9_readNumber (Nat.le_of_ble_eq_true rfl)) (fun b hb => w_X9_readNumber (d + 1) 0 (z_sI m 10 0 3 ((m.1 10 0 3) + (1 : Int32))) b hb) (fun r3 => ?_)
    refine zk_st R 4 89 [some (.inr (10, 0)), some (.inl (.int x1)), some (.inl (.int ((z_sI m 10 0 3 ((m.1 10 0 3) + (1 : Int32))).1 10 0 3)))] [.inl (.int x1), .inl (.int ((z_sI r3.2 10 0 5 r3.1).1 10 0 5))] (z_sI r3.2 10 0 5 r3.1) rfl ⟨(Nat.le_of_ble_eq_true rfl), trivial, (Nat.le_of_ble_eq_true rfl), trivial, trivial⟩ ?_
    refine zk_br R rfl (fun _ => ?_) (fun _ => ?_)
    · refine zk_st R 3 100 [some (.inr (10, 0)), some (.inl (.int x1)), some (.inl (.int ((z_sI m 10 0 3 ((m.1 10 0 3) + (1 : Int32))).1 10 0 3)))] [.inl (.int (111 : Int32)), .inl (.int ((z_sI r3.2 10 0 5 r3.1).1 10 0 4))] (z_sI r3.2 10 0 5 r3.1) rfl ⟨trivial, (Nat.le_of_ble_eq_true rfl), trivial, trivial⟩ ?_
      refine zk_br R rfl (fun _ => ?_) (fun _ => ?_)
      · refine zk_st R 1 104 [some (.inr (10, 0)), some (.inl (.int x1)), some (.inl (.int ((z_sI m 10 0 3 ((m.1 10 0 3) + (1 : Int32))).1 10 0 3)))] [.inr (10, 0)] (z_sI r3.2 10 0 5 r3.1) rfl ⟨trivial, trivial⟩ ?_
        refine zk_call R (fun b => some (.inl (.int b.1))) (fun b => b.2) rfl (r_X9_readMark (Nat.le_of_ble_eq_true rfl)) (fun b hb => w_X9_readMark (d + 2) 0 (z_sI r3.2 10 0 5 r3.1) b hb) (fun r6 => ?_)
        refine zk_st R 1 114 [some (.inr (10, 0)), some (.inl (.int x1)), some (.inl (.int ((z_sI m 10 0 3 ((m.1 10 0 3) + (1 : Int32))).1 10 0 3)))] [.inl (.int r6.1)] r6.2 rfl ⟨trivial, trivial⟩ ?_
        exact zk_ret R rfl trivial rfl
      · refine zk_st R 1 111 [some (.inr (10, 0)), some (.inl (.int x1)), some (.inl (.int ((z_sI m 10 0 3 ((m.1 10 0 3) + (1 : Int32))).1 10 0 3)))] [.inr (10, 0)] (z_sI r3.2 10 0 5 r3.1) rfl ⟨trivial, trivial⟩ ?_
        refine zk_call R (fun b => some (.inl (.int b.1))) (fun b => b.2) rfl (r_X9_readValue (Nat.le_of_ble_eq_true rfl)) (fun b hb => w_X9_readValue d 0 (z_sI r3.2 10 0 5 r3.1) b hb) (fun r7 => ?_)
        exact zk_ret R rfl trivial rfl
    · refine zk_st R 1 93 [some (.inr (10, 0)), some (.inl (.int x1)), some (.inl (.int ((z_sI m 10 0 3 ((m.1 10 0 3) + (1 : Int32))).1 10 0 3)))] [.inl (.int ((z_sI m 10 0 3 ((m.1 10 0 3) + (1 : Int32))).1 10 0 3))] (z_sI r3.2 10 0 5 r3.1) rfl ⟨trivial, trivial⟩ ?_
      exact zk_ret R rfl trivial rfl
theorem w_X9_readCommand (d k : Nat) (x1 : Int32) (m : zM) (a : Int32 × zM) (ha : f_X9_readCommand x1 m = some a) : z_Ev z_MT zN zRf (d + 5) (k + 0) 97 [.inr (10, 0), .inl (.int x1)] m ((fun a => (z_cI a.1, a.2) : Int32 × zM → zO) a) := by
  refine zk_top (I := (yX9_readCommand, cX9_readCommand, 3, (some .int), [], tX9_readCommand, 10, 1, 10, 0, 0, 0)) (oc := (fun a => (z_cI a.1, a.2) : Int32 × zM → zO)) (a := a) rfl (Nat.le_of_ble_eq_true rfl) (fun G R => ?_) ha
  unfold f_X9_readCommand
  refine zk_st R 2 2 [some (.inr (10, 0)), some (.inl (.int x1)), none] [.inr (10, 0), .inr (10, 0)] m rfl ⟨trivial, trivial, trivial⟩ ?_
  refine zk_call R (fun b => some (.inl (.int b))) (fun _ => m) rfl (r_X9_sign (Nat.le_of_ble_eq_true rfl)) (fun b hb => w_X9_sign (d + 3) 0 m b hb) (fun r1 => ?_)
  refine zk_st R 4 14 [some (.inr (10, 0)), some (.inl (.int x1)), none] [.inl (.int (104 : Int32)), .inl (.int ((z_sI m 10 0 4 r1).1 10 0 4))] (z_sI m 10 0 4 r1) rfl ⟨(Nat.le_of_ble_eq_true rfl), trivial, (Nat.le_of_ble_eq_true rfl), trivial, trivial⟩ ?_
  refine zk_br R rfl (fun _ => ?_) (fun _ => ?_)
  · refine zk_mask R [true, true, false] rfl ?_
    exact w_X9_readCommand_49 d k R x1 (z_sI m 10 0 4 r1)
  · refine zk_st R 3 23 [some (.inr (10, 0)), some (.inl (.int x1)), none] [.inl (.int (114 : Int32)), .inl (.int ((z_sI m 10 0 4 r1).1 10 0 4))] (z_sI m 10 0 4 r1) rfl ⟨trivial, (Nat.le_of_ble_eq_true rfl), trivial, trivial⟩ ?_
    refine zk_br R rfl (fun _ => ?_) (fun _ => ?_)
    · refine zk_mask R [true, true, false] rfl ?_
      exact w_X9_readCommand_49 d k R x1 (z_sI m 10 0 4 r1)
    · refine zk_st R 3 32 [some (.inr (10, 0)), some (.inl (.int x1)), none] [.inl (.int (115 : Int32)), .inl (.int ((z_sI m 10 0 4 r1).1 10 0 4))] (z_sI m 10 0 4 r1) rfl ⟨trivial, (Nat.le_of_ble_eq_true rfl), trivial, trivial⟩ ?_
      refine zk_br R rfl (fun _ => ?_) (fun _ => ?_)
      · refine zk_mask R [true, true, false] rfl ?_
        exact w_X9_readCommand_49 d k R x1 (z_sI m 10 0 4 r1)
      · refine zk_st R 3 41 [some (.inr (10, 0)), some (.inl (.int x1)), none] [.inl (.int (111 : Int32)), .inl (.int ((z_sI m 10 0 4 r1).1 10 0 4))] (z_sI m 10 0 4 r1) rfl ⟨trivial, (Nat.le_of_ble_eq_true rfl), trivial, trivial⟩ ?_
        refine zk_br R rfl (fun _ => ?_) (fun _ => ?_)
        · refine zk_mask R [true, true, false] rfl ?_
          exact w_X9_readCommand_49 d k R x1 (z_sI m 10 0 4 r1)
        · refine zk_st R 2 48 [some (.inr (10, 0)), some (.inl (.int x1)), none] [.inl (.int ((z_sI m 10 0 4 r1).1 10 0 3))] (z_sI m 10 0 4 r1) rfl ⟨trivial, (Nat.le_of_ble_eq_true rfl), trivial⟩ ?_
          exact zk_ret R rfl trivial rfl
theorem r_X11_level {i : Nat} {t : List zA} (h : i < zN 12) : z_rcv zN (zKD 113) (.inr (12, i) :: t) := by
  rw [show zKD 113 = 12 from rfl]
  exact ⟨rfl, h⟩
noncomputable def f_X11_level (x1 : Int32) (m : zM) : Option ((Int32 ⊕ Nat) × zM) :=
  z_bx (f_X11_requireCell x1 m) (fun r1 m2 =>
  Option.bind (f_X2_fill 0 m2) fun r3 =>
  Option.bind (f_X7_at 20 33 x1 r3) fun r4 =>
  some (.inl r4, r3)) id
theorem w_X11_level (d k : Nat) (x1 : Int32) (m : zM) (a : (Int32 ⊕ Nat) × zM) (ha : f_X11_level x1 m = some a) : z_Ev z_MT zN zRf (d + 5) (k + 1) 113 [.inr (12, 0), .inl (.int x1)] m ((fun a => (z_cX z_cI a.1, a.2) : (Int32 ⊕ Nat) × zM → zO) a) := by
  refine zk_top (I := (yX11_level, cX11_level, 2, (some .int), [], tX11_level, 12, 1, 12, 0, 0, 0)) (oc := (fun a => (z_cX z_cI a.1, a.2) : (Int32 ⊕ Nat) × zM → zO)) (a := a) rfl (Nat.le_of_ble_eq_true rfl) (fun G R => ?_) ha
  unfold f_X11_level
  refine zk_st R 2 2 [some (.inr (12, 0)), some (.inl (.int x1))] [.inl (.int x1), .inr (12, 0)] m rfl ⟨trivial, trivial, trivial⟩ ?_
  refine zk_callz R (k + 0) 1 (fun _ => none) rfl (r_X11_requireCell (Nat.le_of_ble_eq_true rfl)) (fun b m' hb => w_X11_requireCell (d + 2) 0 x1 m _ hb) (fun e m' hb => w_X11_requireCell (d + 2) 0 x1 m _ hb) (fun _ => rfl) (fun _ _ => rfl) (fun r1 m2 => ?_)
  refine zk_st R 4 13 [some (.inr (12, 0)), some (.inl (.int x1))] [.inr (6, 0), .inr (4, 0)] m2 rfl ⟨trivial, (Nat.le_of_ble_eq_true rfl), trivial, (Nat.le_of_ble_eq_true rfl), trivial⟩ ?_
  refine zk_call R (fun _ => none) id rfl (r_X2_fill (Nat.le_of_ble_eq_true rfl)) (fun b hb => w_X2_fill d 0 0 (Nat.le_of_ble_eq_true rfl) m2 b hb) (fun r3 => ?_)
  refine zk_st R 4 24 [some (.inr (12, 0)), some (.inl (.int x1))] [.inl (.int x1), .inr (20, 33)] r3 rfl ⟨trivial, (Nat.le_of_ble_eq_true rfl), (Nat.le_of_ble_eq_true rfl), trivial, trivial⟩ ?_
  refine zk_call R (fun b => some (.inl (.int b))) (fun _ => r3) rfl (r_X7_at) (fun b hb => w_X7_at_k20 (d + 3) 0 33 (Nat.le_of_ble_eq_true rfl) x1 r3 b hb) (fun r4 => ?_)
  exact zk_ret R rfl trivial rfl
theorem r_X11_levelByPools {i : Nat} {t : List zA} (h : i < zN 12) : z_rcv zN (zKD 114) (.inr (12, i) :: t) := by
  rw [show zKD 114 = 12 from rfl]
  exact ⟨rfl, h⟩
noncomputable def f_X11_levelByPools (x1 : Int32) (m : zM) : Option ((Int32 ⊕ Nat) × zM) :=
  z_bx (f_X11_requireCell x1 m) (fun r1 m2 =>
  Option.bind (f_X1_find 0 m2) fun r3 =>
  Option.bind (f_X1_rootAt x1 r3) fun r4 =>
  if r4 = (-1 : Int32) then
    Option.bind (f_X7_at 20 0 x1 r3) fun r6 =>
    some (.inl r6, r3)
  else
    Option.bind (f_X1_rim r4 r3) fun r7 =>
    some (.inl r7, r3)) id
theorem w_X11_levelByPools (d k : Nat) (x1 : Int32) (m : zM) (a : (Int32 ⊕ Nat) × zM) (ha : f_X11_levelByPools x1 m = some a) : z_Ev z_MT zN zRf (d + 5) (k + 1) 114 [.inr (12, 0), .inl (.int x1)] m ((fun a => (z_cX z_cI a.1, a.2) : (Int32 ⊕ Nat) × zM → zO) a) := by
  refine zk_top (I := (yX11_levelByPools, cX11_levelByPools, 3, (some .int), [], tX11_levelByPools, 12, 1, 12, 0, 0, 0)) (oc := (fun a => (z_cX z_cI a.1, a.2) : (Int32 ⊕ Nat) × zM → zO)) (a := a) rfl (Nat.le_of_ble_eq_true rfl) (fun G R => ?_) ha
  unfold f_X11_levelByPools
  refine zk_st R 2 2 [some (.inr (12, 0)), some (.inl (.int x1)), none] [.inl (.int x1), .inr (12, 0)] m rfl ⟨trivial, trivial, trivial⟩ ?_
  refine zk_callz R (k + 0) 1 (fun _ => none) rfl (r_X11_requireCell (Nat.le_of_ble_eq_true rfl)) (fun b m' hb => w_X11_requireCell (d + 2) 0 x1 m _ hb) (fun e m' hb => w_X11_requireCell (d + 2) 0 x1 m _ hb) (fun _ => rfl) (fun _ _ => rfl) (fun r1 m2 => ?_)
  refine zk_st R 4 13 [some (.inr (12, 0)), some (.inl (.int x1)), none] [.inr (6, 0), .inr (3, 0)] m2 rfl ⟨trivial, (Nat.le_of_ble_eq_true rfl), trivial, (Nat.le_of_ble_eq_true rfl), trivial⟩ ?_
  refine zk_call R (fun _ => none) id rfl (r_X1_find (Nat.le_of_ble_eq_true rfl)) (fun b hb => w_X1_find d 0 0 (Nat.le_of_ble_eq_true rfl) m2 b hb) (fun r3 => ?_)
  refine zk_st R 3 21 [some (.inr (12, 0)), some (.inl (.int x1)), none] [.inl (.int x1), .inr (3, 0)] r3 rfl ⟨trivial, (Nat.le_of_ble_eq_true rfl), trivial, trivial⟩ ?_
  refine zk_call R (fun b => some (.inl (.int b))) (fun _ => r3) rfl (r_X1_rootAt (Nat.le_of_ble_eq_true rfl)) (fun b hb => w_X1_rootAt (d + 2) 0 x1 r3 b hb) (fun r4 => ?_)
  refine zk_st R 3 27 [some (.inr (12, 0)), some (.inl (.int x1)), some (.inl (.int r4))] [.inl (.int (-1 : Int32)), .inl (.int r4)] r3 rfl ⟨trivial, trivial, trivial, trivial⟩ ?_
  refine zk_br R rfl (fun _ => ?_) (fun _ => ?_)
  · refine zk_st R 4 38 [some (.inr (12, 0)), some (.inl (.int x1)), some (.inl (.int r4))] [.inl (.int x1), .inr (20, 0)] r3 rfl ⟨trivial, (Nat.le_of_ble_eq_true rfl), (Nat.le_of_ble_eq_true rfl), trivial, trivial⟩ ?_
    refine zk_call R (fun b => some (.inl (.int b))) (fun _ => r3) rfl (r_X7_at) (fun b hb => w_X7_at_k20 (d + 3) 0 0 (Nat.le_of_ble_eq_true rfl) x1 r3 b hb) (fun r6 => ?_)
    refine zk_st R 1 52 [some (.inr (12, 0)), some (.inl (.int x1)), some (.inl (.int r4))] [.inl (.int r6)] r3 rfl ⟨trivial, trivial⟩ ?_
    exact zk_ret R rfl trivial rfl
  · refine zk_st R 3 49 [some (.inr (12, 0)), some (.inl (.int x1)), some (.inl (.int r4))] [.inl (.int r4), .inr (3, 0)] r3 rfl ⟨trivial, (Nat.le_of_ble_eq_true rfl), trivial, trivial⟩ ?_
    refine zk_call R (fun b => some (.inl (.int b))) (fun _ => r3) rfl (r_X1_rim (Nat.le_of_ble_eq_true rfl)) (fun b hb => w_X1_rim (d + 2) 0 r4 r3 b hb) (fun r7 => ?_)
    exact zk_ret R rfl trivial rfl
theorem r_X11_lakeOf {i : Nat} {t : List zA} (h : i < zN 12) : z_rcv zN (zKD 116) (.inr (12, i) :: t) := by
  rw [show zKD 116 = 12 from rfl]
  exact ⟨rfl, h⟩
noncomputable def f_X11_lakeOf (x1 : Int32) (m : zM) : Option ((Int32 ⊕ Nat) × zM) :=
  z_bx (f_X11_requireCell x1 m) (fun r1 m2 =>
  Option.bind (f_X2_fill 0 m2) fun r3 =>
  Option.bind (f_X7_at 20 35 x1 r3) fun r4 =>
  if r4 = (-1 : Int32) then
    some (.inr 3, r3)
  else
    some (.inl r4, r3)) id
theorem w_X11_lakeOf (d k : Nat) (x1 : Int32) (m : zM) (a : (Int32 ⊕ Nat) × zM) (ha : f_X11_lakeOf x1 m = some a) : z_Ev z_MT zN zRf (d + 5) (k + 2) 116 [.inr (12, 0), .inl (.int x1)] m ((fun a => (z_cX z_cI a.1, a.2) : (Int32 ⊕ Nat) × zM → zO) a) := by
  refine zk_top (I := (yX11_lakeOf, cX11_lakeOf, 3, (some .int), [], tX11_lakeOf, 12, 1, 12, 0, 0, 0)) (oc := (fun a => (z_cX z_cI a.1, a.2) : (Int32 ⊕ Nat) × zM → zO)) (a := a) rfl (Nat.le_of_ble_eq_true rfl) (fun G R => ?_) ha
  unfold f_X11_lakeOf
  refine zk_st R 2 2 [some (.inr (12, 0)), some (.inl (.int x1)), none] [.inl (.int x1), .inr (12, 0)] m rfl ⟨trivial, trivial, trivial⟩ ?_
  refine zk_callz R (k + 1) 1 (fun _ => none) rfl (r_X11_requireCell (Nat.le_of_ble_eq_true rfl)) (fun b m' hb => w_X11_requireCell (d + 2) 0 x1 m _ hb) (fun e m' hb => w_X11_requireCell (d + 2) 0 x1 m _ hb) (fun _ => rfl) (fun _ _ => rfl) (fun r1 m2 => ?_)
  refine zk_st R 4 13 [some (.inr (12, 0)), some (.inl (.int x1)), none] [.inr (6, 0), .inr (4, 0)] m2 rfl ⟨trivial, (Nat.le_of_ble_eq_true rfl), trivial, (Nat.le_of_ble_eq_true rfl), trivial⟩ ?_
  refine zk_call R (fun _ => none) id rfl (r_X2_fill (Nat.le_of_ble_eq_true rfl)) (fun b hb => w_X2_fill d 0 0 (Nat.le_of_ble_eq_true rfl) m2 b hb) (fun r3 => ?_)
  refine zk_st R 4 24 [some (.inr (12, 0)), some (.inl (.int x1)), none] [.inl (.int x1), .inr (20, 35)] r3 rfl ⟨trivial, (Nat.le_of_ble_eq_true rfl), (Nat.le_of_ble_eq_true rfl), trivial, trivial⟩ ?_
  refine zk_call R (fun b => some (.inl (.int b))) (fun _ => r3) rfl (r_X7_at) (fun b hb => w_X7_at_k20 (d + 3) 0 35 (Nat.le_of_ble_eq_true rfl) x1 r3 b hb) (fun r4 => ?_)
  refine zk_st R 3 30 [some (.inr (12, 0)), some (.inl (.int x1)), some (.inl (.int r4))] [.inl (.int (-1 : Int32)), .inl (.int r4)] r3 rfl ⟨trivial, trivial, trivial, trivial⟩ ?_
  refine zk_br R rfl (fun _ => ?_) (fun _ => ?_)
  · exact zk_thr R (k := k + 0) rfl rfl
  · refine zk_st R 1 45 [some (.inr (12, 0)), some (.inl (.int x1)), some (.inl (.int r4))] [.inl (.int r4)] r3 rfl ⟨trivial, trivial⟩ ?_
    exact zk_ret R rfl trivial rfl
theorem r_X11_meanDepth {i : Nat} {t : List zA} (h : i < zN 12) : z_rcv zN (zKD 121) (.inr (12, i) :: t) := by
  rw [show zKD 121 = 12 from rfl]
  exact ⟨rfl, h⟩
noncomputable def f_X11_meanDepth (m : zM) : Option ((UInt64 ⊕ Nat) × zM) :=
  Option.bind (f_X2_fill 0 m) fun r1 =>
  Option.bind (f_J13_bitCount_95d88 (r1.2.1 4 0 5) r1) fun r2 =>
  if r2 = 0 then
    some (.inr 4, r1)
  else
    Option.bind (f_X7_sum 20 34 (r1.2.1 4 0 5) r1) fun r4 =>
    z_gd (z_nan (FP.ddiv (FP.i2d r4) (FP.i2d r2))) <| some (.inl (FP.ddiv (FP.i2d r4) (FP.i2d r2)), r1)
theorem w_X11_meanDepth (d k : Nat) (m : zM) (a : (UInt64 ⊕ Nat) × zM) (ha : f_X11_meanDepth m = some a) : z_Ev z_MT zN zRf (d + 5) (k + 1) 121 [.inr (12, 0)] m ((fun a => (z_cX z_cD a.1, a.2) : (UInt64 ⊕ Nat) × zM → zO) a) := by
  refine zk_top (I := (yX11_meanDepth, cX11_meanDepth, 2, (some .double), [], tX11_meanDepth, 12, 0, 12, 0, 0, 0)) (oc := (fun a => (z_cX z_cD a.1, a.2) : (UInt64 ⊕ Nat) × zM → zO)) (a := a) rfl (Nat.le_of_ble_eq_true rfl) (fun G R => ?_) ha
  unfold f_X11_meanDepth
  refine zk_st R 4 8 [some (.inr (12, 0)), none] [.inr (6, 0), .inr (4, 0)] m rfl ⟨trivial, (Nat.le_of_ble_eq_true rfl), trivial, (Nat.le_of_ble_eq_true rfl), trivial⟩ ?_
  refine zk_call R (fun _ => none) id rfl (r_X2_fill (Nat.le_of_ble_eq_true rfl)) (fun b hb => w_X2_fill d 0 0 (Nat.le_of_ble_eq_true rfl) m b hb) (fun r1 => ?_)
  refine zk_st R 3 18 [some (.inr (12, 0)), none] [.inl (.long (r1.2.1 4 0 5))] r1 rfl ⟨trivial, (Nat.le_of_ble_eq_true rfl), (Nat.le_of_ble_eq_true rfl), trivial⟩ ?_
  refine zk_call R (fun b => some (.inl (.int b))) (fun _ => r1) rfl (r_J13_bitCount_95d88) (fun b hb => w_J13_bitCount_95d88 (d + 3) 0 (r1.2.1 4 0 5) r1 b hb) (fun r2 => ?_)
  refine zk_st R 2 23 [some (.inr (12, 0)), some (.inl (.int r2))] [.inl (.int r2)] r1 rfl ⟨trivial, trivial, trivial⟩ ?_
  refine zk_br R rfl (fun _ => ?_) (fun _ => ?_)
  · exact zk_thr R (k := k + 0) rfl rfl
  · refine zk_st R 6 51 [some (.inr (12, 0)), some (.inl (.int r2))] [.inl (.long (r1.2.1 4 0 5)), .inr (20, 34)] r1 rfl ⟨trivial, (Nat.le_of_ble_eq_true rfl), (Nat.le_of_ble_eq_true rfl), trivial, (Nat.le_of_ble_eq_true rfl), (Nat.le_of_ble_eq_true rfl), trivial⟩ ?_
    refine zk_call R (fun b => some (.inl (.int b))) (fun _ => r1) rfl (r_X7_sum) (fun b hb => w_X7_sum_k20 (d + 2) 0 34 (Nat.le_of_ble_eq_true rfl) (r1.2.1 4 0 5) r1 b hb) (fun r4 => ?_)
    refine zk_gd fun e5 => ?_
    refine zk_st R 4 58 [some (.inr (12, 0)), some (.inl (.int r2))] [.inl (.double (FP.ddiv (FP.i2d r4) (FP.i2d r2)))] r1 rfl ⟨trivial, trivial, trivial, (z_nan_n e5), trivial⟩ ?_
    exact zk_ret R rfl trivial rfl
theorem r_X11_depression {i : Nat} {t : List zA} (h : i < zN 12) : z_rcv zN (zKD 133) (.inr (12, i) :: t) := by
  rw [show zKD 133 = 12 from rfl]
  exact ⟨rfl, h⟩
noncomputable def f_X11_depression (x1 : Int32) (x2 : Int32) (m : zM) : Option ((Int32 ⊕ Nat) × zM) :=
  Option.bind (f_X1_find 0 m) fun r1 =>
  if x1 < 0 then
    some (.inr 1, r1)
  else
    if x1 < (r1.1 3 0 0) then
      z_bx (f_X11_requireRange x2 (0 : Int32) (7 : Int32) r1) (fun r4 m5 =>
      if x2 = (0 : Int32) then
        Option.bind (f_X7_at 21 0 x1 m5) fun r7 =>
        some (.inl r7, m5)
      else if x2 = (1 : Int32) then
        Option.bind (f_X7_at 21 1 x1 m5) fun r9 =>
        some (.inl r9, m5)
      else if x2 = (2 : Int32) then
        Option.bind (f_X7_at_ 31 1 x1 m5) fun r11 =>
        Option.bind (f_J13_bitCount_95d88 r11 m5) fun r12 =>
        some (.inl r12, m5)
      else if x2 = (3 : Int32) then
        Option.bind (f_X1_capacity 0 x1 m5) fun r14 =>
        some (.inl r14, m5)
      else if x2 = (4 : Int32) then
        Option.bind (f_X7_at_ 31 0 x1 m5) fun r16 =>
        Option.bind (f_X7_lowest r16 m5) fun r17 =>
        some (.inl r17, m5)
      else if x2 = (5 : Int32) then
        Option.bind (f_X7_at 21 2 x1 m5) fun r19 =>
        some (.inl r19, m5)
      else if x2 = (6 : Int32) then
        Option.bind (f_X1_children x1 m5) fun r21 =>
        some (.inl r21, m5)
      else
        Option.bind (f_X1_depthInTree x1 m5) fun r22 =>
        some (.inl r22, m5)) id
    else
      some (.inr 1, r1)
theorem w_X11_depression (d k : Nat) (x1 : Int32) (x2 : Int32) (m : zM) (a : (Int32 ⊕ Nat) × zM) (ha : f_X11_depression x1 x2 m = some a) : z_Ev z_MT zN zRf (d + 5) (k + 1) 133 [.inr (12, 0), .inl (.int x1), .inl (.int x2)] m ((fun a => (z_cX z_cI a.1, a.2) : (Int32 ⊕ Nat) × zM → zO) a) := by
  refine zk_top (I := (yX11_depression, cX11_depression, 3, (some .int), [], tX11_depression, 12, 2, 12, 0, 0, 0)) (oc := (fun a => (z_cX z_cI a.1, a.2) : (Int32 ⊕ Nat) × zM → zO)) (a := a) rfl (Nat.le_of_ble_eq_true rfl) (fun G R => ?_) ha
  unfold f_X11_depression
  refine zk_st R 4 8 [some (.inr (12, 0)), some (.inl (.int x1)), some (.inl (.int x2))] [.inr (6, 0), .inr (3, 0)] m rfl ⟨trivial, (Nat.le_of_ble_eq_true rfl), trivial, (Nat.le_of_ble_eq_true rfl), trivial⟩ ?_
  refine zk_call R (fun _ => none) id rfl (r_X1_find (Nat.le_of_ble_eq_true rfl)) (fun b hb => w_X1_find d 0 0 (Nat.le_of_ble_eq_true rfl) m b hb) (fun r1 => ?_)
  refine zk_st R 1 12 [some (.inr (12, 0)), some (.inl (.int x1)), some (.inl (.int x2))] [.inl (.int x1)] r1 rfl ⟨trivial, trivial⟩ ?_
  refine zk_br R rfl (fun _ => ?_) (fun _ => ?_)
  · exact zk_thr R (k := k + 0) rfl rfl
  · refine zk_st R 4 23 [some (.inr (12, 0)), some (.inl (.int x1)), some (.inl (.int x2))] [.inl (.int (r1.1 3 0 0)), .inl (.int x1)] r1 rfl ⟨trivial, trivial, (Nat.le_of_ble_eq_true rfl), (Nat.le_of_ble_eq_true rfl), trivial⟩ ?_
    refine zk_br R rfl (fun _ => ?_) (fun _ => ?_)
    · refine zk_st R 3 41 [some (.inr (12, 0)), some (.inl (.int x1)), some (.inl (.int x2))] [.inl (.int (7 : Int32)), .inl (.int (0 : Int32)), .inl (.int x2)] r1 rfl ⟨trivial, trivial, trivial, trivial⟩ ?_
      refine zk_callz R (k + 0) 1 (fun _ => none) rfl (r_X11_requireRange) (fun b m' hb => w_X11_requireRange (d + 3) 0 x2 (0 : Int32) (7 : Int32) r1 _ hb) (fun e m' hb => w_X11_requireRange (d + 3) 0 x2 (0 : Int32) (7 : Int32) r1 _ hb) (fun _ => rfl) (fun _ _ => rfl) (fun r4 m5 => ?_)
      refine zk_st R 1 45 [some (.inr (12, 0)), some (.inl (.int x1)), some (.inl (.int x2))] [.inl (.int x2)] m5 rfl ⟨trivial, trivial⟩ ?_
      refine zk_if (fun e6 => ?_) (fun e6 => ?_)
      · refine zk_tsw R rfl (z_swv e6 (by decide +kernel : _ = 88)) ?_
        refine zk_st R 4 96 [some (.inr (12, 0)), some (.inl (.int x1)), some (.inl (.int x2))] [.inl (.int x1), .inr (21, 0)] m5 rfl ⟨trivial, (Nat.le_of_ble_eq_true rfl), (Nat.le_of_ble_eq_true rfl), trivial, trivial⟩ ?_
        refine zk_call R (fun b => some (.inl (.int b))) (fun _ => m5) rfl (r_X7_at) (fun b hb => w_X7_at_k21 (d + 3) 0 0 (Nat.le_of_ble_eq_true rfl) x1 m5 b hb) (fun r7 => ?_)
        exact zk_ret R rfl trivial rfl
      refine zk_if (fun e8 => ?_) (fun e8 => ?_)
      · refine zk_tsw R rfl (z_swv e8 (by decide +kernel : _ = 100)) ?_
        refine zk_st R 4 108 [some (.inr (12, 0)), some (.inl (.int x1)), some (.inl (.int x2))] [.inl (.int x1), .inr (21, 1)] m5 rfl ⟨trivial, (Nat.le_of_ble_eq_true rfl), (Nat.le_of_ble_eq_true rfl), trivial, trivial⟩ ?_
        refine zk_call R (fun b => some (.inl (.int b))) (fun _ => m5) rfl (r_X7_at) (fun b hb => w_X7_at_k21 (d + 3) 0 1 (Nat.le_of_ble_eq_true rfl) x1 m5 b hb) (fun r9 => ?_)
        exact zk_ret R rfl trivial rfl
      refine zk_if (fun e10 => ?_) (fun e10 => ?_)
      · refine zk_tsw R rfl (z_swv e10 (by decide +kernel : _ = 112)) ?_
        refine zk_st R 4 120 [some (.inr (12, 0)), some (.inl (.int x1)), some (.inl (.int x2))] [.inl (.int x1), .inr (31, 1)] m5 rfl ⟨trivial, (Nat.le_of_ble_eq_true rfl), (Nat.le_of_ble_eq_true rfl), trivial, trivial⟩ ?_
        refine zk_call R (fun b => some (.inl (.long b))) (fun _ => m5) rfl (r_X7_at_) (fun b hb => w_X7_at__k31 (d + 3) 0 1 (Nat.le_of_ble_eq_true rfl) x1 m5 b hb) (fun r11 => ?_)
        refine zk_call R (fun b => some (.inl (.int b))) (fun _ => m5) rfl (r_J13_bitCount_95d88) (fun b hb => w_J13_bitCount_95d88 (d + 3) 0 r11 m5 b hb) (fun r12 => ?_)
        exact zk_ret R rfl trivial rfl
      refine zk_if (fun e13 => ?_) (fun e13 => ?_)
      · refine zk_tsw R rfl (z_swv e13 (by decide +kernel : _ = 127)) ?_
        refine zk_st R 5 136 [some (.inr (12, 0)), some (.inl (.int x1)), some (.inl (.int x2))] [.inl (.int x1), .inr (6, 0), .inr (3, 0)] m5 rfl ⟨trivial, (Nat.le_of_ble_eq_true rfl), trivial, (Nat.le_of_ble_eq_true rfl), trivial, trivial⟩ ?_
        refine zk_call R (fun b => some (.inl (.int b))) (fun _ => m5) rfl (r_X1_capacity (Nat.le_of_ble_eq_true rfl)) (fun b hb => w_X1_capacity (d + 1) 0 0 (Nat.le_of_ble_eq_true rfl) x1 m5 b hb) (fun r14 => ?_)
        exact zk_ret R rfl trivial rfl
      refine zk_if (fun e15 => ?_) (fun e15 => ?_)
      · refine zk_tsw R rfl (z_swv e15 (by decide +kernel : _ = 140)) ?_
        refine zk_st R 4 148 [some (.inr (12, 0)), some (.inl (.int x1)), some (.inl (.int x2))] [.inl (.int x1), .inr (31, 0)] m5 rfl ⟨trivial, (Nat.le_of_ble_eq_true rfl), (Nat.le_of_ble_eq_true rfl), trivial, trivial⟩ ?_
        refine zk_call R (fun b => some (.inl (.long b))) (fun _ => m5) rfl (r_X7_at_) (fun b hb => w_X7_at__k31 (d + 3) 0 0 (Nat.le_of_ble_eq_true rfl) x1 m5 b hb) (fun r16 => ?_)
        refine zk_call R (fun b => some (.inl (.int b))) (fun _ => m5) rfl (r_X7_lowest) (fun b hb => w_X7_lowest (d + 2) 0 r16 m5 b hb) (fun r17 => ?_)
        exact zk_ret R rfl trivial rfl
      refine zk_if (fun e18 => ?_) (fun e18 => ?_)
      · refine zk_tsw R rfl (z_swv e18 (by decide +kernel : _ = 155)) ?_
        refine zk_st R 4 163 [some (.inr (12, 0)), some (.inl (.int x1)), some (.inl (.int x2))] [.inl (.int x1), .inr (21, 2)] m5 rfl ⟨trivial, (Nat.le_of_ble_eq_true rfl), (Nat.le_of_ble_eq_true rfl), trivial, trivial⟩ ?_
        refine zk_call R (fun b => some (.inl (.int b))) (fun _ => m5) rfl (r_X7_at) (fun b hb => w_X7_at_k21 (d + 3) 0 2 (Nat.le_of_ble_eq_true rfl) x1 m5 b hb) (fun r19 => ?_)
        exact zk_ret R rfl trivial rfl
      refine zk_if (fun e20 => ?_) (fun e20 => ?_)
      · refine zk_tsw R rfl (z_swv e20 (by decide +kernel : _ = 167)) ?_
        refine zk_st R 3 172 [some (.inr (12, 0)), some (.inl (.int x1)), some (.inl (.int x2))] [.inl (.int x1), .inr (3, 0)] m5 rfl ⟨trivial, (Nat.le_of_ble_eq_true rfl), trivial, trivial⟩ ?_
        refine zk_call R (fun b => some (.inl (.int b))) (fun _ => m5) rfl (r_X1_children (Nat.le_of_ble_eq_true rfl)) (fun b hb => w_X1_children (d + 2) 0 x1 m5 b hb) (fun r21 => ?_)
        exact zk_ret R rfl trivial rfl
      refine zk_tsw R rfl (z_swd 7 (by decide) (fun i hi => ?_) (by decide : _ = 176)) ?_
      · have hi' : i = 0 ∨ i = 1 ∨ i = 2 ∨ i = 3 ∨ i = 4 ∨ i = 5 ∨ i = 6 := by omega
        rcases hi' with rfl | rfl | rfl | rfl | rfl | rfl | rfl
        · exact e6
        · exact e8
        · exact e10
        · exact e13
        · exact e15
        · exact e18
        · exact e20
      · refine zk_st R 3 181 [some (.inr (12, 0)), some (.inl (.int x1)), some (.inl (.int x2))] [.inl (.int x1), .inr (3, 0)] m5 rfl ⟨trivial, (Nat.le_of_ble_eq_true rfl), trivial, trivial⟩ ?_
        refine zk_call R (fun b => some (.inl (.int b))) (fun _ => m5) rfl (r_X1_depthInTree (Nat.le_of_ble_eq_true rfl)) (fun b hb => w_X1_depthInTree (d + 2) 0 x1 m5 b hb) (fun r22 => ?_)
        exact zk_ret R rfl trivial rfl
    · exact zk_thr R (k := k + 0) rfl rfl
theorem r_X11_depressionAt {i : Nat} {t : List zA} (h : i < zN 12) : z_rcv zN (zKD 134) (.inr (12, i) :: t) := by
  rw [show zKD 134 = 12 from rfl]
  exact ⟨rfl, h⟩
noncomputable def f_X11_depressionAt (x1 : Int32) (x2 : Int32) (m : zM) : Option ((Int32 ⊕ Nat) × zM) :=
  z_bx (f_X11_requireCell x1 m) (fun r1 m2 =>
  z_bx (f_X11_requireRange x2 (0 : Int32) (99 : Int32) m2) (fun r3 m4 =>
  Option.bind (f_X1_find 0 m4) fun r5 =>
  Option.bind (f_X1_at 0 x1 x2 r5) fun r6 =>
  if r6 = (-1 : Int32) then
    some (.inr 3, r5)
  else
    some (.inl r6, r5)) id) id
theorem w_X11_depressionAt (d k : Nat) (x1 : Int32) (x2 : Int32) (m : zM) (a : (Int32 ⊕ Nat) × zM) (ha : f_X11_depressionAt x1 x2 m = some a) : z_Ev z_MT zN zRf (d + 5) (k + 3) 134 [.inr (12, 0), .inl (.int x1), .inl (.int x2)] m ((fun a => (z_cX z_cI a.1, a.2) : (Int32 ⊕ Nat) × zM → zO) a) := by
  refine zk_top (I := (yX11_depressionAt, cX11_depressionAt, 4, (some .int), [], tX11_depressionAt, 12, 2, 12, 0, 0, 0)) (oc := (fun a => (z_cX z_cI a.1, a.2) : (Int32 ⊕ Nat) × zM → zO)) (a := a) rfl (Nat.le_of_ble_eq_true rfl) (fun G R => ?_) ha
  unfold f_X11_depressionAt
  refine zk_st R 2 2 [some (.inr (12, 0)), some (.inl (.int x1)), some (.inl (.int x2)), none] [.inl (.int x1), .inr (12, 0)] m rfl ⟨trivial, trivial, trivial⟩ ?_
  refine zk_callz R (k + 2) 1 (fun _ => none) rfl (r_X11_requireCell (Nat.le_of_ble_eq_true rfl)) (fun b m' hb => w_X11_requireCell (d + 2) 0 x1 m _ hb) (fun e m' hb => w_X11_requireCell (d + 2) 0 x1 m _ hb) (fun _ => rfl) (fun _ _ => rfl) (fun r1 m2 => ?_)
  refine zk_st R 3 9 [some (.inr (12, 0)), some (.inl (.int x1)), some (.inl (.int x2)), none] [.inl (.int (99 : Int32)), .inl (.int (0 : Int32)), .inl (.int x2)] m2 rfl ⟨trivial, trivial, trivial, trivial⟩ ?_
  refine zk_callz R (k + 1) 1 (fun _ => none) rfl (r_X11_requireRange) (fun b m' hb => w_X11_requireRange (d + 3) 0 x2 (0 : Int32) (99 : Int32) m2 _ hb) (fun e m' hb => w_X11_requireRange (d + 3) 0 x2 (0 : Int32) (99 : Int32) m2 _ hb) (fun _ => rfl) (fun _ _ => rfl) (fun r3 m4 => ?_)
  refine zk_st R 4 20 [some (.inr (12, 0)), some (.inl (.int x1)), some (.inl (.int x2)), none] [.inr (6, 0), .inr (3, 0)] m4 rfl ⟨trivial, (Nat.le_of_ble_eq_true rfl), trivial, (Nat.le_of_ble_eq_true rfl), trivial⟩ ?_
  refine zk_call R (fun _ => none) id rfl (r_X1_find (Nat.le_of_ble_eq_true rfl)) (fun b hb => w_X1_find d 0 0 (Nat.le_of_ble_eq_true rfl) m4 b hb) (fun r5 => ?_)
  refine zk_st R 6 33 [some (.inr (12, 0)), some (.inl (.int x1)), some (.inl (.int x2)), none] [.inl (.int x2), .inl (.int x1), .inr (6, 0), .inr (3, 0)] r5 rfl ⟨trivial, (Nat.le_of_ble_eq_true rfl), trivial, (Nat.le_of_ble_eq_true rfl), trivial, trivial, trivial⟩ ?_
  refine zk_call R (fun b => some (.inl (.int b))) (fun _ => r5) rfl (r_X1_at (Nat.le_of_ble_eq_true rfl)) (fun b hb => w_X1_at d 0 0 (Nat.le_of_ble_eq_true rfl) x1 x2 r5 b hb) (fun r6 => ?_)
  refine zk_st R 3 39 [some (.inr (12, 0)), some (.inl (.int x1)), some (.inl (.int x2)), some (.inl (.int r6))] [.inl (.int (-1 : Int32)), .inl (.int r6)] r5 rfl ⟨trivial, trivial, trivial, trivial⟩ ?_
  refine zk_br R rfl (fun _ => ?_) (fun _ => ?_)
  · exact zk_thr R (k := k + 0) rfl rfl
  · refine zk_st R 1 54 [some (.inr (12, 0)), some (.inl (.int x1)), some (.inl (.int x2)), some (.inl (.int r6))] [.inl (.int r6)] r5 rfl ⟨trivial, trivial⟩ ?_
    exact zk_ret R rfl trivial rfl
