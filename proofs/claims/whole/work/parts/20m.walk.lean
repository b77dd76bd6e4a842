theorem r_X12_command {i : Nat} {t : List zA} (h : i < zN 13) : z_rcv zN (zKD 250) (.inr (13, i) :: t) := by
  rw [show zKD 250 = 13 from rfl]
  exact ⟨rfl, h⟩
noncomputable def f_X12_command_190 (s1 : Int32) (s2 : Int32) (m : zM) : Option (Int32 × zM) :=
  z_gd (z_inb s1 (z_alen 23)) <| some ((0 : Int32), (z_sI m 23 2 (Int32.toNatClampNeg s1) s2))
noncomputable def f_X12_command_171 (x3 : Int32) (x4 : Int32) (m : zM) : Option (Int32 × zM) :=
  if x4 = 0 then
    f_X12_command_190 ((195 : Int32) + x3) (0 : Int32) m
  else
    f_X12_command_190 ((195 : Int32) + x3) (1 : Int32) m
noncomputable def f_X12_command_108 : Nat → Int32 → Int32 → Int32 → Int32 → zM → Option (Int32 × zM)
  | 0, _, _, _, _, _ => none
  | j + 1, x3, x4, x5, x6, m =>
    Option.bind (f_X12_cells m) fun r1 =>
    if r1 ≤ x6 then
      if x4 = 0 then
        z_gd (z_inb ((195 : Int32) + x3) (z_alen 23)) <| if (m.1 23 2 (Int32.toNatClampNeg ((195 : Int32) + x3))) = (1 : Int32) then
          if x5 = 0 then
            some ((2 : Int32), m)
          else
            f_X12_command_171 x3 x4 m
        else
          f_X12_command_171 x3 x4 m
      else
        f_X12_command_171 x3 x4 m
    else
      if x6 = x3 then
        f_X12_command_108 j x3 x4 x5 (x6 + (1 : Int32)) m
      else
        z_gd (z_inb ((195 : Int32) + x6) (z_alen 23)) <| f_X12_command_108 j x3 x4 (x5 + (m.1 23 2 (Int32.toNatClampNeg ((195 : Int32) + x6)))) (x6 + (1 : Int32)) m
noncomputable def f_X12_command_102 (x3 : Int32) (x4 : Int32) (m : zM) : Option (Int32 × zM) :=
  f_X12_command_108 zF x3 x4 (0 : Int32) (0 : Int32) m
noncomputable def f_X12_command_295 (x3 : Int32) (x4 : Int32) (s1 : Int32) (m : zM) : Option (Int32 × zM) :=
  z_gd (z_inb (s1 + x3) (z_alen 23)) <| some ((0 : Int32), (z_sI m 23 2 (Int32.toNatClampNeg (s1 + x3)) x4))
noncomputable def f_X12_command_260 (x1 : Int32) (x3 : Int32) (x4 : Int32) (m : zM) : Option (Int32 × zM) :=
  if 0 ≤ x4 then
    if x1 = (104 : Int32) then
      f_X12_command_295 x3 x4 (3 : Int32) m
    else
      if x1 = (114 : Int32) then
        f_X12_command_295 x3 x4 (67 : Int32) m
      else
        f_X12_command_295 x3 x4 (131 : Int32) m
  else
    some ((1 : Int32), m)
noncomputable def f_X12_command_31 (x1 : Int32) (m : zM) : Option (Int32 × zM) :=
  Option.bind (f_X12_number (z_sI m 13 0 9 ((m.1 13 0 9) + (1 : Int32)))) fun r1 =>
  if 0 ≤ r1.1 then
    Option.bind (f_X12_isCell r1.1 r1.2) fun r3 =>
    if (z_bi r3) = 0 then
      some ((1 : Int32), (z_sI r1.2 13 0 9 ((z_sI m 13 0 9 ((m.1 13 0 9) + (1 : Int32))).1 13 0 9)))
    else
      if x1 = (111 : Int32) then
        Option.bind (f_X12_takes (43 : Int32) r1.2) fun r6 =>
        if (z_bi r6.1) = 0 then
          Option.bind (f_X12_takes (45 : Int32) r6.2) fun r8 =>
          if (z_bi r8.1) = 0 then
            some ((1 : Int32), r8.2)
          else
            f_X12_command_102 r1.1 (z_bi r6.1) r8.2
        else
          f_X12_command_102 r1.1 (z_bi r6.1) r6.2
      else
        Option.bind (f_X12_takes (61 : Int32) r1.2) fun r10 =>
        if (z_bi r10.1) = 0 then
          some ((1 : Int32), r10.2)
        else
          if x1 = (104 : Int32) then
            Option.bind (f_X12_number r10.2) fun r13 =>
            f_X12_command_260 x1 r1.1 r13.1 r13.2
          else
            Option.bind (f_X12_here r10.2) fun r14 =>
            Option.bind (f_X12_in (Int32.toInt64 r14) (48 : Int64) (57 : Int64) r10.2) fun r15 =>
            if (z_bi r15) = 0 then
              f_X12_command_260 x1 r1.1 (-1 : Int32) r10.2
            else
              z_gd (z_inb (r10.2.1 13 0 9) (z_alen 25)) <| f_X12_command_260 x1 r1.1 (((z_sI r10.2 13 0 9 ((r10.2.1 13 0 9) + (1 : Int32))).1 25 0 (Int32.toNatClampNeg (r10.2.1 13 0 9))) - (48 : Int32)) (z_sI r10.2 13 0 9 ((r10.2.1 13 0 9) + (1 : Int32)))
  else
    some ((1 : Int32), r1.2)
noncomputable def f_X12_command (m : zM) : Option (Int32 × zM) :=
  Option.bind (f_X12_here m) fun r1 =>
  if r1 = (104 : Int32) then
    f_X12_command_31 r1 m
  else
    if r1 = (114 : Int32) then
      f_X12_command_31 r1 m
    else
      if r1 = (115 : Int32) then
        f_X12_command_31 r1 m
      else
        if r1 = (111 : Int32) then
          f_X12_command_31 r1 m
        else
          some ((1 : Int32), m)
theorem w_X12_command_190 (d k : Nat) {o : zO} {G : Nat → Nat → zL → List zA → zM → Prop} (R : zRu (d + 2) tX12_command 0 (z_hf []) o G) (s1 : Int32) (s2 : Int32) (m : zM) : zLK G (fun a => (z_cI a.1, a.2) : Int32 × zM → zO) o (f_X12_command_190 s1 s2 m) some (k + 0) 190 [none, none, none, none, none, none, none] [.inl (.int s2), .inl (.int s1), .inr (23, 2)] m := by
  unfold f_X12_command_190
  refine zk_gd fun e1 => ?_
  refine zk_st R 2 192 [none, none, none, none, none, none, none] [.inl (.int (0 : Int32))] (z_sI m 23 2 (Int32.toNatClampNeg s1) s2) rfl ⟨⟨(Nat.le_of_ble_eq_true rfl), z_inb_in e1⟩, trivial, trivial⟩ ?_
  exact zk_ret R rfl trivial rfl
theorem w_X12_command_171 (d k : Nat) {o : zO} {G : Nat → Nat → zL → List zA → zM → Prop} (R : zRu (d + 2) tX12_command 0 (z_hf []) o G) (x3 : Int32) (x4 : Int32) (m : zM) : zLK G (fun a => (z_cI a.1, a.2) : Int32 × zM → zO) o (f_X12_command_171 x3 x4 m) some (k + 0) 171 [some (.inr (13, 0)), none, none, some (.inl (.int x3)), some (.inl (.int x4)), none, none] [] m := by
  unfold f_X12_command_171
  refine zk_st R 6 182 [some (.inr (13, 0)), none, none, some (.inl (.int x3)), some (.inl (.int x4)), none, none] [.inl (.int x4), .inl (.int ((195 : Int32) + x3)), .inr (23, 2)] m rfl ⟨trivial, (Nat.le_of_ble_eq_true rfl), trivial, trivial, trivial, trivial, trivial⟩ ?_
  refine zk_br R rfl (fun _ => ?_) (fun _ => ?_)
  · refine zk_st R 1 190 [some (.inr (13, 0)), none, none, some (.inl (.int x3)), some (.inl (.int x4)), none, none] [.inl (.int (0 : Int32)), .inl (.int ((195 : Int32) + x3)), .inr (23, 2)] m rfl ⟨trivial, trivial⟩ ?_
    refine zk_mask R [false, false, false, false, false, false, false] rfl ?_
    exact w_X12_command_190 d k R ((195 : Int32) + x3) (0 : Int32) m
  · refine zk_st R 2 190 [some (.inr (13, 0)), none, none, some (.inl (.int x3)), some (.inl (.int x4)), none, none] [.inl (.int (1 : Int32)), .inl (.int ((195 : Int32) + x3)), .inr (23, 2)] m rfl ⟨trivial, trivial, trivial⟩ ?_
    refine zk_mask R [false, false, false, false, false, false, false] rfl ?_
    exact w_X12_command_190 d k R ((195 : Int32) + x3) (1 : Int32) m
theorem w_X12_command_108 (d k : Nat) {o : zO} {G : Nat → Nat → zL → List zA → zM → Prop} (R : zRu (d + 2) tX12_command 0 (z_hf []) o G) : ∀ (j : Nat) (x3 : Int32) (x4 : Int32) (x5 : Int32) (x6 : Int32) (m : zM), zLK G (fun a => (z_cI a.1, a.2) : Int32 × zM → zO) o (f_X12_command_108 j x3 x4 x5 x6 m) some (k + 0) 108 [some (.inr (13, 0)), none, none, some (.inl (.int x3)), some (.inl (.int x4)), some (.inl (.int x5)), some (.inl (.int x6))] [] m := by
  intro j
  induction j with
  | zero =>
    intro _ _ _ _ _
    exact zk_none
  | succ j ih =>
    intro x3 x4 x5 x6 m
    unfold f_X12_command_108
    refine zk_st R 2 111 [some (.inr (13, 0)), none, none, some (.inl (.int x3)), some (.inl (.int x4)), some (.inl (.int x5)), some (.inl (.int x6))] [.inr (13, 0), .inl (.int x6)] m rfl ⟨trivial, trivial, trivial⟩ ?_
    refine zk_call R (fun b => some (.inl (.int b))) (fun _ => m) rfl (r_X12_cells (Nat.le_of_ble_eq_true rfl)) (fun b hb => w_X12_cells (d + 1) 0 m b hb) (fun r1 => ?_)
    refine zk_br R rfl (fun _ => ?_) (fun _ => ?_)
    · refine zk_st R 1 147 [some (.inr (13, 0)), none, none, some (.inl (.int x3)), some (.inl (.int x4)), some (.inl (.int x5)), some (.inl (.int x6))] [.inl (.int x4)] m rfl ⟨trivial, trivial⟩ ?_
      refine zk_br R rfl (fun _ => ?_) (fun _ => ?_)
      · refine zk_gd fun e4 => ?_
        refine zk_st R 7 161 [some (.inr (13, 0)), none, none, some (.inl (.int x3)), some (.inl (.int x4)), some (.inl (.int x5)), some (.inl (.int x6))] [.inl (.int (1 : Int32)), .inl (.int (m.1 23 2 (Int32.toNatClampNeg ((195 : Int32) + x3))))] m rfl ⟨trivial, (Nat.le_of_ble_eq_true rfl), trivial, trivial, trivial, ⟨(Nat.le_of_ble_eq_true rfl), z_inb_in e4⟩, trivial, trivial⟩ ?_
        refine zk_br R rfl (fun _ => ?_) (fun _ => ?_)
        · refine zk_st R 1 166 [some (.inr (13, 0)), none, none, some (.inl (.int x3)), some (.inl (.int x4)), some (.inl (.int x5)), some (.inl (.int x6))] [.inl (.int x5)] m rfl ⟨trivial, trivial⟩ ?_
          refine zk_br R rfl (fun _ => ?_) (fun _ => ?_)
          · refine zk_st R 1 170 [some (.inr (13, 0)), none, none, some (.inl (.int x3)), some (.inl (.int x4)), some (.inl (.int x5)), some (.inl (.int x6))] [.inl (.int (2 : Int32))] m rfl ⟨trivial, trivial⟩ ?_
            exact zk_ret R rfl trivial rfl
          · refine zk_mask R [true, false, false, true, true, false, false] rfl ?_
            exact w_X12_command_171 d k R x3 x4 m
        · refine zk_mask R [true, false, false, true, true, false, false] rfl ?_
          exact w_X12_command_171 d k R x3 x4 m
      · refine zk_mask R [true, false, false, true, true, false, false] rfl ?_
        exact w_X12_command_171 d k R x3 x4 m
    · refine zk_st R 2 120 [some (.inr (13, 0)), none, none, some (.inl (.int x3)), some (.inl (.int x4)), some (.inl (.int x5)), some (.inl (.int x6))] [.inl (.int x3), .inl (.int x6)] m rfl ⟨trivial, trivial, trivial⟩ ?_
      refine zk_br R rfl (fun _ => ?_) (fun _ => ?_)
      · refine zk_st R 2 108 [some (.inr (13, 0)), none, none, some (.inl (.int x3)), some (.inl (.int x4)), some (.inl (.int x5)), some (.inl (.int (x6 + (1 : Int32))))] [] m rfl ⟨trivial, trivial, trivial⟩ ?_
        refine zk_mask R [true, false, false, true, true, true, true] rfl ?_
        exact ih x3 x4 x5 (x6 + (1 : Int32)) m
      · refine zk_gd fun e8 => ?_
        refine zk_st R 11 108 [some (.inr (13, 0)), none, none, some (.inl (.int x3)), some (.inl (.int x4)), some (.inl (.int (x5 + (m.1 23 2 (Int32.toNatClampNeg ((195 : Int32) + x6)))))), some (.inl (.int (x6 + (1 : Int32))))] [] m rfl ⟨trivial, trivial, (Nat.le_of_ble_eq_true rfl), trivial, trivial, trivial, ⟨(Nat.le_of_ble_eq_true rfl), z_inb_in e8⟩, trivial, trivial, trivial, trivial, trivial⟩ ?_
        refine zk_mask R [true, false, false, true, true, true, true] rfl ?_
        exact ih x3 x4 (x5 + (m.1 23 2 (Int32.toNatClampNeg ((195 : Int32) + x6)))) (x6 + (1 : Int32)) m
theorem w_X12_command_102 (d k : Nat) {o : zO} {G : Nat → Nat → zL → List zA → zM → Prop} (R : zRu (d + 2) tX12_command 0 (z_hf []) o G) (x3 : Int32) (x4 : Int32) (m : zM) : zLK G (fun a => (z_cI a.1, a.2) : Int32 × zM → zO) o (f_X12_command_102 x3 x4 m) some (k + 0) 102 [some (.inr (13, 0)), none, none, some (.inl (.int x3)), some (.inl (.int x4)), none, none] [] m := by
  unfold f_X12_command_102
  refine zk_st R 4 108 [some (.inr (13, 0)), none, none, some (.inl (.int x3)), some (.inl (.int x4)), some (.inl (.int (0 : Int32))), some (.inl (.int (0 : Int32)))] [] m rfl ⟨trivial, trivial, trivial, trivial, trivial⟩ ?_
  refine zk_mask R [true, false, false, true, true, true, true] rfl ?_
  exact w_X12_command_108 d k R zF x3 x4 (0 : Int32) (0 : Int32) m
theorem w_X12_command_295 (d k : Nat) {o : zO} {G : Nat → Nat → zL → List zA → zM → Prop} (R : zRu (d + 2) tX12_command 0 (z_hf []) o G) (x3 : Int32) (x4 : Int32) (s1 : Int32) (m : zM) : zLK G (fun a => (z_cI a.1, a.2) : Int32 × zM → zO) o (f_X12_command_295 x3 x4 s1 m) some (k + 0) 295 [none, none, none, some (.inl (.int x3)), some (.inl (.int x4)), none, none] [.inl (.int s1), .inr (23, 2)] m := by
  unfold f_X12_command_295
  refine zk_gd fun e1 => ?_
  refine zk_st R 5 301 [none, none, none, some (.inl (.int x3)), some (.inl (.int x4)), none, none] [.inl (.int (0 : Int32))] (z_sI m 23 2 (Int32.toNatClampNeg (s1 + x3)) x4) rfl ⟨trivial, trivial, trivial, ⟨(Nat.le_of_ble_eq_true rfl), z_inb_in e1⟩, trivial, trivial⟩ ?_
  exact zk_ret R rfl trivial rfl
theorem w_X12_command_260 (d k : Nat) {o : zO} {G : Nat → Nat → zL → List zA → zM → Prop} (R : zRu (d + 2) tX12_command 0 (z_hf []) o G) (x1 : Int32) (x3 : Int32) (x4 : Int32) (m : zM) : zLK G (fun a => (z_cI a.1, a.2) : Int32 × zM → zO) o (f_X12_command_260 x1 x3 x4 m) some (k + 0) 260 [some (.inr (13, 0)), some (.inl (.int x1)), none, some (.inl (.int x3)), some (.inl (.int x4)), none, none] [] m := by
  unfold f_X12_command_260
  refine zk_st R 1 262 [some (.inr (13, 0)), some (.inl (.int x1)), none, some (.inl (.int x3)), some (.inl (.int x4)), none, none] [.inl (.int x4)] m rfl ⟨trivial, trivial⟩ ?_
  refine zk_br R rfl (fun _ => ?_) (fun _ => ?_)
  · refine zk_st R 4 274 [some (.inr (13, 0)), some (.inl (.int x1)), none, some (.inl (.int x3)), some (.inl (.int x4)), none, none] [.inl (.int (104 : Int32)), .inl (.int x1), .inr (23, 2)] m rfl ⟨trivial, (Nat.le_of_ble_eq_true rfl), trivial, trivial, trivial⟩ ?_
    refine zk_br R rfl (fun _ => ?_) (fun _ => ?_)
    · refine zk_st R 2 295 [some (.inr (13, 0)), some (.inl (.int x1)), none, some (.inl (.int x3)), some (.inl (.int x4)), none, none] [.inl (.int (3 : Int32)), .inr (23, 2)] m rfl ⟨trivial, trivial, trivial⟩ ?_
      refine zk_mask R [false, false, false, true, true, false, false] rfl ?_
      exact w_X12_command_295 d k R x3 x4 (3 : Int32) m
    · refine zk_st R 2 284 [some (.inr (13, 0)), some (.inl (.int x1)), none, some (.inl (.int x3)), some (.inl (.int x4)), none, none] [.inl (.int (114 : Int32)), .inl (.int x1), .inr (23, 2)] m rfl ⟨trivial, trivial, trivial⟩ ?_
      refine zk_br R rfl (fun _ => ?_) (fun _ => ?_)
      · refine zk_st R 2 295 [some (.inr (13, 0)), some (.inl (.int x1)), none, some (.inl (.int x3)), some (.inl (.int x4)), none, none] [.inl (.int (67 : Int32)), .inr (23, 2)] m rfl ⟨trivial, trivial, trivial⟩ ?_
        refine zk_mask R [false, false, false, true, true, false, false] rfl ?_
        exact w_X12_command_295 d k R x3 x4 (67 : Int32) m
      · refine zk_st R 1 295 [some (.inr (13, 0)), some (.inl (.int x1)), none, some (.inl (.int x3)), some (.inl (.int x4)), none, none] [.inl (.int (131 : Int32)), .inr (23, 2)] m rfl ⟨trivial, trivial⟩ ?_
        refine zk_mask R [false, false, false, true, true, false, false] rfl ?_
        exact w_X12_command_295 d k R x3 x4 (131 : Int32) m
  · refine zk_st R 1 266 [some (.inr (13, 0)), some (.inl (.int x1)), none, some (.inl (.int x3)), some (.inl (.int x4)), none, none] [.inl (.int (1 : Int32))] m rfl ⟨trivial, trivial⟩ ?_
    exact zk_ret R rfl trivial rfl
theorem w_X12_command_31 (d k : Nat) {o : zO} {G : Nat → Nat → zL → List zA → zM → Prop} (R : zRu (d + 2) tX12_command 0 (z_hf []) o G) (x1 : Int32) (m : zM) : zLK G (fun a => (z_cI a.1, a.2) : Int32 × zM → zO) o (f_X12_command_31 x1 m) some (k + 0) 31 [some (.inr (13, 0)), some (.inl (.int x1)), none, none, none, none, none] [] m := by
  unfold f_X12_command_31
  refine zk_st R 10 47 [some (.inr (13, 0)), some (.inl (.int x1)), some (.inl (.int ((z_sI m 13 0 9 ((m.1 13 0 9) + (1 : Int32))).1 13 0 9))), none, none, none, none] [.inr (13, 0)] (z_sI m 13 0 9 ((m.1 13 0 9) + (1 : Int32))) rfl ⟨trivial, trivial, (Nat.le_of_ble_eq_true rfl), trivial, trivial, (Nat.le_of_ble_eq_true rfl), trivial, (Nat.le_of_ble_eq_true rfl), trivial, trivial, trivial⟩ ?_
  refine zk_call R (fun b => some (.inl (.int b.1))) (fun b => b.2) rfl (r_X12_number (Nat.le_of_ble_eq_true rfl)) (fun b hb => w_X12_number d 0 (z_sI m 13 0 9 ((m.1 13 0 9) + (1 : Int32))) b hb) (fun r1 => ?_)
  refine zk_st R 2 52 [some (.inr (13, 0)), some (.inl (.int x1)), some (.inl (.int ((z_sI m 13 0 9 ((m.1 13 0 9) + (1 : Int32))).1 13 0 9))), some (.inl (.int r1.1)), none, none, none] [.inl (.int r1.1)] r1.2 rfl ⟨trivial, trivial, trivial⟩ ?_
  refine zk_br R rfl (fun _ => ?_) (fun _ => ?_)
  · refine zk_st R 2 59 [some (.inr (13, 0)), some (.inl (.int x1)), some (.inl (.int ((z_sI m 13 0 9 ((m.1 13 0 9) + (1 : Int32))).1 13 0 9))), some (.inl (.int r1.1)), none, none, none] [.inl (.int r1.1), .inr (13, 0)] r1.2 rfl ⟨trivial, trivial, trivial⟩ ?_
    refine zk_call R (fun b => some (.inl (.int (z_bi b)))) (fun _ => r1.2) rfl (r_X12_isCell (Nat.le_of_ble_eq_true rfl)) (fun b hb => w_X12_isCell d 0 r1.1 r1.2 b hb) (fun r3 => ?_)
    refine zk_br R rfl (fun _ => ?_) (fun _ => ?_)
    · refine zk_st R 4 71 [some (.inr (13, 0)), some (.inl (.int x1)), some (.inl (.int ((z_sI m 13 0 9 ((m.1 13 0 9) + (1 : Int32))).1 13 0 9))), some (.inl (.int r1.1)), none, none, none] [.inl (.int (1 : Int32))] (z_sI r1.2 13 0 9 ((z_sI m 13 0 9 ((m.1 13 0 9) + (1 : Int32))).1 13 0 9)) rfl ⟨trivial, trivial, (Nat.le_of_ble_eq_true rfl), trivial, trivial⟩ ?_
      exact zk_ret R rfl trivial rfl
    · refine zk_st R 2 75 [some (.inr (13, 0)), some (.inl (.int x1)), some (.inl (.int ((z_sI m 13 0 9 ((m.1 13 0 9) + (1 : Int32))).1 13 0 9))), some (.inl (.int r1.1)), none, none, none] [.inl (.int (111 : Int32)), .inl (.int x1)] r1.2 rfl ⟨trivial, trivial, trivial⟩ ?_
      refine zk_br R rfl (fun _ => ?_) (fun _ => ?_)
      · refine zk_st R 2 81 [some (.inr (13, 0)), some (.inl (.int x1)), some (.inl (.int ((z_sI m 13 0 9 ((m.1 13 0 9) + (1 : Int32))).1 13 0 9))), some (.inl (.int r1.1)), none, none, none] [.inl (.int (43 : Int32)), .inr (13, 0)] r1.2 rfl ⟨trivial, trivial, trivial⟩ ?_
        refine zk_call R (fun b => some (.inl (.int (z_bi b.1)))) (fun b => b.2) rfl (r_X12_takes (Nat.le_of_ble_eq_true rfl)) (fun b hb => w_X12_takes d 0 (43 : Int32) r1.2 b hb) (fun r6 => ?_)
        refine zk_st R 2 88 [some (.inr (13, 0)), some (.inl (.int x1)), some (.inl (.int ((z_sI m 13 0 9 ((m.1 13 0 9) + (1 : Int32))).1 13 0 9))), some (.inl (.int r1.1)), some (.inl (.int (z_bi r6.1))), none, none] [.inl (.int (z_bi r6.1))] r6.2 rfl ⟨trivial, trivial, trivial⟩ ?_
        refine zk_br R rfl (fun _ => ?_) (fun _ => ?_)
        · refine zk_st R 2 94 [some (.inr (13, 0)), some (.inl (.int x1)), some (.inl (.int ((z_sI m 13 0 9 ((m.1 13 0 9) + (1 : Int32))).1 13 0 9))), some (.inl (.int r1.1)), some (.inl (.int (z_bi r6.1))), none, none] [.inl (.int (45 : Int32)), .inr (13, 0)] r6.2 rfl ⟨trivial, trivial, trivial⟩ ?_
          refine zk_call R (fun b => some (.inl (.int (z_bi b.1)))) (fun b => b.2) rfl (r_X12_takes (Nat.le_of_ble_eq_true rfl)) (fun b hb => w_X12_takes d 0 (45 : Int32) r6.2 b hb) (fun r8 => ?_)
          refine zk_br R rfl (fun _ => ?_) (fun _ => ?_)
          · refine zk_st R 1 101 [some (.inr (13, 0)), some (.inl (.int x1)), some (.inl (.int ((z_sI m 13 0 9 ((m.1 13 0 9) + (1 : Int32))).1 13 0 9))), some (.inl (.int r1.1)), some (.inl (.int (z_bi r6.1))), none, none] [.inl (.int (1 : Int32))] r8.2 rfl ⟨trivial, trivial⟩ ?_
            exact zk_ret R rfl trivial rfl
          · refine zk_mask R [true, false, false, true, true, false, false] rfl ?_
            exact w_X12_command_102 d k R r1.1 (z_bi r6.1) r8.2
        · refine zk_mask R [true, false, false, true, true, false, false] rfl ?_
          exact w_X12_command_102 d k R r1.1 (z_bi r6.1) r6.2
      · refine zk_st R 2 196 [some (.inr (13, 0)), some (.inl (.int x1)), some (.inl (.int ((z_sI m 13 0 9 ((m.1 13 0 9) + (1 : Int32))).1 13 0 9))), some (.inl (.int r1.1)), none, none, none] [.inl (.int (61 : Int32)), .inr (13, 0)] r1.2 rfl ⟨trivial, trivial, trivial⟩ ?_
        refine zk_call R (fun b => some (.inl (.int (z_bi b.1)))) (fun b => b.2) rfl (r_X12_takes (Nat.le_of_ble_eq_true rfl)) (fun b hb => w_X12_takes d 0 (61 : Int32) r1.2 b hb) (fun r10 => ?_)
        refine zk_br R rfl (fun _ => ?_) (fun _ => ?_)
        · refine zk_st R 1 203 [some (.inr (13, 0)), some (.inl (.int x1)), some (.inl (.int ((z_sI m 13 0 9 ((m.1 13 0 9) + (1 : Int32))).1 13 0 9))), some (.inl (.int r1.1)), none, none, none] [.inl (.int (1 : Int32))] r10.2 rfl ⟨trivial, trivial⟩ ?_
          exact zk_ret R rfl trivial rfl
        · refine zk_st R 4 210 [some (.inr (13, 0)), some (.inl (.int x1)), some (.inl (.int ((z_sI m 13 0 9 ((m.1 13 0 9) + (1 : Int32))).1 13 0 9))), some (.inl (.int r1.1)), some (.inl (.int (-1 : Int32))), none, none] [.inl (.int (104 : Int32)), .inl (.int x1)] r10.2 rfl ⟨trivial, trivial, trivial, trivial, trivial⟩ ?_
          refine zk_br R rfl (fun _ => ?_) (fun _ => ?_)
          · refine zk_st R 1 214 [some (.inr (13, 0)), some (.inl (.int x1)), some (.inl (.int ((z_sI m 13 0 9 ((m.1 13 0 9) + (1 : Int32))).1 13 0 9))), some (.inl (.int r1.1)), some (.inl (.int (-1 : Int32))), none, none] [.inr (13, 0)] r10.2 rfl ⟨trivial, trivial⟩ ?_
            refine zk_call R (fun b => some (.inl (.int b.1))) (fun b => b.2) rfl (r_X12_number (Nat.le_of_ble_eq_true rfl)) (fun b hb => w_X12_number d 0 r10.2 b hb) (fun r13 => ?_)
            refine zk_st R 2 260 [some (.inr (13, 0)), some (.inl (.int x1)), some (.inl (.int ((z_sI m 13 0 9 ((m.1 13 0 9) + (1 : Int32))).1 13 0 9))), some (.inl (.int r1.1)), some (.inl (.int r13.1)), none, none] [] r13.2 rfl ⟨trivial, trivial, trivial⟩ ?_
            refine zk_mask R [true, true, false, true, true, false, false] rfl ?_
            exact w_X12_command_260 d k R x1 r1.1 r13.1 r13.2
          · refine zk_st R 1 223 [some (.inr (13, 0)), some (.inl (.int x1)), some (.inl (.int ((z_sI m 13 0 9 ((m.1 13 0 9) + (1 : Int32))).1 13 0 9))), some (.inl (.int r1.1)), some (.inl (.int (-1 : Int32))), none, none] [.inr (13, 0)] r10.2 rfl ⟨trivial, trivial⟩ ?_
            refine zk_call R (fun b => some (.inl (.int b))) (fun _ => r10.2) rfl (r_X12_here (Nat.le_of_ble_eq_true rfl)) (fun b hb => w_X12_here (d + 1) 0 r10.2 b hb) (fun r14 => ?_)
            refine zk_st R 3 233 [some (.inr (13, 0)), some (.inl (.int x1)), some (.inl (.int ((z_sI m 13 0 9 ((m.1 13 0 9) + (1 : Int32))).1 13 0 9))), some (.inl (.int r1.1)), some (.inl (.int (-1 : Int32))), none, none] [.inl (.long (57 : Int64)), .inl (.long (48 : Int64)), .inl (.long (Int32.toInt64 r14))] r10.2 rfl ⟨trivial, trivial, trivial, trivial⟩ ?_
            refine zk_call R (fun b => some (.inl (.int (z_bi b)))) (fun _ => r10.2) rfl (r_X12_in) (fun b hb => w_X12_in (d + 1) 0 (Int32.toInt64 r14) (48 : Int64) (57 : Int64) r10.2 b hb) (fun r15 => ?_)
            refine zk_br R rfl (fun _ => ?_) (fun _ => ?_)
            · refine zk_mask R [true, true, false, true, true, false, false] rfl ?_
              exact w_X12_command_260 d k R x1 r1.1 (-1 : Int32) r10.2
            · refine zk_gd fun e17 => ?_
              refine zk_st R 13 260 [some (.inr (13, 0)), some (.inl (.int x1)), some (.inl (.int ((z_sI m 13 0 9 ((m.1 13 0 9) + (1 : Int32))).1 13 0 9))), some (.inl (.int r1.1)), some (.inl (.int (((z_sI r10.2 13 0 9 ((r10.2.1 13 0 9) + (1 : Int32))).1 25 0 (Int32.toNatClampNeg (r10.2.1 13 0 9))) - (48 : Int32)))), none, none] [] (z_sI r10.2 13 0 9 ((r10.2.1 13 0 9) + (1 : Int32))) rfl ⟨trivial, (Nat.le_of_ble_eq_true rfl), trivial, trivial, (Nat.le_of_ble_eq_true rfl), trivial, trivial, trivial, (Nat.le_of_ble_eq_true rfl), ⟨(Nat.le_of_ble_eq_true rfl), z_inb_in e17⟩, trivial, trivial, trivial, trivial⟩ ?_
              refine zk_mask R [true, true, false, true, true, false, false] rfl ?_
              exact w_X12_command_260 d k R x1 r1.1 (((z_sI r10.2 13 0 9 ((r10.2.1 13 0 9) + (1 : Int32))).1 25 0 (Int32.toNatClampNeg (r10.2.1 13 0 9))) - (48 : Int32)) (z_sI r10.2 13 0 9 ((r10.2.1 13 0 9) + (1 : Int32)))
  · refine zk_st R 1 56 [some (.inr (13, 0)), some (.inl (.int x1)), some (.inl (.int ((z_sI m 13 0 9 ((m.1 13 0 9) + (1 : Int32))).1 13 0 9))), some (.inl (.int r1.1)), none, none, none] [.inl (.int (1 : Int32))] r1.2 rfl ⟨trivial, trivial⟩ ?_
    exact zk_ret R rfl trivial rfl
theorem w_X12_command (d k : Nat) (m : zM) (a : Int32 × zM) (ha : f_X12_command m = some a) : z_Ev z_MT zN zRf (d + 3) (k + 0) 250 [.inr (13, 0)] m ((fun a => (z_cI a.1, a.2) : Int32 × zM → zO) a) := by
  refine zk_top (I := (yX12_command, cX12_command, 7, (some .int), [], tX12_command, 13, 0, 13, 0, 0, 0)) (oc := (fun a => (z_cI a.1, a.2) : Int32 × zM → zO)) (a := a) rfl (Nat.le_of_ble_eq_true rfl) (fun G R => ?_) ha
  unfold f_X12_command
  refine zk_st R 1 1 [some (.inr (13, 0)), none, none, none, none, none, none] [.inr (13, 0)] m rfl ⟨trivial, trivial⟩ ?_
  refine zk_call R (fun b => some (.inl (.int b))) (fun _ => m) rfl (r_X12_here (Nat.le_of_ble_eq_true rfl)) (fun b hb => w_X12_here (d + 1) 0 m b hb) (fun r1 => ?_)
  refine zk_st R 3 8 [some (.inr (13, 0)), some (.inl (.int r1)), none, none, none, none, none] [.inl (.int (104 : Int32)), .inl (.int r1)] m rfl ⟨trivial, trivial, trivial, trivial⟩ ?_
  refine zk_br R rfl (fun _ => ?_) (fun _ => ?_)
  · refine zk_mask R [true, true, false, false, false, false, false] rfl ?_
    exact w_X12_command_31 d k R r1 m
  · refine zk_st R 2 14 [some (.inr (13, 0)), some (.inl (.int r1)), none, none, none, none, none] [.inl (.int (114 : Int32)), .inl (.int r1)] m rfl ⟨trivial, trivial, trivial⟩ ?_
    refine zk_br R rfl (fun _ => ?_) (fun _ => ?_)
    · refine zk_mask R [true, true, false, false, false, false, false] rfl ?_
      exact w_X12_command_31 d k R r1 m
    · refine zk_st R 2 20 [some (.inr (13, 0)), some (.inl (.int r1)), none, none, none, none, none] [.inl (.int (115 : Int32)), .inl (.int r1)] m rfl ⟨trivial, trivial, trivial⟩ ?_
      refine zk_br R rfl (fun _ => ?_) (fun _ => ?_)
      · refine zk_mask R [true, true, false, false, false, false, false] rfl ?_
        exact w_X12_command_31 d k R r1 m
      · refine zk_st R 2 26 [some (.inr (13, 0)), some (.inl (.int r1)), none, none, none, none, none] [.inl (.int (111 : Int32)), .inl (.int r1)] m rfl ⟨trivial, trivial, trivial⟩ ?_
        refine zk_br R rfl (fun _ => ?_) (fun _ => ?_)
        · refine zk_mask R [true, true, false, false, false, false, false] rfl ?_
          exact w_X12_command_31 d k R r1 m
        · refine zk_st R 1 30 [some (.inr (13, 0)), some (.inl (.int r1)), none, none, none, none, none] [.inl (.int (1 : Int32))] m rfl ⟨trivial, trivial⟩ ?_
          exact zk_ret R rfl trivial rfl
theorem r_L_append {as : List zA} : z_rcv zN (zKD 298) as := by
  rw [show zKD 298 = 0 from rfl]
  trivial
noncomputable def f_L_append (x1 : Int32) (m : zM) : Option (Int32 × zM) :=
  z_bh (f_X11_append x1 m) (fun r1 m2 =>
  z_gd (z_inb (0 : Int32) (z_alen 32)) <| some ((0 : Int32), (z_sL m2 32 0 (Int32.toNatClampNeg (0 : Int32)) (Int32.toInt64 r1)))) (z_hf [(0, 9, 12, 13, 0, 1), (0, 9, 15, 37, 2, 2)] 4) id
theorem w_L_append (d k : Nat) (x1 : Int32) (m : zM) (a : Int32 × zM) (ha : f_L_append x1 m = some a) : z_Ev z_MT zN zRf (d + 3) (k + 2) 298 [.inr (12, 0), .inl (.int x1), .inr (32, 0)] m ((fun a => (z_cI a.1, a.2) : Int32 × zM → zO) a) := by
  refine zk_top (I := (yL_append, cL_append, 4, (some .int), [(0, 9, 12, 13, 0, 1), (0, 9, 15, 37, 2, 2)], tL_append, 0, 3, 0, 0, 0, 0)) (oc := (fun a => (z_cI a.1, a.2) : Int32 × zM → zO)) (a := a) rfl (Nat.le_of_ble_eq_true rfl) (fun G R => ?_) ha
  unfold f_L_append
  refine zk_st R 4 4 [some (.inr (12, 0)), some (.inl (.int x1)), some (.inr (32, 0)), none] [.inl (.int x1), .inr (12, 0), .inl (.int (0 : Int32)), .inr (32, 0)] m rfl ⟨trivial, trivial, trivial, trivial, trivial⟩ ?_
  refine zk_callh (cr := id) R (k + 0) 2 (fun r1 => some (.inl (.int r1))) rfl (r_X11_append (Nat.le_of_ble_eq_true rfl)) (fun b m' hb => w_X11_append d 0 x1 m _ hb) (fun e m' hb => w_X11_append d 0 x1 m _ hb) (fun _ _ => rfl) (fun r1 m2 => ?_)
  refine zk_gd fun e3 => ?_
  refine zk_st R 4 19 [some (.inr (12, 0)), some (.inl (.int x1)), some (.inr (32, 0)), none] [.inl (.int (0 : Int32))] (z_sL m2 32 0 (Int32.toNatClampNeg (0 : Int32)) (Int32.toInt64 r1)) rfl ⟨trivial, ⟨(Nat.le_of_ble_eq_true rfl), z_inb_in e3⟩, trivial, trivial, trivial⟩ ?_
  exact zk_ret R rfl trivial rfl
theorem r_X0_solve {i : Nat} {t : List zA} (h : i < zN 2) : z_rcv zN (zKD 40) (.inr (2, i) :: t) := by
  rw [show zKD 40 = 2 from rfl]
  exact ⟨rfl, h⟩
noncomputable def f_X0_solve_92 (g1 : Nat) (c50 : Int32 → Int32 → Int32 → Int32 → zM → Option (zM)) (c68 : Int32 → Int32 → Int32 → Int32 → Int32 → zM → Option (zM)) (x2 : Int32) (x3 : Int32) (x4 : Int32) (x5 : Int32) (x6 : Int32) (s0 : Int32) (m : zM) : Option (zM) :=
  Option.bind (f_X7_at 20 (3 * g1) s0 m) fun r1 =>
  if r1 < x2 then
    c68 x2 x3 x4 x5 (x6 + (1 : Int32)) m
  else
    Option.bind (f_X0_improve g1 s0 x2 m) fun r3 =>
    if (z_bi r3.1) = 0 then
      c68 x2 x3 x4 x5 (x6 + (1 : Int32)) r3.2
    else
      c68 x2 x3 (1 : Int32) x5 (x6 + (1 : Int32)) r3.2
noncomputable def f_X0_solve_68 (g1 : Nat) (c50 : Int32 → Int32 → Int32 → Int32 → zM → Option (zM)) : Nat → Int32 → Int32 → Int32 → Int32 → Int32 → zM → Option (zM)
  | 0, _, _, _, _, _, _ => none
  | j + 1, x2, x3, x4, x5, x6, m =>
    if x3 ≤ x6 then
      c50 x2 x3 x4 (x5 + (1 : Int32)) m
    else
      z_gd (z_nz (2 : Int32)) <| if (z_irem x5 (2 : Int32)) = 0 then
        f_X0_solve_92 g1 c50 (f_X0_solve_68 g1 c50 j) x2 x3 x4 x5 x6 x6 m
      else
        f_X0_solve_92 g1 c50 (f_X0_solve_68 g1 c50 j) x2 x3 x4 x5 x6 ((x3 - (1 : Int32)) - x6) m
noncomputable def f_X0_solve_50 (g1 : Nat) : Nat → Int32 → Int32 → Int32 → Int32 → zM → Option (zM)
  | 0, _, _, _, _, _ => none
  | j + 1, x2, x3, x4, x5, m =>
    if (64 : Int32) ≤ x5 then
      some m
    else
      if x4 = 0 then
        some m
      else
        f_X0_solve_68 g1 (f_X0_solve_50 g1 j) zF x2 x3 (0 : Int32) x5 (0 : Int32) m
noncomputable def f_X0_solve_35 (g1 : Nat) (c8 : Int32 → Int32 → Int32 → zM → Option (zM)) (x2 : Int32) (x3 : Int32) (x4 : Int32) (s1 : Int32) (s2 : Int32) (m : zM) : Option (zM) :=
  Option.bind (f_X7_put 20 57 s1 s2 m) fun r1 =>
  c8 x2 x3 (x4 + (1 : Int32)) r1
noncomputable def f_X0_solve_8 (g1 : Nat) : Nat → Int32 → Int32 → Int32 → zM → Option (zM)
  | 0, _, _, _, _ => none
  | j + 1, x2, x3, x4, m =>
    if x3 ≤ x4 then
      f_X0_solve_50 g1 zF x2 x3 (1 : Int32) (0 : Int32) m
    else
      Option.bind (f_X4_isOutlet g1 x4 m) fun r2 =>
      if (z_bi r2) = 0 then
        f_X0_solve_35 g1 (f_X0_solve_8 g1 j) x2 x3 x4 x4 (1000000000 : Int32) m
      else
        f_X0_solve_35 g1 (f_X0_solve_8 g1 j) x2 x3 x4 x4 (0 : Int32) m
noncomputable def f_X0_solve (g1 : Nat) (x2 : Int32) (m : zM) : Option (zM) :=
  Option.bind (f_X4_size g1 m) fun r1 =>
  f_X0_solve_8 g1 zF x2 r1 (0 : Int32) m
theorem w_X0_solve_92 (d k : Nat) {o : zO} {G : Nat → Nat → zL → List zA → zM → Prop} (g1 : Nat) (hg1 : g1 < zN 6) (R : zRu (d + 3) tX0_solve 0 (z_hf []) o G) (c50 : Int32 → Int32 → Int32 → Int32 → zM → Option (zM)) (c68 : Int32 → Int32 → Int32 → Int32 → Int32 → zM → Option (zM)) (hc50 : ∀ (x2 : Int32) (x3 : Int32) (x4 : Int32) (x5 : Int32) (m : zM), zLK G (fun a => (.inl none, a) : zM → zO) o (c50 x2 x3 x4 x5 m) some (k + 0) 50 [some (.inr (2, 0)), some (.inr (6, g1)), some (.inl (.int x2)), some (.inl (.int x3)), some (.inl (.int x4)), some (.inl (.int x5)), none, none] [] m) (hc68 : ∀ (x2 : Int32) (x3 : Int32) (x4 : Int32) (x5 : Int32) (x6 : Int32) (m : zM), zLK G (fun a => (.inl none, a) : zM → zO) o (c68 x2 x3 x4 x5 x6 m) some (k + 0) 68 [some (.inr (2, 0)), some (.inr (6, g1)), some (.inl (.int x2)), some (.inl (.int x3)), some (.inl (.int x4)), some (.inl (.int x5)), some (.inl (.int x6)), none] [] m) (x2 : Int32) (x3 : Int32) (x4 : Int32) (x5 : Int32) (x6 : Int32) (s0 : Int32) (m : zM) : zLK G (fun a => (.inl none, a) : zM → zO) o (f_X0_solve_92 g1 c50 c68 x2 x3 x4 x5 x6 s0 m) some (k + 0) 92 [some (.inr (2, 0)), some (.inr (6, g1)), some (.inl (.int x2)), some (.inl (.int x3)), some (.inl (.int x4)), some (.inl (.int x5)), some (.inl (.int x6)), none] [.inl (.int s0)] m := by
  unfold f_X0_solve_92
  refine zk_st R 4 100 [some (.inr (2, 0)), some (.inr (6, g1)), some (.inl (.int x2)), some (.inl (.int x3)), some (.inl (.int x4)), some (.inl (.int x5)), some (.inl (.int x6)), some (.inl (.int s0))] [.inl (.int s0), .inr (20, 3 * g1)] m rfl ⟨trivial, trivial, hg1, trivial, trivial⟩ ?_
  refine zk_call R (fun b => some (.inl (.int b))) (fun _ => m) rfl (r_X7_at) (fun b hb => w_X7_at_k20 (d + 2) 0 (3 * g1) (z_g0 hg1) s0 m b hb) (fun r1 => ?_)
  refine zk_st R 1 104 [some (.inr (2, 0)), some (.inr (6, g1)), some (.inl (.int x2)), some (.inl (.int x3)), some (.inl (.int x4)), some (.inl (.int x5)), some (.inl (.int x6)), some (.inl (.int s0))] [.inl (.int x2), .inl (.int r1)] m rfl ⟨trivial, trivial⟩ ?_
  refine zk_br R rfl (fun _ => ?_) (fun _ => ?_)
  · refine zk_st R 2 68 [some (.inr (2, 0)), some (.inr (6, g1)), some (.inl (.int x2)), some (.inl (.int x3)), some (.inl (.int x4)), some (.inl (.int x5)), some (.inl (.int (x6 + (1 : Int32)))), some (.inl (.int s0))] [] m rfl ⟨trivial, trivial, trivial⟩ ?_
    refine zk_mask R [true, true, true, true, true, true, true, false] rfl ?_
    exact hc68 x2 x3 x4 x5 (x6 + (1 : Int32)) m
  · refine zk_st R 4 112 [some (.inr (2, 0)), some (.inr (6, g1)), some (.inl (.int x2)), some (.inl (.int x3)), some (.inl (.int x4)), some (.inl (.int x5)), some (.inl (.int x6)), some (.inl (.int s0))] [.inl (.int x2), .inl (.int s0), .inr (6, g1), .inr (2, 0)] m rfl ⟨trivial, trivial, trivial, trivial, trivial⟩ ?_
    refine zk_call R (fun b => some (.inl (.int (z_bi b.1)))) (fun b => b.2) rfl (r_X0_improve (Nat.le_of_ble_eq_true rfl)) (fun b hb => w_X0_improve d 0 g1 hg1 s0 x2 m b hb) (fun r3 => ?_)
    refine zk_br R rfl (fun _ => ?_) (fun _ => ?_)
    · refine zk_st R 2 68 [some (.inr (2, 0)), some (.inr (6, g1)), some (.inl (.int x2)), some (.inl (.int x3)), some (.inl (.int x4)), some (.inl (.int x5)), some (.inl (.int (x6 + (1 : Int32)))), some (.inl (.int s0))] [] r3.2 rfl ⟨trivial, trivial, trivial⟩ ?_
      refine zk_mask R [true, true, true, true, true, true, true, false] rfl ?_
      exact hc68 x2 x3 x4 x5 (x6 + (1 : Int32)) r3.2
    · refine zk_st R 4 68 [some (.inr (2, 0)), some (.inr (6, g1)), some (.inl (.int x2)), some (.inl (.int x3)), some (.inl (.int (1 : Int32))), some (.inl (.int x5)), some (.inl (.int (x6 + (1 : Int32)))), some (.inl (.int s0))] [] r3.2 rfl ⟨trivial, trivial, trivial, trivial, trivial⟩ ?_
      refine zk_mask R [true, true, true, true, true, true, true, false] rfl ?_
      exact hc68 x2 x3 (1 : Int32) x5 (x6 + (1 : Int32)) r3.2
theorem w_X0_solve_68 (d k : Nat) {o : zO} {G : Nat → Nat → zL → List zA → zM → Prop} (g1 : Nat) (hg1 : g1 < zN 6) (R : zRu (d + 3) tX0_solve 0 (z_hf []) o G) (c50 : Int32 → Int32 → Int32 → Int32 → zM → Option (zM)) (hc50 : ∀ (x2 : Int32) (x3 : Int32) (x4 : Int32) (x5 : Int32) (m : zM), zLK G (fun a => (.inl none, a) : zM → zO) o (c50 x2 x3 x4 x5 m) some (k + 0) 50 [some (.inr (2, 0)), some (.inr (6, g1)), some (.inl (.int x2)), some (.inl (.int x3)), some (.inl (.int x4)), some (.inl (.int x5)), none, none] [] m) : ∀ (j : Nat) (x2 : Int32) (x3 : Int32) (x4 : Int32) (x5 : Int32) (x6 : Int32) (m : zM), zLK G (fun a => (.inl none, a) : zM → zO) o (f_X0_solve_68 g1 c50 j x2 x3 x4 x5 x6 m) some (k + 0) 68 [some (.inr (2, 0)), some (.inr (6, g1)), some (.inl (.int x2)), some (.inl (.int x3)), some (.inl (.int x4)), some (.inl (.int x5)), some (.inl (.int x6)), none] [] m := by
  intro j
  induction j with
  | zero =>
    intro _ _ _ _ _ _
    exact zk_none
  | succ j ih =>
    intro x2 x3 x4 x5 x6 m
    unfold f_X0_solve_68
    refine zk_st R 2 71 [some (.inr (2, 0)), some (.inr (6, g1)), some (.inl (.int x2)), some (.inl (.int x3)), some (.inl (.int x4)), some (.inl (.int x5)), some (.inl (.int x6)), none] [.inl (.int x3), .inl (.int x6)] m rfl ⟨trivial, trivial, trivial⟩ ?_
    refine zk_br R rfl (fun _ => ?_) (fun _ => ?_)
    · refine zk_st R 2 50 [some (.inr (2, 0)), some (.inr (6, g1)), some (.inl (.int x2)), some (.inl (.int x3)), some (.inl (.int x4)), some (.inl (.int (x5 + (1 : Int32)))), some (.inl (.int x6)), none] [] m rfl ⟨trivial, trivial, trivial⟩ ?_
      refine zk_mask R [true, true, true, true, true, true, false, false] rfl ?_
      exact hc50 x2 x3 x4 (x5 + (1 : Int32)) m
    · refine zk_gd fun e2 => ?_
      refine zk_st R 3 78 [some (.inr (2, 0)), some (.inr (6, g1)), some (.inl (.int x2)), some (.inl (.int x3)), some (.inl (.int x4)), some (.inl (.int x5)), some (.inl (.int x6)), none] [.inl (.int (z_irem x5 (2 : Int32)))] m rfl ⟨trivial, trivial, (z_nz_ne e2), trivial⟩ ?_
      refine zk_br R rfl (fun _ => ?_) (fun _ => ?_)
      · refine zk_st R 2 92 [some (.inr (2, 0)), some (.inr (6, g1)), some (.inl (.int x2)), some (.inl (.int x3)), some (.inl (.int x4)), some (.inl (.int x5)), some (.inl (.int x6)), none] [.inl (.int x6)] m rfl ⟨trivial, trivial, trivial⟩ ?_
        refine zk_mask R [true, true, true, true, true, true, true, false] rfl ?_
        exact w_X0_solve_92 d k g1 hg1 R c50 (f_X0_solve_68 g1 c50 j) hc50 ih x2 x3 x4 x5 x6 x6 m
      · refine zk_st R 5 92 [some (.inr (2, 0)), some (.inr (6, g1)), some (.inl (.int x2)), some (.inl (.int x3)), some (.inl (.int x4)), some (.inl (.int x5)), some (.inl (.int x6)), none] [.inl (.int ((x3 - (1 : Int32)) - x6))] m rfl ⟨trivial, trivial, trivial, trivial, trivial, trivial⟩ ?_
        refine zk_mask R [true, true, true, true, true, true, true, false] rfl ?_
        exact w_X0_solve_92 d k g1 hg1 R c50 (f_X0_solve_68 g1 c50 j) hc50 ih x2 x3 x4 x5 x6 ((x3 - (1 : Int32)) - x6) m
theorem w_X0_solve_50 (d k : Nat) {o : zO} {G : Nat → Nat → zL → List zA → zM → Prop} (g1 : Nat) (hg1 : g1 < zN 6) (R : zRu (d + 3) tX0_solve 0 (z_hf []) o G) : ∀ (j : Nat) (x2 : Int32) (x3 : Int32) (x4 : Int32) (x5 : Int32) (m : zM), zLK G (fun a => (.inl none, a) : zM → zO) o (f_X0_solve_50 g1 j x2 x3 x4 x5 m) some (k + 0) 50 [some (.inr (2, 0)), some (.inr (6, g1)), some (.inl (.int x2)), some (.inl (.int x3)), some (.inl (.int x4)), some (.inl (.int x5)), none, none] [] m := by
  intro j
  induction j with
  | zero =>
    intro _ _ _ _ _
    exact zk_none
  | succ j ih =>
    intro x2 x3 x4 x5 m
    unfold f_X0_solve_50
    refine zk_st R 2 54 [some (.inr (2, 0)), some (.inr (6, g1)), some (.inl (.int x2)), some (.inl (.int x3)), some (.inl (.int x4)), some (.inl (.int x5)), none, none] [.inl (.int (64 : Int32)), .inl (.int x5)] m rfl ⟨trivial, trivial, trivial⟩ ?_
    refine zk_br R rfl (fun _ => ?_) (fun _ => ?_)
    · exact zk_ret R rfl trivial rfl
    · refine zk_st R 1 59 [some (.inr (2, 0)), some (.inr (6, g1)), some (.inl (.int x2)), some (.inl (.int x3)), some (.inl (.int x4)), some (.inl (.int x5)), none, none] [.inl (.int x4)] m rfl ⟨trivial, trivial⟩ ?_
      refine zk_br R rfl (fun _ => ?_) (fun _ => ?_)
      · exact zk_ret R rfl trivial rfl
      · refine zk_st R 4 68 [some (.inr (2, 0)), some (.inr (6, g1)), some (.inl (.int x2)), some (.inl (.int x3)), some (.inl (.int (0 : Int32))), some (.inl (.int x5)), some (.inl (.int (0 : Int32))), none] [] m rfl ⟨trivial, trivial, trivial, trivial, trivial⟩ ?_
        refine zk_mask R [true, true, true, true, true, true, true, false] rfl ?_
        exact w_X0_solve_68 d k g1 hg1 R (f_X0_solve_50 g1 j) ih zF x2 x3 (0 : Int32) x5 (0 : Int32) m
theorem w_X0_solve_35 (d k : Nat) {o : zO} {G : Nat → Nat → zL → List zA → zM → Prop} (g1 : Nat) (hg1 : g1 < zN 6) (R : zRu (d + 3) tX0_solve 0 (z_hf []) o G) (c8 : Int32 → Int32 → Int32 → zM → Option (zM)) (hc8 : ∀ (x2 : Int32) (x3 : Int32) (x4 : Int32) (m : zM), zLK G (fun a => (.inl none, a) : zM → zO) o (c8 x2 x3 x4 m) some (k + 0) 8 [some (.inr (2, 0)), some (.inr (6, g1)), some (.inl (.int x2)), some (.inl (.int x3)), some (.inl (.int x4)), none, none, none] [] m) (x2 : Int32) (x3 : Int32) (x4 : Int32) (s1 : Int32) (s2 : Int32) (m : zM) : zLK G (fun a => (.inl none, a) : zM → zO) o (f_X0_solve_35 g1 c8 x2 x3 x4 s1 s2 m) some (k + 0) 35 [some (.inr (2, 0)), some (.inr (6, g1)), some (.inl (.int x2)), some (.inl (.int x3)), some (.inl (.int x4)), none, none, none] [.inl (.int s2), .inl (.int s1), .inr (20, 57)] m := by
  unfold f_X0_solve_35
  refine zk_call R (fun _ => none) id rfl (r_X7_put) (fun b hb => w_X7_put_k20 (d + 2) 0 57 (Nat.le_of_ble_eq_true rfl) s1 s2 m b hb) (fun r1 => ?_)
  refine zk_st R 2 8 [some (.inr (2, 0)), some (.inr (6, g1)), some (.inl (.int x2)), some (.inl (.int x3)), some (.inl (.int (x4 + (1 : Int32)))), none, none, none] [] r1 rfl ⟨trivial, trivial, trivial⟩ ?_
  refine zk_mask R [true, true, true, true, true, false, false, false] rfl ?_
  exact hc8 x2 x3 (x4 + (1 : Int32)) r1
theorem w_X0_solve_8 (d k : Nat) {o : zO} {G : Nat → Nat → zL → List zA → zM → Prop} (g1 : Nat) (hg1 : g1 < zN 6) (R : zRu (d + 3) tX0_solve 0 (z_hf []) o G) : ∀ (j : Nat) (x2 : Int32) (x3 : Int32) (x4 : Int32) (m : zM), zLK G (fun a => (.inl none, a) : zM → zO) o (f_X0_solve_8 g1 j x2 x3 x4 m) some (k + 0) 8 [some (.inr (2, 0)), some (.inr (6, g1)), some (.inl (.int x2)), some (.inl (.int x3)), some (.inl (.int x4)), none, none, none] [] m := by
  intro j
  induction j with
  | zero =>
    intro _ _ _ _
    exact zk_none
  | succ j ih =>
    intro x2 x3 x4 m
    unfold f_X0_solve_8
    refine zk_st R 2 11 [some (.inr (2, 0)), some (.inr (6, g1)), some (.inl (.int x2)), some (.inl (.int x3)), some (.inl (.int x4)), none, none, none] [.inl (.int x3), .inl (.int x4)] m rfl ⟨trivial, trivial, trivial⟩ ?_
    refine zk_br R rfl (fun _ => ?_) (fun _ => ?_)
    · refine zk_st R 4 50 [some (.inr (2, 0)), some (.inr (6, g1)), some (.inl (.int x2)), some (.inl (.int x3)), some (.inl (.int (1 : Int32))), some (.inl (.int (0 : Int32))), none, none] [] m rfl ⟨trivial, trivial, trivial, trivial, trivial⟩ ?_
      refine zk_mask R [true, true, true, true, true, true, false, false] rfl ?_
      exact w_X0_solve_50 d k g1 hg1 R zF x2 x3 (1 : Int32) (0 : Int32) m
    · refine zk_st R 5 23 [some (.inr (2, 0)), some (.inr (6, g1)), some (.inl (.int x2)), some (.inl (.int x3)), some (.inl (.int x4)), none, none, none] [.inl (.int x4), .inr (6, g1), .inl (.int x4), .inr (20, 57)] m rfl ⟨trivial, (Nat.le_of_ble_eq_true rfl), trivial, trivial, trivial, trivial⟩ ?_
      refine zk_call R (fun b => some (.inl (.int (z_bi b)))) (fun _ => m) rfl (r_X4_isOutlet hg1) (fun b hb => w_X4_isOutlet (d + 1) 0 g1 hg1 x4 m b hb) (fun r2 => ?_)
      refine zk_br R rfl (fun _ => ?_) (fun _ => ?_)
      · refine zk_st R 1 35 [some (.inr (2, 0)), some (.inr (6, g1)), some (.inl (.int x2)), some (.inl (.int x3)), some (.inl (.int x4)), none, none, none] [.inl (.int (1000000000 : Int32)), .inl (.int x4), .inr (20, 57)] m rfl ⟨trivial, trivial⟩ ?_
        refine zk_mask R [true, true, true, true, true, false, false, false] rfl ?_
        exact w_X0_solve_35 d k g1 hg1 R (f_X0_solve_8 g1 j) ih x2 x3 x4 x4 (1000000000 : Int32) m
      · refine zk_st R 2 35 [some (.inr (2, 0)), some (.inr (6, g1)), some (.inl (.int x2)), some (.inl (.int x3)), some (.inl (.int x4)), none, none, none] [.inl (.int (0 : Int32)), .inl (.int x4), .inr (20, 57)] m rfl ⟨trivial, trivial, trivial⟩ ?_
        refine zk_mask R [true, true, true, true, true, false, false, false] rfl ?_
        exact w_X0_solve_35 d k g1 hg1 R (f_X0_solve_8 g1 j) ih x2 x3 x4 x4 (0 : Int32) m
theorem w_X0_solve (d k : Nat) (g1 : Nat) (hg1 : g1 < zN 6) (x2 : Int32) (m : zM) (a : zM) (ha : f_X0_solve g1 x2 m = some a) : z_Ev z_MT zN zRf (d + 4) (k + 0) 40 [.inr (2, 0), .inr (6, g1), .inl (.int x2)] m ((fun a => (.inl none, a) : zM → zO) a) := by
  refine zk_top (I := (yX0_solve, cX0_solve, 8, none, [], tX0_solve, 2, 2, 2, 0, 0, 0)) (oc := (fun a => (.inl none, a) : zM → zO)) (a := a) rfl (Nat.le_of_ble_eq_true rfl) (fun G R => ?_) ha
  unfold f_X0_solve
  refine zk_st R 1 1 [some (.inr (2, 0)), some (.inr (6, g1)), some (.inl (.int x2)), none, none, none, none, none] [.inr (6, g1)] m rfl ⟨trivial, trivial⟩ ?_
  refine zk_call R (fun b => some (.inl (.int b))) (fun _ => m) rfl (r_X4_size hg1) (fun b hb => w_X4_size (d + 2) 0 g1 hg1 m b hb) (fun r1 => ?_)
  refine zk_st R 3 8 [some (.inr (2, 0)), some (.inr (6, g1)), some (.inl (.int x2)), some (.inl (.int r1)), some (.inl (.int (0 : Int32))), none, none, none] [] m rfl ⟨trivial, trivial, trivial, trivial⟩ ?_
  refine zk_mask R [true, true, true, true, true, false, false, false] rfl ?_
  exact w_X0_solve_8 d k g1 hg1 R zF x2 r1 (0 : Int32) m
theorem r_X1_find {i : Nat} {t : List zA} (h : i < zN 3) : z_rcv zN (zKD 46) (.inr (3, i) :: t) := by
  rw [show zKD 46 = 3 from rfl]
  exact ⟨rfl, h⟩
noncomputable def f_X1_find_28 (g1 : Nat) (c12 : Int32 → Int32 → zM → Option (zM)) : Nat → Int32 → Int32 → Int64 → Int32 → zM → Option (zM)
  | 0, _, _, _, _, _ => none
  | j + 1, x2, x3, x4, x6, m =>
    if x2 ≤ x6 then
      c12 x2 (x3 + (1 : Int32)) m
    else
      if (lg_cmp x4 (0 : Int64)) = 0 then
        c12 x2 (x3 + (1 : Int32)) m
      else
        Option.bind (f_X7_has x4 x6 m) fun r3 =>
        if (z_bi r3) = 0 then
          f_X1_find_28 g1 c12 j x2 x3 x4 (x6 + (1 : Int32)) m
        else
          Option.bind (f_X4_reachable g1 (z_shl (1 : Int64) x6) x4 m) fun r5 =>
          Option.bind (f_X1_place r5 x3 m) fun r6 =>
          f_X1_find_28 g1 c12 j x2 x3 (x4 &&& (r5 ^^^ (-1 : Int64))) (x6 + (1 : Int32)) r6
noncomputable def f_X1_find_12 (g1 : Nat) : Nat → Int32 → Int32 → zM → Option (zM)
  | 0, _, _, _ => none
  | j + 1, x2, x3, m =>
    if (99 : Int32) < x3 then
      some m
    else
      Option.bind (f_X4_poolCells g1 x3 m) fun r2 =>
      f_X1_find_28 g1 (f_X1_find_12 g1 j) zF x2 x3 r2 (0 : Int32) m
noncomputable def f_X1_find (g1 : Nat) (m : zM) : Option (zM) :=
  Option.bind (f_X4_size g1 (z_sI m 3 0 0 (0 : Int32))) fun r1 =>
  f_X1_find_12 g1 zF r1 (0 : Int32) (z_sI m 3 0 0 (0 : Int32))
theorem w_X1_find_28 (d k : Nat) {o : zO} {G : Nat → Nat → zL → List zA → zM → Prop} (g1 : Nat) (hg1 : g1 < zN 6) (R : zRu (d + 3) tX1_find 0 (z_hf []) o G) (c12 : Int32 → Int32 → zM → Option (zM)) (hc12 : ∀ (x2 : Int32) (x3 : Int32) (m : zM), zLK G (fun a => (.inl none, a) : zM → zO) o (c12 x2 x3 m) some (k + 0) 12 [some (.inr (3, 0)), some (.inr (6, g1)), some (.inl (.int x2)), some (.inl (.int x3)), none, none, none, none, none] [] m) : ∀ (j : Nat) (x2 : Int32) (x3 : Int32) (x4 : Int64) (x6 : Int32) (m : zM), zLK G (fun a => (.inl none, a) : zM → zO) o (f_X1_find_28 g1 c12 j x2 x3 x4 x6 m) some (k + 0) 28 [some (.inr (3, 0)), some (.inr (6, g1)), some (.inl (.int x2)), some (.inl (.int x3)), some (.inl (.long x4)), none, some (.inl (.int x6)), none, none] [] m := by
  intro j
  induction j with
  | zero =>
    intro _ _ _ _ _
    exact zk_none
  | succ j ih =>
    intro x2 x3 x4 x6 m
    unfold f_X1_find_28
    refine zk_st R 2 31 [some (.inr (3, 0)), some (.inr (6, g1)), some (.inl (.int x2)), some (.inl (.int x3)), some (.inl (.long x4)), none, some (.inl (.int x6)), none, none] [.inl (.int x2), .inl (.int x6)] m rfl ⟨trivial, trivial, trivial⟩ ?_
    refine zk_br R rfl (fun _ => ?_) (fun _ => ?_)
    · refine zk_st R 2 12 [some (.inr (3, 0)), some (.inr (6, g1)), some (.inl (.int x2)), some (.inl (.int (x3 + (1 : Int32)))), some (.inl (.long x4)), none, some (.inl (.int x6)), none, none] [] m rfl ⟨trivial, trivial, trivial⟩ ?_
      refine zk_mask R [true, true, true, true, false, false, false, false, false] rfl ?_
      exact hc12 x2 (x3 + (1 : Int32)) m
    · refine zk_st R 3 38 [some (.inr (3, 0)), some (.inr (6, g1)), some (.inl (.int x2)), some (.inl (.int x3)), some (.inl (.long x4)), none, some (.inl (.int x6)), none, none] [.inl (.int (lg_cmp x4 (0 : Int64)))] m rfl ⟨trivial, trivial, trivial, trivial⟩ ?_
      refine zk_br R rfl (fun _ => ?_) (fun _ => ?_)
      · refine zk_st R 2 12 [some (.inr (3, 0)), some (.inr (6, g1)), some (.inl (.int x2)), some (.inl (.int (x3 + (1 : Int32)))), some (.inl (.long x4)), none, some (.inl (.int x6)), none, none] [] m rfl ⟨trivial, trivial, trivial⟩ ?_
        refine zk_mask R [true, true, true, true, false, false, false, false, false] rfl ?_
        exact hc12 x2 (x3 + (1 : Int32)) m
      · refine zk_st R 2 45 [some (.inr (3, 0)), some (.inr (6, g1)), some (.inl (.int x2)), some (.inl (.int x3)), some (.inl (.long x4)), none, some (.inl (.int x6)), none, none] [.inl (.int x6), .inl (.long x4)] m rfl ⟨trivial, trivial, trivial⟩ ?_
        refine zk_call R (fun b => some (.inl (.int (z_bi b)))) (fun _ => m) rfl (r_X7_has) (fun b hb => w_X7_has (d + 2) 0 x4 x6 m b hb) (fun r3 => ?_)
        refine zk_br R rfl (fun _ => ?_) (fun _ => ?_)
        · refine zk_st R 2 28 [some (.inr (3, 0)), some (.inr (6, g1)), some (.inl (.int x2)), some (.inl (.int x3)), some (.inl (.long x4)), none, some (.inl (.int (x6 + (1 : Int32)))), none, none] [] m rfl ⟨trivial, trivial, trivial⟩ ?_
          refine zk_mask R [true, true, true, true, true, false, true, false, false] rfl ?_
          exact ih x2 x3 x4 (x6 + (1 : Int32)) m
        · refine zk_st R 5 58 [some (.inr (3, 0)), some (.inr (6, g1)), some (.inl (.int x2)), some (.inl (.int x3)), some (.inl (.long x4)), none, some (.inl (.int x6)), none, none] [.inl (.long x4), .inl (.long (z_shl (1 : Int64) x6)), .inr (6, g1)] m rfl ⟨trivial, trivial, trivial, trivial, trivial, trivial⟩ ?_
          refine zk_call R (fun b => some (.inl (.long b))) (fun _ => m) rfl (r_X4_reachable hg1) (fun b hb => w_X4_reachable (d + 1) 0 g1 hg1 (z_shl (1 : Int64) x6) x4 m b hb) (fun r5 => ?_)
          refine zk_st R 10 78 [some (.inr (3, 0)), some (.inr (6, g1)), some (.inl (.int x2)), some (.inl (.int x3)), some (.inl (.long (x4 &&& (r5 ^^^ (-1 : Int64))))), none, some (.inl (.int x6)), some (.inl (.long r5)), none] [.inl (.int x3), .inl (.long r5), .inr (3, 0)] m rfl ⟨trivial, trivial, trivial, trivial, trivial, trivial, trivial, trivial, trivial, trivial, trivial⟩ ?_
          refine zk_call R (fun _ => none) id rfl (r_X1_place (Nat.le_of_ble_eq_true rfl)) (fun b hb => w_X1_place d 0 r5 x3 m b hb) (fun r6 => ?_)
          refine zk_st R 2 28 [some (.inr (3, 0)), some (.inr (6, g1)), some (.inl (.int x2)), some (.inl (.int x3)), some (.inl (.long (x4 &&& (r5 ^^^ (-1 : Int64))))), none, some (.inl (.int (x6 + (1 : Int32)))), some (.inl (.long r5)), none] [] r6 rfl ⟨trivial, trivial, trivial⟩ ?_
          refine zk_mask R [true, true, true, true, true, false, true, false, false] rfl ?_
          exact ih x2 x3 (x4 &&& (r5 ^^^ (-1 : Int64))) (x6 + (1 : Int32)) r6
theorem w_X1_find_12 (d k : Nat) {o : zO} {G : Nat → Nat → zL → List zA → zM → Prop} (g1 : Nat) (hg1 : g1 < zN 6) (R : zRu (d + 3) tX1_find 0 (z_hf []) o G) : ∀ (j : Nat) (x2 : Int32) (x3 : Int32) (m : zM), zLK G (fun a => (.inl none, a) : zM → zO) o (f_X1_find_12 g1 j x2 x3 m) some (k + 0) 12 [some (.inr (3, 0)), some (.inr (6, g1)), some (.inl (.int x2)), some (.inl (.int x3)), none, none, none, none, none] [] m := by
  intro j
  induction j with
  | zero =>
    intro _ _ _
    exact zk_none
  | succ j ih =>
    intro x2 x3 m
    unfold f_X1_find_12
    refine zk_st R 2 15 [some (.inr (3, 0)), some (.inr (6, g1)), some (.inl (.int x2)), some (.inl (.int x3)), none, none, none, none, none] [.inl (.int (99 : Int32)), .inl (.int x3)] m rfl ⟨trivial, trivial, trivial⟩ ?_
    refine zk_br R rfl (fun _ => ?_) (fun _ => ?_)
    · exact zk_ret R rfl trivial rfl
    · refine zk_st R 2 20 [some (.inr (3, 0)), some (.inr (6, g1)), some (.inl (.int x2)), some (.inl (.int x3)), none, none, none, none, none] [.inl (.int x3), .inr (6, g1)] m rfl ⟨trivial, trivial, trivial⟩ ?_
      refine zk_call R (fun b => some (.inl (.long b))) (fun _ => m) rfl (r_X4_poolCells hg1) (fun b hb => w_X4_poolCells d 0 g1 hg1 x3 m b hb) (fun r2 => ?_)
      refine zk_st R 3 28 [some (.inr (3, 0)), some (.inr (6, g1)), some (.inl (.int x2)), some (.inl (.int x3)), some (.inl (.long r2)), none, some (.inl (.int (0 : Int32))), none, none] [] m rfl ⟨trivial, trivial, trivial, trivial⟩ ?_
      refine zk_mask R [true, true, true, true, true, false, true, false, false] rfl ?_
      exact w_X1_find_28 d k g1 hg1 R (f_X1_find_12 g1 j) ih zF x2 x3 r2 (0 : Int32) m
theorem w_X1_find (d k : Nat) (g1 : Nat) (hg1 : g1 < zN 6) (m : zM) (a : zM) (ha : f_X1_find g1 m = some a) : z_Ev z_MT zN zRf (d + 4) (k + 0) 46 [.inr (3, 0), .inr (6, g1)] m ((fun a => (.inl none, a) : zM → zO) a) := by
  refine zk_top (I := (yX1_find, cX1_find, 9, none, [], tX1_find, 3, 1, 3, 0, 0, 0)) (oc := (fun a => (.inl none, a) : zM → zO)) (a := a) rfl (Nat.le_of_ble_eq_true rfl) (fun G R => ?_) ha
  unfold f_X1_find
  refine zk_st R 4 6 [some (.inr (3, 0)), some (.inr (6, g1)), none, none, none, none, none, none, none] [.inr (6, g1)] (z_sI m 3 0 0 (0 : Int32)) rfl ⟨trivial, trivial, (Nat.le_of_ble_eq_true rfl), trivial, trivial⟩ ?_
  refine zk_call R (fun b => some (.inl (.int b))) (fun _ => (z_sI m 3 0 0 (0 : Int32))) rfl (r_X4_size hg1) (fun b hb => w_X4_size (d + 2) 0 g1 hg1 (z_sI m 3 0 0 (0 : Int32)) b hb) (fun r1 => ?_)
  refine zk_st R 3 12 [some (.inr (3, 0)), some (.inr (6, g1)), some (.inl (.int r1)), some (.inl (.int (0 : Int32))), none, none, none, none, none] [] (z_sI m 3 0 0 (0 : Int32)) rfl ⟨trivial, trivial, trivial, trivial⟩ ?_
  refine zk_mask R [true, true, true, true, false, false, false, false, false] rfl ?_
  exact w_X1_find_12 d k g1 hg1 R zF r1 (0 : Int32) (z_sI m 3 0 0 (0 : Int32))
theorem r_X1_at {i : Nat} {t : List zA} (h : i < zN 3) : z_rcv zN (zKD 55) (.inr (3, i) :: t) := by
  rw [show zKD 55 = 3 from rfl]
  exact ⟨rfl, h⟩
noncomputable def f_X1_at_57 (g1 : Nat) (m : zM) (c17 : Int32 → Int64 → Int32 → Option (Int32)) (x3 : Int32) (x4 : Int64) (x6 : Int32) (s0 : Int32) : Option (Int32) :=
  if s0 = 0 then
    c17 x3 x4 (x6 + (1 : Int32))
  else
    Option.bind (f_X7_at_ 31 1 x6 m) fun r2 =>
    if (lg_cmp (r2 &&& x4) (0 : Int64)) = 0 then
      c17 x3 x4 (x6 + (1 : Int32))
    else
      some x6
noncomputable def f_X1_at_56 (g1 : Nat) (m : zM) (c17 : Int32 → Int64 → Int32 → Option (Int32)) (x3 : Int32) (x4 : Int64) (x6 : Int32) : Option (Int32) :=
  f_X1_at_57 g1 m c17 x3 x4 x6 (0 : Int32)
noncomputable def f_X1_at_17 (g1 : Nat) (m : zM) : Nat → Int32 → Int64 → Int32 → Option (Int32)
  | 0, _, _, _ => none
  | j + 1, x3, x4, x6 =>
    if (m.1 3 0 0) ≤ x6 then
      some (-1 : Int32)
    else
      Option.bind (f_X7_at 21 0 x6 m) fun r2 =>
      if x3 < r2 then
        f_X1_at_56 g1 m (f_X1_at_17 g1 m j) x3 x4 x6
      else
        Option.bind (f_X7_at 21 1 x6 m) fun r4 =>
        if r4 < x3 then
          f_X1_at_56 g1 m (f_X1_at_17 g1 m j) x3 x4 x6
        else
          f_X1_at_57 g1 m (f_X1_at_17 g1 m j) x3 x4 x6 (1 : Int32)
noncomputable def f_X1_at (g1 : Nat) (x2 : Int32) (x3 : Int32) (m : zM) : Option (Int32) :=
  Option.bind (f_X4_poolCells g1 x3 m) fun r1 =>
  Option.bind (f_X4_reachable g1 (z_shl (1 : Int64) x2) r1 m) fun r2 =>
  f_X1_at_17 g1 m zF x3 r2 (0 : Int32)
theorem w_X1_at_57 (d k : Nat) {o : zO} {G : Nat → Nat → zL → List zA → zM → Prop} (g1 : Nat) (hg1 : g1 < zN 6) (m : zM) (R : zRu (d + 3) tX1_at 0 (z_hf []) o G) (c17 : Int32 → Int64 → Int32 → Option (Int32)) (hc17 : ∀ (x3 : Int32) (x4 : Int64) (x6 : Int32), zLK G (fun a => (z_cI a, m) : Int32 → zO) o (c17 x3 x4 x6) some (k + 0) 17 [some (.inr (3, 0)), none, none, some (.inl (.int x3)), some (.inl (.long x4)), none, some (.inl (.int x6)), none] [] m) (x3 : Int32) (x4 : Int64) (x6 : Int32) (s0 : Int32) : zLK G (fun a => (z_cI a, m) : Int32 → zO) o (f_X1_at_57 g1 m c17 x3 x4 x6 s0) some (k + 0) 57 [some (.inr (3, 0)), none, none, some (.inl (.int x3)), some (.inl (.long x4)), none, some (.inl (.int x6)), none] [.inl (.int s0)] m := by
  unfold f_X1_at_57
  refine zk_st R 2 61 [some (.inr (3, 0)), none, none, some (.inl (.int x3)), some (.inl (.long x4)), none, some (.inl (.int x6)), some (.inl (.int s0))] [.inl (.int s0)] m rfl ⟨trivial, trivial, trivial⟩ ?_
  refine zk_br R rfl (fun _ => ?_) (fun _ => ?_)
  · refine zk_st R 2 17 [some (.inr (3, 0)), none, none, some (.inl (.int x3)), some (.inl (.long x4)), none, some (.inl (.int (x6 + (1 : Int32)))), some (.inl (.int s0))] [] m rfl ⟨trivial, trivial, trivial⟩ ?_
    refine zk_mask R [true, false, false, true, true, false, true, false] rfl ?_
    exact hc17 x3 x4 (x6 + (1 : Int32))
  · refine zk_st R 3 70 [some (.inr (3, 0)), none, none, some (.inl (.int x3)), some (.inl (.long x4)), none, some (.inl (.int x6)), some (.inl (.int s0))] [.inl (.int x6), .inr (31, 1)] m rfl ⟨trivial, (Nat.le_of_ble_eq_true rfl), trivial, trivial⟩ ?_
    refine zk_call R (fun b => some (.inl (.long b))) (fun _ => m) rfl (r_X7_at_) (fun b hb => w_X7_at__k31 (d + 2) 0 1 (Nat.le_of_ble_eq_true rfl) x6 m b hb) (fun r2 => ?_)
    refine zk_st R 4 78 [some (.inr (3, 0)), none, none, some (.inl (.int x3)), some (.inl (.long x4)), none, some (.inl (.int x6)), some (.inl (.int s0))] [.inl (.int (lg_cmp (r2 &&& x4) (0 : Int64)))] m rfl ⟨trivial, trivial, trivial, trivial, trivial⟩ ?_
    refine zk_br R rfl (fun _ => ?_) (fun _ => ?_)
    · refine zk_st R 2 17 [some (.inr (3, 0)), none, none, some (.inl (.int x3)), some (.inl (.long x4)), none, some (.inl (.int (x6 + (1 : Int32)))), some (.inl (.int s0))] [] m rfl ⟨trivial, trivial, trivial⟩ ?_
      refine zk_mask R [true, false, false, true, true, false, true, false] rfl ?_
      exact hc17 x3 x4 (x6 + (1 : Int32))
    · refine zk_st R 1 83 [some (.inr (3, 0)), none, none, some (.inl (.int x3)), some (.inl (.long x4)), none, some (.inl (.int x6)), some (.inl (.int s0))] [.inl (.int x6)] m rfl ⟨trivial, trivial⟩ ?_
      exact zk_ret R rfl trivial rfl
theorem w_X1_at_56 (d k : Nat) {o : zO} {G : Nat → Nat → zL → List zA → zM → Prop} (g1 : Nat) (hg1 : g1 < zN 6) (m : zM) (R : zRu (d + 3) tX1_at 0 (z_hf []) o G) (c17 : Int32 → Int64 → Int32 → Option (Int32)) (hc17 : ∀ (x3 : Int32) (x4 : Int64) (x6 : Int32), zLK G (fun a => (z_cI a, m) : Int32 → zO) o (c17 x3 x4 x6) some (k + 0) 17 [some (.inr (3, 0)), none, none, some (.inl (.int x3)), some (.inl (.long x4)), none, some (.inl (.int x6)), none] [] m) (x3 : Int32) (x4 : Int64) (x6 : Int32) : zLK G (fun a => (z_cI a, m) : Int32 → zO) o (f_X1_at_56 g1 m c17 x3 x4 x6) some (k + 0) 56 [some (.inr (3, 0)), none, none, some (.inl (.int x3)), some (.inl (.long x4)), none, some (.inl (.int x6)), none] [] m := by
  unfold f_X1_at_56
  refine zk_st R 1 57 [some (.inr (3, 0)), none, none, some (.inl (.int x3)), some (.inl (.long x4)), none, some (.inl (.int x6)), none] [.inl (.int (0 : Int32))] m rfl ⟨trivial, trivial⟩ ?_
  refine zk_mask R [true, false, false, true, true, false, true, false] rfl ?_
  exact w_X1_at_57 d k g1 hg1 m R c17 hc17 x3 x4 x6 (0 : Int32)
theorem w_X1_at_17 (d k : Nat) {o : zO} {G : Nat → Nat → zL → List zA → zM → Prop} (g1 : Nat) (hg1 : g1 < zN 6) (m : zM) (R : zRu (d + 3) tX1_at 0 (z_hf []) o G) : ∀ (j : Nat) (x3 : Int32) (x4 : Int64) (x6 : Int32), zLK G (fun a => (z_cI a, m) : Int32 → zO) o (f_X1_at_17 g1 m j x3 x4 x6) some (k + 0) 17 [some (.inr (3, 0)), none, none, some (.inl (.int x3)), some (.inl (.long x4)), none, some (.inl (.int x6)), none] [] m := by
  intro j
  induction j with
  | zero =>
    intro _ _ _
    exact zk_none
  | succ j ih =>
    intro x3 x4 x6
    unfold f_X1_at_17
    refine zk_st R 3 23 [some (.inr (3, 0)), none, none, some (.inl (.int x3)), some (.inl (.long x4)), none, some (.inl (.int x6)), none] [.inl (.int (m.1 3 0 0)), .inl (.int x6)] m rfl ⟨trivial, trivial, (Nat.le_of_ble_eq_true rfl), trivial⟩ ?_
    refine zk_br R rfl (fun _ => ?_) (fun _ => ?_)
    · refine zk_st R 1 91 [some (.inr (3, 0)), none, none, some (.inl (.int x3)), some (.inl (.long x4)), none, some (.inl (.int x6)), none] [.inl (.int (-1 : Int32))] m rfl ⟨trivial, trivial⟩ ?_
      exact zk_ret R rfl trivial rfl
    · refine zk_st R 3 32 [some (.inr (3, 0)), none, none, some (.inl (.int x3)), some (.inl (.long x4)), none, some (.inl (.int x6)), none] [.inl (.int x6), .inr (21, 0)] m rfl ⟨trivial, (Nat.le_of_ble_eq_true rfl), trivial, trivial⟩ ?_
      refine zk_call R (fun b => some (.inl (.int b))) (fun _ => m) rfl (r_X7_at) (fun b hb => w_X7_at_k21 (d + 2) 0 0 (Nat.le_of_ble_eq_true rfl) x6 m b hb) (fun r2 => ?_)
      refine zk_st R 1 36 [some (.inr (3, 0)), none, none, some (.inl (.int x3)), some (.inl (.long x4)), none, some (.inl (.int x6)), none] [.inl (.int x3), .inl (.int r2)] m rfl ⟨trivial, trivial⟩ ?_
      refine zk_br R rfl (fun _ => ?_) (fun _ => ?_)
      · refine zk_mask R [true, false, false, true, true, false, true, false] rfl ?_
        exact w_X1_at_56 d k g1 hg1 m R (f_X1_at_17 g1 m j) ih x3 x4 x6
      · refine zk_st R 4 46 [some (.inr (3, 0)), none, none, some (.inl (.int x3)), some (.inl (.long x4)), none, some (.inl (.int x6)), none] [.inl (.int x6), .inr (21, 1), .inl (.int x3)] m rfl ⟨trivial, trivial, (Nat.le_of_ble_eq_true rfl), trivial, trivial⟩ ?_
        refine zk_call R (fun b => some (.inl (.int b))) (fun _ => m) rfl (r_X7_at) (fun b hb => w_X7_at_k21 (d + 2) 0 1 (Nat.le_of_ble_eq_true rfl) x6 m b hb) (fun r4 => ?_)
        refine zk_br R rfl (fun _ => ?_) (fun _ => ?_)
        · refine zk_mask R [true, false, false, true, true, false, true, false] rfl ?_
          exact w_X1_at_56 d k g1 hg1 m R (f_X1_at_17 g1 m j) ih x3 x4 x6
        · refine zk_st R 2 57 [some (.inr (3, 0)), none, none, some (.inl (.int x3)), some (.inl (.long x4)), none, some (.inl (.int x6)), none] [.inl (.int (1 : Int32))] m rfl ⟨trivial, trivial, trivial⟩ ?_
          refine zk_mask R [true, false, false, true, true, false, true, false] rfl ?_
          exact w_X1_at_57 d k g1 hg1 m R (f_X1_at_17 g1 m j) ih x3 x4 x6 (1 : Int32)
theorem w_X1_at (d k : Nat) (g1 : Nat) (hg1 : g1 < zN 6) (x2 : Int32) (x3 : Int32) (m : zM) (a : Int32) (ha : f_X1_at g1 x2 x3 m = some a) : z_Ev z_MT zN zRf (d + 4) (k + 0) 55 [.inr (3, 0), .inr (6, g1), .inl (.int x2), .inl (.int x3)] m ((fun a => (z_cI a, m) : Int32 → zO) a) := by
  refine zk_top (I := (yX1_at, cX1_at, 8, (some .int), [], tX1_at, 3, 3, 3, 0, 0, 0)) (oc := (fun a => (z_cI a, m) : Int32 → zO)) (a := a) rfl (Nat.le_of_ble_eq_true rfl) (fun G R => ?_) ha
  unfold f_X1_at
  refine zk_st R 6 6 [some (.inr (3, 0)), some (.inr (6, g1)), some (.inl (.int x2)), some (.inl (.int x3)), none, none, none, none] [.inl (.int x3), .inr (6, g1), .inl (.long (z_shl (1 : Int64) x2)), .inr (6, g1)] m rfl ⟨trivial, trivial, trivial, trivial, trivial, trivial, trivial⟩ ?_
  refine zk_call R (fun b => some (.inl (.long b))) (fun _ => m) rfl (r_X4_poolCells hg1) (fun b hb => w_X4_poolCells d 0 g1 hg1 x3 m b hb) (fun r1 => ?_)
  refine zk_call R (fun b => some (.inl (.long b))) (fun _ => m) rfl (r_X4_reachable hg1) (fun b hb => w_X4_reachable (d + 1) 0 g1 hg1 (z_shl (1 : Int64) x2) r1 m b hb) (fun r2 => ?_)
  refine zk_st R 3 17 [some (.inr (3, 0)), some (.inr (6, g1)), some (.inl (.int x2)), some (.inl (.int x3)), some (.inl (.long r2)), none, some (.inl (.int (0 : Int32))), none] [] m rfl ⟨trivial, trivial, trivial, trivial⟩ ?_
  refine zk_mask R [true, false, false, true, true, false, true, false] rfl ?_
  exact w_X1_at_17 d k g1 hg1 m R zF x3 r2 (0 : Int32)
theorem r_X2_fill {i : Nat} {t : List zA} (h : i < zN 4) : z_rcv zN (zKD 56) (.inr (4, i) :: t) := by
  rw [show zKD 56 = 4 from rfl]
  exact ⟨rfl, h⟩
noncomputable def f_X2_fill (g1 : Nat) (m : zM) : Option (zM) :=
  Option.bind (f_X2_findLevels g1 m) fun r1 =>
  Option.bind (f_X2_findDepths g1 r1) fun r2 =>
  Option.bind (f_X2_findLakes g1 r2) fun r3 =>
  some r3
theorem w_X2_fill (d k : Nat) (g1 : Nat) (hg1 : g1 < zN 6) (m : zM) (a : zM) (ha : f_X2_fill g1 m = some a) : z_Ev z_MT zN zRf (d + 4) (k + 0) 56 [.inr (4, 0), .inr (6, g1)] m ((fun a => (.inl none, a) : zM → zO) a) := by
  refine zk_top (I := (yX2_fill, cX2_fill, 2, none, [], tX2_fill, 4, 1, 4, 0, 0, 0)) (oc := (fun a => (.inl none, a) : zM → zO)) (a := a) rfl (Nat.le_of_ble_eq_true rfl) (fun G R => ?_) ha
  unfold f_X2_fill
  refine zk_st R 2 2 [some (.inr (4, 0)), some (.inr (6, g1))] [.inr (6, g1), .inr (4, 0)] m rfl ⟨trivial, trivial, trivial⟩ ?_
  refine zk_call R (fun _ => none) id rfl (r_X2_findLevels (Nat.le_of_ble_eq_true rfl)) (fun b hb => w_X2_findLevels d 0 g1 hg1 m b hb) (fun r1 => ?_)
  refine zk_st R 2 7 [some (.inr (4, 0)), some (.inr (6, g1))] [.inr (6, g1), .inr (4, 0)] r1 rfl ⟨trivial, trivial, trivial⟩ ?_
  refine zk_call R (fun _ => none) id rfl (r_X2_findDepths (Nat.le_of_ble_eq_true rfl)) (fun b hb => w_X2_findDepths (d + 1) 0 g1 hg1 r1 b hb) (fun r2 => ?_)
  refine zk_st R 2 12 [some (.inr (4, 0)), some (.inr (6, g1))] [.inr (6, g1), .inr (4, 0)] r2 rfl ⟨trivial, trivial, trivial⟩ ?_
  refine zk_call R (fun _ => none) id rfl (r_X2_findLakes (Nat.le_of_ble_eq_true rfl)) (fun b hb => w_X2_findLakes d 0 g1 hg1 r2 b hb) (fun r3 => ?_)
  exact zk_ret R rfl trivial rfl
