theorem r_X12_looks {i : Nat} {t : List zA} (h : i < zN 13) : z_rcv zN (zKD 181) (.inr (13, i) :: t) := by
  rw [show zKD 181 = 13 from rfl]
  exact ⟨rfl, h⟩
noncomputable def f_X12_looks_317 (c157 : Int32 → zM → Option (zM)) (c238 : Int32 → Int32 → Int32 → zM → Option (zM)) (x2 : Int32) (x3 : Int32) (x4 : Int32) (m : zM) : Option (zM) :=
  z_gd (z_inb x2 (z_alen 20)) <| c238 x2 x3 (x4 + (-1 : Int32)) (z_sI (z_sI m 20 61 (Int32.toNatClampNeg x2) x4) 20 62 (Int32.toNatClampNeg x2) (((z_sI m 20 61 (Int32.toNatClampNeg x2) x4).1 20 62 (Int32.toNatClampNeg x2)) + (1 : Int32)))
noncomputable def f_X12_looks_238 (c157 : Int32 → zM → Option (zM)) : Nat → Int32 → Int32 → Int32 → zM → Option (zM)
  | 0, _, _, _, _ => none
  | j + 1, x2, x3, x4, m =>
    if x4 < 0 then
      c157 (x2 + (1 : Int32)) m
    else
      Option.bind (f_X12_next x2 x4 m) fun r2 =>
      if r2 < 0 then
        f_X12_looks_238 c157 j x2 x3 (x4 + (-1 : Int32)) m
      else
        z_gd (z_inb x2 (z_alen 20)) <| if (m.1 20 60 (Int32.toNatClampNeg x2)) = 0 then
          z_gd (z_inb r2 (z_alen 20)) <| if (m.1 20 59 (Int32.toNatClampNeg r2)) = x3 then
            f_X12_looks_317 c157 (f_X12_looks_238 c157 j) x2 x3 x4 m
          else
            f_X12_looks_238 c157 j x2 x3 (x4 + (-1 : Int32)) m
        else
          z_gd (z_inb r2 (z_alen 20)) <| z_gd (z_inb x2 (z_alen 20)) <| if (m.1 20 59 (Int32.toNatClampNeg r2)) = (m.1 20 59 (Int32.toNatClampNeg x2)) then
            z_gd (z_inb r2 (z_alen 20)) <| z_gd (z_inb x2 (z_alen 20)) <| if (m.1 20 60 (Int32.toNatClampNeg r2)) = ((m.1 20 60 (Int32.toNatClampNeg x2)) - (1 : Int32)) then
              f_X12_looks_317 c157 (f_X12_looks_238 c157 j) x2 x3 x4 m
            else
              f_X12_looks_238 c157 j x2 x3 (x4 + (-1 : Int32)) m
          else
            f_X12_looks_238 c157 j x2 x3 (x4 + (-1 : Int32)) m
noncomputable def f_X12_looks_196 (c157 : Int32 → zM → Option (zM)) : Nat → Int32 → Int32 → Int32 → zM → Option (zM)
  | 0, _, _, _, _ => none
  | j + 1, x2, x3, x4, m =>
    if (4 : Int32) ≤ x4 then
      f_X12_looks_238 c157 zF x2 x3 (3 : Int32) m
    else
      Option.bind (f_X12_next x2 x4 m) fun r2 =>
      if r2 < 0 then
        f_X12_looks_196 c157 j x2 x3 (x4 + (1 : Int32)) m
      else
        Option.bind (f_X12_next x2 x4 m) fun r4 =>
        z_gd (z_inb r4 (z_alen 20)) <| Option.bind (f_J9_min_7cf53 x3 (m.1 20 59 (Int32.toNatClampNeg r4)) m) fun r6 =>
        f_X12_looks_196 c157 j x2 r6 (x4 + (1 : Int32)) m
noncomputable def f_X12_looks_157 : Nat → Int32 → zM → Option (zM)
  | 0, _, _ => none
  | j + 1, x2, m =>
    Option.bind (f_X12_cells m) fun r1 =>
    if r1 ≤ x2 then
      some m
    else
      z_gd (z_inb x2 (z_alen 20)) <| Option.bind (f_X12_isOutlet x2 (z_sI (z_sI m 20 61 (Int32.toNatClampNeg x2) (-1 : Int32)) 20 62 (Int32.toNatClampNeg x2) (0 : Int32))) fun r4 =>
      if (z_bi r4) = 0 then
        f_X12_looks_196 (f_X12_looks_157 j) zF x2 (1000000 : Int32) (0 : Int32) (z_sI (z_sI m 20 61 (Int32.toNatClampNeg x2) (-1 : Int32)) 20 62 (Int32.toNatClampNeg x2) (0 : Int32))
      else
        f_X12_looks_157 j (x2 + (1 : Int32)) (z_sI (z_sI m 20 61 (Int32.toNatClampNeg x2) (-1 : Int32)) 20 62 (Int32.toNatClampNeg x2) (0 : Int32))
noncomputable def f_X12_looks_68 (c50 : Int32 → zM → Option (zM)) (c58 : Int32 → Int32 → zM → Option (zM)) : Nat → Int32 → Int32 → Int32 → zM → Option (zM)
  | 0, _, _, _, _ => none
  | j + 1, x1, x2, x3, m =>
    if (4 : Int32) ≤ x3 then
      c58 x1 (x2 + (1 : Int32)) m
    else
      Option.bind (f_X12_next x2 x3 m) fun r2 =>
      if r2 < 0 then
        f_X12_looks_68 c50 c58 j x1 x2 (x3 + (1 : Int32)) m
      else
        z_gd (z_inb r2 (z_alen 20)) <| z_gd (z_inb x2 (z_alen 20)) <| if (m.1 20 59 (Int32.toNatClampNeg r2)) = (m.1 20 59 (Int32.toNatClampNeg x2)) then
          z_gd (z_inb r2 (z_alen 20)) <| z_gd (z_inb x2 (z_alen 20)) <| if ((m.1 20 60 (Int32.toNatClampNeg r2)) + (1 : Int32)) < (m.1 20 60 (Int32.toNatClampNeg x2)) then
            z_gd (z_inb r2 (z_alen 20)) <| z_gd (z_inb x2 (z_alen 20)) <| f_X12_looks_68 c50 c58 j (1 : Int32) x2 (x3 + (1 : Int32)) (z_sI m 20 60 (Int32.toNatClampNeg x2) ((m.1 20 60 (Int32.toNatClampNeg r2)) + (1 : Int32)))
          else
            f_X12_looks_68 c50 c58 j x1 x2 (x3 + (1 : Int32)) m
        else
          f_X12_looks_68 c50 c58 j x1 x2 (x3 + (1 : Int32)) m
noncomputable def f_X12_looks_58 (c50 : Int32 → zM → Option (zM)) : Nat → Int32 → Int32 → zM → Option (zM)
  | 0, _, _, _ => none
  | j + 1, x1, x2, m =>
    Option.bind (f_X12_cells m) fun r1 =>
    if r1 ≤ x2 then
      c50 x1 m
    else
      f_X12_looks_68 c50 (f_X12_looks_58 c50 j) zF x1 x2 (0 : Int32) m
noncomputable def f_X12_looks_50 : Nat → Int32 → zM → Option (zM)
  | 0, _, _ => none
  | j + 1, x1, m =>
    if x1 = 0 then
      f_X12_looks_157 zF (0 : Int32) m
    else
      f_X12_looks_58 (f_X12_looks_50 j) zF (0 : Int32) (0 : Int32) m
noncomputable def f_X12_looks_41 (c6 : Int32 → zM → Option (zM)) (x1 : Int32) (s1 : Int32) (s2 : Int32) (m : zM) : Option (zM) :=
  z_gd (z_inb s1 (z_alen 20)) <| c6 (x1 + (1 : Int32)) (z_sI m 20 60 (Int32.toNatClampNeg s1) s2)
noncomputable def f_X12_looks_6 : Nat → Int32 → zM → Option (zM)
  | 0, _, _ => none
  | j + 1, x1, m =>
    Option.bind (f_X12_cells m) fun r1 =>
    if r1 ≤ x1 then
      f_X12_looks_50 zF (1 : Int32) m
    else
      Option.bind (f_X12_isOutlet x1 m) fun r3 =>
      if (z_bi r3) = 0 then
        Option.bind (f_X12_isSloping x1 m) fun r5 =>
        if (z_bi r5) = 0 then
          f_X12_looks_41 (f_X12_looks_6 j) x1 x1 (1000000 : Int32) m
        else
          f_X12_looks_41 (f_X12_looks_6 j) x1 x1 (0 : Int32) m
      else
        f_X12_looks_41 (f_X12_looks_6 j) x1 x1 (0 : Int32) m
noncomputable def f_X12_looks (m : zM) : Option (zM) :=
  Option.bind (f_X12_levels m) fun r1 =>
  f_X12_looks_6 zF (0 : Int32) r1
theorem w_X12_looks_317 (d k : Nat) {o : zO} {G : Nat → Nat → zL → List zA → zM → Prop} (R : zRu (d + 2) tX12_looks 0 (z_hf []) o G) (c157 : Int32 → zM → Option (zM)) (c238 : Int32 → Int32 → Int32 → zM → Option (zM)) (hc157 : ∀ (x2 : Int32) (m : zM), zLK G (fun a => (.inl none, a) : zM → zO) o (c157 x2 m) some (k + 0) 157 [some (.inr (13, 0)), none, some (.inl (.int x2)), none, none, none] [] m) (hc238 : ∀ (x2 : Int32) (x3 : Int32) (x4 : Int32) (m : zM), zLK G (fun a => (.inl none, a) : zM → zO) o (c238 x2 x3 x4 m) some (k + 0) 238 [some (.inr (13, 0)), none, some (.inl (.int x2)), some (.inl (.int x3)), some (.inl (.int x4)), none] [] m) (x2 : Int32) (x3 : Int32) (x4 : Int32) (m : zM) : zLK G (fun a => (.inl none, a) : zM → zO) o (f_X12_looks_317 c157 c238 x2 x3 x4 m) some (k + 0) 317 [some (.inr (13, 0)), none, some (.inl (.int x2)), some (.inl (.int x3)), some (.inl (.int x4)), none] [] m := by
  unfold f_X12_looks_317
  refine zk_gd fun e1 => ?_
  refine zk_st R 15 238 [some (.inr (13, 0)), none, some (.inl (.int x2)), some (.inl (.int x3)), some (.inl (.int (x4 + (-1 : Int32)))), none] [] (z_sI (z_sI m 20 61 (Int32.toNatClampNeg x2) x4) 20 62 (Int32.toNatClampNeg x2) (((z_sI m 20 61 (Int32.toNatClampNeg x2) x4).1 20 62 (Int32.toNatClampNeg x2)) + (1 : Int32))) rfl ⟨trivial, (Nat.le_of_ble_eq_true rfl), trivial, trivial, ⟨(Nat.le_of_ble_eq_true rfl), z_inb_in e1⟩, trivial, (Nat.le_of_ble_eq_true rfl), trivial, trivial, ⟨(Nat.le_of_ble_eq_true rfl), z_inb_in e1⟩, trivial, trivial, ⟨(Nat.le_of_ble_eq_true rfl), z_inb_in e1⟩, trivial, trivial, trivial⟩ ?_
  refine zk_mask R [true, false, true, true, true, false] rfl ?_
  exact hc238 x2 x3 (x4 + (-1 : Int32)) (z_sI (z_sI m 20 61 (Int32.toNatClampNeg x2) x4) 20 62 (Int32.toNatClampNeg x2) (((z_sI m 20 61 (Int32.toNatClampNeg x2) x4).1 20 62 (Int32.toNatClampNeg x2)) + (1 : Int32)))
theorem w_X12_looks_238 (d k : Nat) {o : zO} {G : Nat → Nat → zL → List zA → zM → Prop} (R : zRu (d + 2) tX12_looks 0 (z_hf []) o G) (c157 : Int32 → zM → Option (zM)) (hc157 : ∀ (x2 : Int32) (m : zM), zLK G (fun a => (.inl none, a) : zM → zO) o (c157 x2 m) some (k + 0) 157 [some (.inr (13, 0)), none, some (.inl (.int x2)), none, none, none] [] m) : ∀ (j : Nat) (x2 : Int32) (x3 : Int32) (x4 : Int32) (m : zM), zLK G (fun a => (.inl none, a) : zM → zO) o (f_X12_looks_238 c157 j x2 x3 x4 m) some (k + 0) 238 [some (.inr (13, 0)), none, some (.inl (.int x2)), some (.inl (.int x3)), some (.inl (.int x4)), none] [] m := by
  intro j
  induction j with
  | zero =>
    intro _ _ _ _
    exact zk_none
  | succ j ih =>
    intro x2 x3 x4 m
    unfold f_X12_looks_238
    refine zk_st R 1 240 [some (.inr (13, 0)), none, some (.inl (.int x2)), some (.inl (.int x3)), some (.inl (.int x4)), none] [.inl (.int x4)] m rfl ⟨trivial, trivial⟩ ?_
    refine zk_br R rfl (fun _ => ?_) (fun _ => ?_)
    · refine zk_st R 2 157 [some (.inr (13, 0)), none, some (.inl (.int (x2 + (1 : Int32)))), some (.inl (.int x3)), some (.inl (.int x4)), none] [] m rfl ⟨trivial, trivial, trivial⟩ ?_
      refine zk_mask R [true, false, true, false, false, false] rfl ?_
      exact hc157 (x2 + (1 : Int32)) m
    · refine zk_st R 3 247 [some (.inr (13, 0)), none, some (.inl (.int x2)), some (.inl (.int x3)), some (.inl (.int x4)), none] [.inl (.int x4), .inl (.int x2), .inr (13, 0)] m rfl ⟨trivial, trivial, trivial, trivial⟩ ?_
      refine zk_call R (fun b => some (.inl (.int b))) (fun _ => m) rfl (r_X12_next (Nat.le_of_ble_eq_true rfl)) (fun b hb => w_X12_next (d + 1) 0 x2 x4 m b hb) (fun r2 => ?_)
      refine zk_st R 2 254 [some (.inr (13, 0)), none, some (.inl (.int x2)), some (.inl (.int x3)), some (.inl (.int x4)), some (.inl (.int r2))] [.inl (.int r2)] m rfl ⟨trivial, trivial, trivial⟩ ?_
      refine zk_br R rfl (fun _ => ?_) (fun _ => ?_)
      · refine zk_st R 2 238 [some (.inr (13, 0)), none, some (.inl (.int x2)), some (.inl (.int x3)), some (.inl (.int (x4 + (-1 : Int32)))), some (.inl (.int r2))] [] m rfl ⟨trivial, trivial, trivial⟩ ?_
        refine zk_mask R [true, false, true, true, true, false] rfl ?_
        exact ih x2 x3 (x4 + (-1 : Int32)) m
      · refine zk_gd fun e4 => ?_
        refine zk_st R 4 263 [some (.inr (13, 0)), none, some (.inl (.int x2)), some (.inl (.int x3)), some (.inl (.int x4)), some (.inl (.int r2))] [.inl (.int (m.1 20 60 (Int32.toNatClampNeg x2)))] m rfl ⟨trivial, (Nat.le_of_ble_eq_true rfl), trivial, ⟨(Nat.le_of_ble_eq_true rfl), z_inb_in e4⟩, trivial⟩ ?_
        refine zk_br R rfl (fun _ => ?_) (fun _ => ?_)
        · refine zk_gd fun e6 => ?_
          refine zk_st R 5 274 [some (.inr (13, 0)), none, some (.inl (.int x2)), some (.inl (.int x3)), some (.inl (.int x4)), some (.inl (.int r2))] [.inl (.int x3), .inl (.int (m.1 20 59 (Int32.toNatClampNeg r2)))] m rfl ⟨trivial, (Nat.le_of_ble_eq_true rfl), trivial, ⟨(Nat.le_of_ble_eq_true rfl), z_inb_in e6⟩, trivial, trivial⟩ ?_
          refine zk_br R rfl (fun _ => ?_) (fun _ => ?_)
          · refine zk_mask R [true, false, true, true, true, false] rfl ?_
            exact w_X12_looks_317 d k R c157 (f_X12_looks_238 c157 j) hc157 ih x2 x3 x4 m
          · refine zk_st R 3 238 [some (.inr (13, 0)), none, some (.inl (.int x2)), some (.inl (.int x3)), some (.inl (.int (x4 + (-1 : Int32)))), some (.inl (.int r2))] [] m rfl ⟨trivial, trivial, trivial, trivial⟩ ?_
            refine zk_mask R [true, false, true, true, true, false] rfl ?_
            exact ih x2 x3 (x4 + (-1 : Int32)) m
        · refine zk_gd fun e8 => ?_
          refine zk_gd fun e9 => ?_
          refine zk_st R 8 293 [some (.inr (13, 0)), none, some (.inl (.int x2)), some (.inl (.int x3)), some (.inl (.int x4)), some (.inl (.int r2))] [.inl (.int (m.1 20 59 (Int32.toNatClampNeg x2))), .inl (.int (m.1 20 59 (Int32.toNatClampNeg r2)))] m rfl ⟨trivial, (Nat.le_of_ble_eq_true rfl), trivial, ⟨(Nat.le_of_ble_eq_true rfl), z_inb_in e8⟩, trivial, (Nat.le_of_ble_eq_true rfl), trivial, ⟨(Nat.le_of_ble_eq_true rfl), z_inb_in e9⟩, trivial⟩ ?_
          refine zk_br R rfl (fun _ => ?_) (fun _ => ?_)
          · refine zk_gd fun e11 => ?_
            refine zk_gd fun e12 => ?_
            refine zk_st R 10 311 [some (.inr (13, 0)), none, some (.inl (.int x2)), some (.inl (.int x3)), some (.inl (.int x4)), some (.inl (.int r2))] [.inl (.int ((m.1 20 60 (Int32.toNatClampNeg x2)) - (1 : Int32))), .inl (.int (m.1 20 60 (Int32.toNatClampNeg r2)))] m rfl ⟨trivial, (Nat.le_of_ble_eq_true rfl), trivial, ⟨(Nat.le_of_ble_eq_true rfl), z_inb_in e11⟩, trivial, (Nat.le_of_ble_eq_true rfl), trivial, ⟨(Nat.le_of_ble_eq_true rfl), z_inb_in e12⟩, trivial, trivial, trivial⟩ ?_
            refine zk_br R rfl (fun _ => ?_) (fun _ => ?_)
            · refine zk_mask R [true, false, true, true, true, false] rfl ?_
              exact w_X12_looks_317 d k R c157 (f_X12_looks_238 c157 j) hc157 ih x2 x3 x4 m
            · refine zk_st R 3 238 [some (.inr (13, 0)), none, some (.inl (.int x2)), some (.inl (.int x3)), some (.inl (.int (x4 + (-1 : Int32)))), some (.inl (.int r2))] [] m rfl ⟨trivial, trivial, trivial, trivial⟩ ?_
              refine zk_mask R [true, false, true, true, true, false] rfl ?_
              exact ih x2 x3 (x4 + (-1 : Int32)) m
          · refine zk_st R 2 238 [some (.inr (13, 0)), none, some (.inl (.int x2)), some (.inl (.int x3)), some (.inl (.int (x4 + (-1 : Int32)))), some (.inl (.int r2))] [] m rfl ⟨trivial, trivial, trivial⟩ ?_
            refine zk_mask R [true, false, true, true, true, false] rfl ?_
            exact ih x2 x3 (x4 + (-1 : Int32)) m
theorem w_X12_looks_196 (d k : Nat) {o : zO} {G : Nat → Nat → zL → List zA → zM → Prop} (R : zRu (d + 2) tX12_looks 0 (z_hf []) o G) (c157 : Int32 → zM → Option (zM)) (hc157 : ∀ (x2 : Int32) (m : zM), zLK G (fun a => (.inl none, a) : zM → zO) o (c157 x2 m) some (k + 0) 157 [some (.inr (13, 0)), none, some (.inl (.int x2)), none, none, none] [] m) : ∀ (j : Nat) (x2 : Int32) (x3 : Int32) (x4 : Int32) (m : zM), zLK G (fun a => (.inl none, a) : zM → zO) o (f_X12_looks_196 c157 j x2 x3 x4 m) some (k + 0) 196 [some (.inr (13, 0)), none, some (.inl (.int x2)), some (.inl (.int x3)), some (.inl (.int x4)), none] [] m := by
  intro j
  induction j with
  | zero =>
    intro _ _ _ _
    exact zk_none
  | succ j ih =>
    intro x2 x3 x4 m
    unfold f_X12_looks_196
    refine zk_st R 2 199 [some (.inr (13, 0)), none, some (.inl (.int x2)), some (.inl (.int x3)), some (.inl (.int x4)), none] [.inl (.int (4 : Int32)), .inl (.int x4)] m rfl ⟨trivial, trivial, trivial⟩ ?_
    refine zk_br R rfl (fun _ => ?_) (fun _ => ?_)
    · refine zk_st R 2 238 [some (.inr (13, 0)), none, some (.inl (.int x2)), some (.inl (.int x3)), some (.inl (.int (3 : Int32))), none] [] m rfl ⟨trivial, trivial, trivial⟩ ?_
      refine zk_mask R [true, false, true, true, true, false] rfl ?_
      exact w_X12_looks_238 d k R c157 hc157 zF x2 x3 (3 : Int32) m
    · refine zk_st R 3 206 [some (.inr (13, 0)), none, some (.inl (.int x2)), some (.inl (.int x3)), some (.inl (.int x4)), none] [.inl (.int x4), .inl (.int x2), .inr (13, 0)] m rfl ⟨trivial, trivial, trivial, trivial⟩ ?_
      refine zk_call R (fun b => some (.inl (.int b))) (fun _ => m) rfl (r_X12_next (Nat.le_of_ble_eq_true rfl)) (fun b hb => w_X12_next (d + 1) 0 x2 x4 m b hb) (fun r2 => ?_)
      refine zk_br R rfl (fun _ => ?_) (fun _ => ?_)
      · refine zk_st R 2 196 [some (.inr (13, 0)), none, some (.inl (.int x2)), some (.inl (.int x3)), some (.inl (.int (x4 + (1 : Int32)))), none] [] m rfl ⟨trivial, trivial, trivial⟩ ?_
        refine zk_mask R [true, false, true, true, true, false] rfl ?_
        exact ih x2 x3 (x4 + (1 : Int32)) m
      · refine zk_st R 6 221 [some (.inr (13, 0)), none, some (.inl (.int x2)), some (.inl (.int x3)), some (.inl (.int x4)), none] [.inl (.int x4), .inl (.int x2), .inr (13, 0), .inr (20, 59), .inl (.int x3)] m rfl ⟨trivial, trivial, (Nat.le_of_ble_eq_true rfl), trivial, trivial, trivial, trivial⟩ ?_
        refine zk_call R (fun b => some (.inl (.int b))) (fun _ => m) rfl (r_X12_next (Nat.le_of_ble_eq_true rfl)) (fun b hb => w_X12_next (d + 1) 0 x2 x4 m b hb) (fun r4 => ?_)
        refine zk_gd fun e5 => ?_
        refine zk_st R 1 225 [some (.inr (13, 0)), none, some (.inl (.int x2)), some (.inl (.int x3)), some (.inl (.int x4)), none] [.inl (.int (m.1 20 59 (Int32.toNatClampNeg r4))), .inl (.int x3)] m rfl ⟨⟨(Nat.le_of_ble_eq_true rfl), z_inb_in e5⟩, trivial⟩ ?_
        refine zk_call R (fun b => some (.inl (.int b))) (fun _ => m) rfl (r_J9_min_7cf53) (fun b hb => w_J9_min_7cf53 (d + 1) 0 x3 (m.1 20 59 (Int32.toNatClampNeg r4)) m b hb) (fun r6 => ?_)
        refine zk_st R 3 196 [some (.inr (13, 0)), none, some (.inl (.int x2)), some (.inl (.int r6)), some (.inl (.int (x4 + (1 : Int32)))), none] [] m rfl ⟨trivial, trivial, trivial, trivial⟩ ?_
        refine zk_mask R [true, false, true, true, true, false] rfl ?_
        exact ih x2 r6 (x4 + (1 : Int32)) m
theorem w_X12_looks_157 (d k : Nat) {o : zO} {G : Nat → Nat → zL → List zA → zM → Prop} (R : zRu (d + 2) tX12_looks 0 (z_hf []) o G) : ∀ (j : Nat) (x2 : Int32) (m : zM), zLK G (fun a => (.inl none, a) : zM → zO) o (f_X12_looks_157 j x2 m) some (k + 0) 157 [some (.inr (13, 0)), none, some (.inl (.int x2)), none, none, none] [] m := by
  intro j
  induction j with
  | zero =>
    intro _ _
    exact zk_none
  | succ j ih =>
    intro x2 m
    unfold f_X12_looks_157
    refine zk_st R 2 159 [some (.inr (13, 0)), none, some (.inl (.int x2)), none, none, none] [.inr (13, 0), .inl (.int x2)] m rfl ⟨trivial, trivial, trivial⟩ ?_
    refine zk_call R (fun b => some (.inl (.int b))) (fun _ => m) rfl (r_X12_cells (Nat.le_of_ble_eq_true rfl)) (fun b hb => w_X12_cells (d + 1) 0 m b hb) (fun r1 => ?_)
    refine zk_br R rfl (fun _ => ?_) (fun _ => ?_)
    · exact zk_ret R rfl trivial rfl
    · refine zk_gd fun e3 => ?_
      refine zk_st R 12 181 [some (.inr (13, 0)), none, some (.inl (.int x2)), none, none, none] [.inl (.int x2), .inr (13, 0)] (z_sI (z_sI m 20 61 (Int32.toNatClampNeg x2) (-1 : Int32)) 20 62 (Int32.toNatClampNeg x2) (0 : Int32)) rfl ⟨trivial, (Nat.le_of_ble_eq_true rfl), trivial, trivial, ⟨(Nat.le_of_ble_eq_true rfl), z_inb_in e3⟩, trivial, (Nat.le_of_ble_eq_true rfl), trivial, trivial, ⟨(Nat.le_of_ble_eq_true rfl), z_inb_in e3⟩, trivial, trivial, trivial⟩ ?_
      refine zk_call R (fun b => some (.inl (.int (z_bi b)))) (fun _ => (z_sI (z_sI m 20 61 (Int32.toNatClampNeg x2) (-1 : Int32)) 20 62 (Int32.toNatClampNeg x2) (0 : Int32))) rfl (r_X12_isOutlet (Nat.le_of_ble_eq_true rfl)) (fun b hb => w_X12_isOutlet (d + 1) 0 x2 (z_sI (z_sI m 20 61 (Int32.toNatClampNeg x2) (-1 : Int32)) 20 62 (Int32.toNatClampNeg x2) (0 : Int32)) b hb) (fun r4 => ?_)
      refine zk_br R rfl (fun _ => ?_) (fun _ => ?_)
      · refine zk_st R 4 196 [some (.inr (13, 0)), none, some (.inl (.int x2)), some (.inl (.int (1000000 : Int32))), some (.inl (.int (0 : Int32))), none] [] (z_sI (z_sI m 20 61 (Int32.toNatClampNeg x2) (-1 : Int32)) 20 62 (Int32.toNatClampNeg x2) (0 : Int32)) rfl ⟨trivial, trivial, trivial, trivial, trivial⟩ ?_
        refine zk_mask R [true, false, true, true, true, false] rfl ?_
        exact w_X12_looks_196 d k R (f_X12_looks_157 j) ih zF x2 (1000000 : Int32) (0 : Int32) (z_sI (z_sI m 20 61 (Int32.toNatClampNeg x2) (-1 : Int32)) 20 62 (Int32.toNatClampNeg x2) (0 : Int32))
      · refine zk_st R 3 157 [some (.inr (13, 0)), none, some (.inl (.int (x2 + (1 : Int32)))), none, none, none] [] (z_sI (z_sI m 20 61 (Int32.toNatClampNeg x2) (-1 : Int32)) 20 62 (Int32.toNatClampNeg x2) (0 : Int32)) rfl ⟨trivial, trivial, trivial, trivial⟩ ?_
        refine zk_mask R [true, false, true, false, false, false] rfl ?_
        exact ih (x2 + (1 : Int32)) (z_sI (z_sI m 20 61 (Int32.toNatClampNeg x2) (-1 : Int32)) 20 62 (Int32.toNatClampNeg x2) (0 : Int32))
theorem w_X12_looks_68 (d k : Nat) {o : zO} {G : Nat → Nat → zL → List zA → zM → Prop} (R : zRu (d + 2) tX12_looks 0 (z_hf []) o G) (c50 : Int32 → zM → Option (zM)) (c58 : Int32 → Int32 → zM → Option (zM)) (hc50 : ∀ (x1 : Int32) (m : zM), zLK G (fun a => (.inl none, a) : zM → zO) o (c50 x1 m) some (k + 0) 50 [some (.inr (13, 0)), some (.inl (.int x1)), none, none, none, none] [] m) (hc58 : ∀ (x1 : Int32) (x2 : Int32) (m : zM), zLK G (fun a => (.inl none, a) : zM → zO) o (c58 x1 x2 m) some (k + 0) 58 [some (.inr (13, 0)), some (.inl (.int x1)), some (.inl (.int x2)), none, none, none] [] m) : ∀ (j : Nat) (x1 : Int32) (x2 : Int32) (x3 : Int32) (m : zM), zLK G (fun a => (.inl none, a) : zM → zO) o (f_X12_looks_68 c50 c58 j x1 x2 x3 m) some (k + 0) 68 [some (.inr (13, 0)), some (.inl (.int x1)), some (.inl (.int x2)), some (.inl (.int x3)), none, none] [] m := by
  intro j
  induction j with
  | zero =>
    intro _ _ _ _
    exact zk_none
  | succ j ih =>
    intro x1 x2 x3 m
    unfold f_X12_looks_68
    refine zk_st R 2 70 [some (.inr (13, 0)), some (.inl (.int x1)), some (.inl (.int x2)), some (.inl (.int x3)), none, none] [.inl (.int (4 : Int32)), .inl (.int x3)] m rfl ⟨trivial, trivial, trivial⟩ ?_
    refine zk_br R rfl (fun _ => ?_) (fun _ => ?_)
    · refine zk_st R 2 58 [some (.inr (13, 0)), some (.inl (.int x1)), some (.inl (.int (x2 + (1 : Int32)))), some (.inl (.int x3)), none, none] [] m rfl ⟨trivial, trivial, trivial⟩ ?_
      refine zk_mask R [true, true, true, false, false, false] rfl ?_
      exact hc58 x1 (x2 + (1 : Int32)) m
    · refine zk_st R 3 76 [some (.inr (13, 0)), some (.inl (.int x1)), some (.inl (.int x2)), some (.inl (.int x3)), none, none] [.inl (.int x3), .inl (.int x2), .inr (13, 0)] m rfl ⟨trivial, trivial, trivial, trivial⟩ ?_
      refine zk_call R (fun b => some (.inl (.int b))) (fun _ => m) rfl (r_X12_next (Nat.le_of_ble_eq_true rfl)) (fun b hb => w_X12_next (d + 1) 0 x2 x3 m b hb) (fun r2 => ?_)
      refine zk_st R 2 83 [some (.inr (13, 0)), some (.inl (.int x1)), some (.inl (.int x2)), some (.inl (.int x3)), some (.inl (.int r2)), none] [.inl (.int r2)] m rfl ⟨trivial, trivial, trivial⟩ ?_
      refine zk_br R rfl (fun _ => ?_) (fun _ => ?_)
      · refine zk_st R 2 68 [some (.inr (13, 0)), some (.inl (.int x1)), some (.inl (.int x2)), some (.inl (.int (x3 + (1 : Int32)))), some (.inl (.int r2)), none] [] m rfl ⟨trivial, trivial, trivial⟩ ?_
        refine zk_mask R [true, true, true, true, false, false] rfl ?_
        exact ih x1 x2 (x3 + (1 : Int32)) m
      · refine zk_gd fun e4 => ?_
        refine zk_gd fun e5 => ?_
        refine zk_st R 8 99 [some (.inr (13, 0)), some (.inl (.int x1)), some (.inl (.int x2)), some (.inl (.int x3)), some (.inl (.int r2)), none] [.inl (.int (m.1 20 59 (Int32.toNatClampNeg x2))), .inl (.int (m.1 20 59 (Int32.toNatClampNeg r2)))] m rfl ⟨trivial, (Nat.le_of_ble_eq_true rfl), trivial, ⟨(Nat.le_of_ble_eq_true rfl), z_inb_in e4⟩, trivial, (Nat.le_of_ble_eq_true rfl), trivial, ⟨(Nat.le_of_ble_eq_true rfl), z_inb_in e5⟩, trivial⟩ ?_
        refine zk_br R rfl (fun _ => ?_) (fun _ => ?_)
        · refine zk_gd fun e7 => ?_
          refine zk_gd fun e8 => ?_
          refine zk_st R 10 117 [some (.inr (13, 0)), some (.inl (.int x1)), some (.inl (.int x2)), some (.inl (.int x3)), some (.inl (.int r2)), none] [.inl (.int (m.1 20 60 (Int32.toNatClampNeg x2))), .inl (.int ((m.1 20 60 (Int32.toNatClampNeg r2)) + (1 : Int32)))] m rfl ⟨trivial, (Nat.le_of_ble_eq_true rfl), trivial, ⟨(Nat.le_of_ble_eq_true rfl), z_inb_in e7⟩, trivial, trivial, trivial, (Nat.le_of_ble_eq_true rfl), trivial, ⟨(Nat.le_of_ble_eq_true rfl), z_inb_in e8⟩, trivial⟩ ?_
          refine zk_br R rfl (fun _ => ?_) (fun _ => ?_)
          · refine zk_gd fun e10 => ?_
            refine zk_gd fun e11 => ?_
            refine zk_st R 14 68 [some (.inr (13, 0)), some (.inl (.int (1 : Int32))), some (.inl (.int x2)), some (.inl (.int (x3 + (1 : Int32)))), some (.inl (.int r2)), none] [] (z_sI m 20 60 (Int32.toNatClampNeg x2) ((m.1 20 60 (Int32.toNatClampNeg r2)) + (1 : Int32))) rfl ⟨trivial, (Nat.le_of_ble_eq_true rfl), trivial, trivial, (Nat.le_of_ble_eq_true rfl), trivial, ⟨(Nat.le_of_ble_eq_true rfl), z_inb_in e10⟩, trivial, trivial, ⟨(Nat.le_of_ble_eq_true rfl), z_inb_in e11⟩, trivial, trivial, trivial, trivial, trivial⟩ ?_
            refine zk_mask R [true, true, true, true, false, false] rfl ?_
            exact ih (1 : Int32) x2 (x3 + (1 : Int32)) (z_sI m 20 60 (Int32.toNatClampNeg x2) ((m.1 20 60 (Int32.toNatClampNeg r2)) + (1 : Int32)))
          · refine zk_st R 3 68 [some (.inr (13, 0)), some (.inl (.int x1)), some (.inl (.int x2)), some (.inl (.int (x3 + (1 : Int32)))), some (.inl (.int r2)), none] [] m rfl ⟨trivial, trivial, trivial, trivial⟩ ?_
            refine zk_mask R [true, true, true, true, false, false] rfl ?_
            exact ih x1 x2 (x3 + (1 : Int32)) m
        · refine zk_st R 2 68 [some (.inr (13, 0)), some (.inl (.int x1)), some (.inl (.int x2)), some (.inl (.int (x3 + (1 : Int32)))), some (.inl (.int r2)), none] [] m rfl ⟨trivial, trivial, trivial⟩ ?_
          refine zk_mask R [true, true, true, true, false, false] rfl ?_
          exact ih x1 x2 (x3 + (1 : Int32)) m
theorem w_X12_looks_58 (d k : Nat) {o : zO} {G : Nat → Nat → zL → List zA → zM → Prop} (R : zRu (d + 2) tX12_looks 0 (z_hf []) o G) (c50 : Int32 → zM → Option (zM)) (hc50 : ∀ (x1 : Int32) (m : zM), zLK G (fun a => (.inl none, a) : zM → zO) o (c50 x1 m) some (k + 0) 50 [some (.inr (13, 0)), some (.inl (.int x1)), none, none, none, none] [] m) : ∀ (j : Nat) (x1 : Int32) (x2 : Int32) (m : zM), zLK G (fun a => (.inl none, a) : zM → zO) o (f_X12_looks_58 c50 j x1 x2 m) some (k + 0) 58 [some (.inr (13, 0)), some (.inl (.int x1)), some (.inl (.int x2)), none, none, none] [] m := by
  intro j
  induction j with
  | zero =>
    intro _ _ _
    exact zk_none
  | succ j ih =>
    intro x1 x2 m
    unfold f_X12_looks_58
    refine zk_st R 2 60 [some (.inr (13, 0)), some (.inl (.int x1)), some (.inl (.int x2)), none, none, none] [.inr (13, 0), .inl (.int x2)] m rfl ⟨trivial, trivial, trivial⟩ ?_
    refine zk_call R (fun b => some (.inl (.int b))) (fun _ => m) rfl (r_X12_cells (Nat.le_of_ble_eq_true rfl)) (fun b hb => w_X12_cells (d + 1) 0 m b hb) (fun r1 => ?_)
    refine zk_br R rfl (fun _ => ?_) (fun _ => ?_)
    · refine zk_st R 1 50 [some (.inr (13, 0)), some (.inl (.int x1)), some (.inl (.int x2)), none, none, none] [] m rfl ⟨trivial, trivial⟩ ?_
      refine zk_mask R [true, true, false, false, false, false] rfl ?_
      exact hc50 x1 m
    · refine zk_st R 2 68 [some (.inr (13, 0)), some (.inl (.int x1)), some (.inl (.int x2)), some (.inl (.int (0 : Int32))), none, none] [] m rfl ⟨trivial, trivial, trivial⟩ ?_
      refine zk_mask R [true, true, true, true, false, false] rfl ?_
      exact w_X12_looks_68 d k R c50 (f_X12_looks_58 c50 j) hc50 ih zF x1 x2 (0 : Int32) m
theorem w_X12_looks_50 (d k : Nat) {o : zO} {G : Nat → Nat → zL → List zA → zM → Prop} (R : zRu (d + 2) tX12_looks 0 (z_hf []) o G) : ∀ (j : Nat) (x1 : Int32) (m : zM), zLK G (fun a => (.inl none, a) : zM → zO) o (f_X12_looks_50 j x1 m) some (k + 0) 50 [some (.inr (13, 0)), some (.inl (.int x1)), none, none, none, none] [] m := by
  intro j
  induction j with
  | zero =>
    intro _ _
    exact zk_none
  | succ j ih =>
    intro x1 m
    unfold f_X12_looks_50
    refine zk_st R 1 51 [some (.inr (13, 0)), some (.inl (.int x1)), none, none, none, none] [.inl (.int x1)] m rfl ⟨trivial, trivial⟩ ?_
    refine zk_br R rfl (fun _ => ?_) (fun _ => ?_)
    · refine zk_st R 2 157 [some (.inr (13, 0)), some (.inl (.int x1)), some (.inl (.int (0 : Int32))), none, none, none] [] m rfl ⟨trivial, trivial, trivial⟩ ?_
      refine zk_mask R [true, false, true, false, false, false] rfl ?_
      exact w_X12_looks_157 d k R zF (0 : Int32) m
    · refine zk_st R 4 58 [some (.inr (13, 0)), some (.inl (.int (0 : Int32))), some (.inl (.int (0 : Int32))), none, none, none] [] m rfl ⟨trivial, trivial, trivial, trivial, trivial⟩ ?_
      refine zk_mask R [true, true, true, false, false, false] rfl ?_
      exact w_X12_looks_58 d k R (f_X12_looks_50 j) ih zF (0 : Int32) (0 : Int32) m
theorem w_X12_looks_41 (d k : Nat) {o : zO} {G : Nat → Nat → zL → List zA → zM → Prop} (R : zRu (d + 2) tX12_looks 0 (z_hf []) o G) (c6 : Int32 → zM → Option (zM)) (hc6 : ∀ (x1 : Int32) (m : zM), zLK G (fun a => (.inl none, a) : zM → zO) o (c6 x1 m) some (k + 0) 6 [some (.inr (13, 0)), some (.inl (.int x1)), none, none, none, none] [] m) (x1 : Int32) (s1 : Int32) (s2 : Int32) (m : zM) : zLK G (fun a => (.inl none, a) : zM → zO) o (f_X12_looks_41 c6 x1 s1 s2 m) some (k + 0) 41 [some (.inr (13, 0)), some (.inl (.int x1)), none, none, none, none] [.inl (.int s2), .inl (.int s1), .inr (20, 60)] m := by
  unfold f_X12_looks_41
  refine zk_gd fun e1 => ?_
  refine zk_st R 3 6 [some (.inr (13, 0)), some (.inl (.int (x1 + (1 : Int32)))), none, none, none, none] [] (z_sI m 20 60 (Int32.toNatClampNeg s1) s2) rfl ⟨⟨(Nat.le_of_ble_eq_true rfl), z_inb_in e1⟩, trivial, trivial, trivial⟩ ?_
  refine zk_mask R [true, true, false, false, false, false] rfl ?_
  exact hc6 (x1 + (1 : Int32)) (z_sI m 20 60 (Int32.toNatClampNeg s1) s2)
theorem w_X12_looks_6 (d k : Nat) {o : zO} {G : Nat → Nat → zL → List zA → zM → Prop} (R : zRu (d + 2) tX12_looks 0 (z_hf []) o G) : ∀ (j : Nat) (x1 : Int32) (m : zM), zLK G (fun a => (.inl none, a) : zM → zO) o (f_X12_looks_6 j x1 m) some (k + 0) 6 [some (.inr (13, 0)), some (.inl (.int x1)), none, none, none, none] [] m := by
  intro j
  induction j with
  | zero =>
    intro _ _
    exact zk_none
  | succ j ih =>
    intro x1 m
    unfold f_X12_looks_6
    refine zk_st R 2 8 [some (.inr (13, 0)), some (.inl (.int x1)), none, none, none, none] [.inr (13, 0), .inl (.int x1)] m rfl ⟨trivial, trivial, trivial⟩ ?_
    refine zk_call R (fun b => some (.inl (.int b))) (fun _ => m) rfl (r_X12_cells (Nat.le_of_ble_eq_true rfl)) (fun b hb => w_X12_cells (d + 1) 0 m b hb) (fun r1 => ?_)
    refine zk_br R rfl (fun _ => ?_) (fun _ => ?_)
    · refine zk_st R 2 50 [some (.inr (13, 0)), some (.inl (.int (1 : Int32))), none, none, none, none] [] m rfl ⟨trivial, trivial, trivial⟩ ?_
      refine zk_mask R [true, true, false, false, false, false] rfl ?_
      exact w_X12_looks_50 d k R zF (1 : Int32) m
    · refine zk_st R 5 21 [some (.inr (13, 0)), some (.inl (.int x1)), none, none, none, none] [.inl (.int x1), .inr (13, 0), .inl (.int x1), .inr (20, 60)] m rfl ⟨trivial, (Nat.le_of_ble_eq_true rfl), trivial, trivial, trivial, trivial⟩ ?_
      refine zk_call R (fun b => some (.inl (.int (z_bi b)))) (fun _ => m) rfl (r_X12_isOutlet (Nat.le_of_ble_eq_true rfl)) (fun b hb => w_X12_isOutlet (d + 1) 0 x1 m b hb) (fun r3 => ?_)
      refine zk_br R rfl (fun _ => ?_) (fun _ => ?_)
      · refine zk_st R 2 29 [some (.inr (13, 0)), some (.inl (.int x1)), none, none, none, none] [.inl (.int x1), .inr (13, 0), .inl (.int x1), .inr (20, 60)] m rfl ⟨trivial, trivial, trivial⟩ ?_
        refine zk_call R (fun b => some (.inl (.int (z_bi b)))) (fun _ => m) rfl (r_X12_isSloping (Nat.le_of_ble_eq_true rfl)) (fun b hb => w_X12_isSloping d 0 x1 m b hb) (fun r5 => ?_)
        refine zk_br R rfl (fun _ => ?_) (fun _ => ?_)
        · refine zk_st R 1 41 [some (.inr (13, 0)), some (.inl (.int x1)), none, none, none, none] [.inl (.int (1000000 : Int32)), .inl (.int x1), .inr (20, 60)] m rfl ⟨trivial, trivial⟩ ?_
          refine zk_mask R [true, true, false, false, false, false] rfl ?_
          exact w_X12_looks_41 d k R (f_X12_looks_6 j) ih x1 x1 (1000000 : Int32) m
        · refine zk_st R 2 41 [some (.inr (13, 0)), some (.inl (.int x1)), none, none, none, none] [.inl (.int (0 : Int32)), .inl (.int x1), .inr (20, 60)] m rfl ⟨trivial, trivial, trivial⟩ ?_
          refine zk_mask R [true, true, false, false, false, false] rfl ?_
          exact w_X12_looks_41 d k R (f_X12_looks_6 j) ih x1 x1 (0 : Int32) m
      · refine zk_st R 2 41 [some (.inr (13, 0)), some (.inl (.int x1)), none, none, none, none] [.inl (.int (0 : Int32)), .inl (.int x1), .inr (20, 60)] m rfl ⟨trivial, trivial, trivial⟩ ?_
        refine zk_mask R [true, true, false, false, false, false] rfl ?_
        exact w_X12_looks_41 d k R (f_X12_looks_6 j) ih x1 x1 (0 : Int32) m
theorem w_X12_looks (d k : Nat) (m : zM) (a : zM) (ha : f_X12_looks m = some a) : z_Ev z_MT zN zRf (d + 3) (k + 0) 181 [.inr (13, 0)] m ((fun a => (.inl none, a) : zM → zO) a) := by
  refine zk_top (I := (yX12_looks, cX12_looks, 6, none, [], tX12_looks, 13, 0, 13, 0, 0, 0)) (oc := (fun a => (.inl none, a) : zM → zO)) (a := a) rfl (Nat.le_of_ble_eq_true rfl) (fun G R => ?_) ha
  unfold f_X12_looks
  refine zk_st R 1 1 [some (.inr (13, 0)), none, none, none, none, none] [.inr (13, 0)] m rfl ⟨trivial, trivial⟩ ?_
  refine zk_call R (fun _ => none) id rfl (r_X12_levels (Nat.le_of_ble_eq_true rfl)) (fun b hb => w_X12_levels d 0 m b hb) (fun r1 => ?_)
  refine zk_st R 2 6 [some (.inr (13, 0)), some (.inl (.int (0 : Int32))), none, none, none, none] [] r1 rfl ⟨trivial, trivial, trivial⟩ ?_
  refine zk_mask R [true, true, false, false, false, false] rfl ?_
  exact w_X12_looks_6 d k R zF (0 : Int32) r1
theorem r_X12_mouth {i : Nat} {t : List zA} (h : i < zN 13) : z_rcv zN (zKD 183) (.inr (13, i) :: t) := by
  rw [show zKD 183 = 13 from rfl]
  exact ⟨rfl, h⟩
noncomputable def f_X12_mouth_2 (m : zM) : Nat → Int32 → Option (Int32)
  | 0, _ => none
  | j + 1, x2 =>
    z_gd (z_inb x2 (z_alen 20)) <| if (m.1 20 61 (Int32.toNatClampNeg x2)) < 0 then
      some x2
    else
      Option.bind (f_X12_onward x2 m) fun r3 =>
      f_X12_mouth_2 m j r3
noncomputable def f_X12_mouth (x1 : Int32) (m : zM) : Option (Int32) :=
  f_X12_mouth_2 m zF x1
theorem w_X12_mouth_2 (d k : Nat) {o : zO} {G : Nat → Nat → zL → List zA → zM → Prop} (m : zM) (R : zRu (d + 2) tX12_mouth 0 (z_hf []) o G) : ∀ (j : Nat) (x2 : Int32), zLK G (fun a => (z_cI a, m) : Int32 → zO) o (f_X12_mouth_2 m j x2) some (k + 0) 2 [some (.inr (13, 0)), none, some (.inl (.int x2))] [] m := by
  intro j
  induction j with
  | zero =>
    intro _
    exact zk_none
  | succ j ih =>
    intro x2
    unfold f_X12_mouth_2
    refine zk_gd fun e1 => ?_
    refine zk_st R 4 8 [some (.inr (13, 0)), none, some (.inl (.int x2))] [.inl (.int (m.1 20 61 (Int32.toNatClampNeg x2)))] m rfl ⟨trivial, (Nat.le_of_ble_eq_true rfl), trivial, ⟨(Nat.le_of_ble_eq_true rfl), z_inb_in e1⟩, trivial⟩ ?_
    refine zk_br R rfl (fun _ => ?_) (fun _ => ?_)
    · refine zk_st R 1 21 [some (.inr (13, 0)), none, some (.inl (.int x2))] [.inl (.int x2)] m rfl ⟨trivial, trivial⟩ ?_
      exact zk_ret R rfl trivial rfl
    · refine zk_st R 2 13 [some (.inr (13, 0)), none, some (.inl (.int x2))] [.inl (.int x2), .inr (13, 0)] m rfl ⟨trivial, trivial, trivial⟩ ?_
      refine zk_call R (fun b => some (.inl (.int b))) (fun _ => m) rfl (r_X12_onward (Nat.le_of_ble_eq_true rfl)) (fun b hb => w_X12_onward d 0 x2 m b hb) (fun r3 => ?_)
      refine zk_st R 2 2 [some (.inr (13, 0)), none, some (.inl (.int r3))] [] m rfl ⟨trivial, trivial, trivial⟩ ?_
      refine zk_mask R [true, false, true] rfl ?_
      exact ih r3
theorem w_X12_mouth (d k : Nat) (x1 : Int32) (m : zM) (a : Int32) (ha : f_X12_mouth x1 m = some a) : z_Ev z_MT zN zRf (d + 3) (k + 0) 183 [.inr (13, 0), .inl (.int x1)] m ((fun a => (z_cI a, m) : Int32 → zO) a) := by
  refine zk_top (I := (yX12_mouth, cX12_mouth, 3, (some .int), [], tX12_mouth, 13, 1, 13, 0, 0, 0)) (oc := (fun a => (z_cI a, m) : Int32 → zO)) (a := a) rfl (Nat.le_of_ble_eq_true rfl) (fun G R => ?_) ha
  unfold f_X12_mouth
  refine zk_st R 2 2 [some (.inr (13, 0)), some (.inl (.int x1)), some (.inl (.int x1))] [] m rfl ⟨trivial, trivial, trivial⟩ ?_
  refine zk_mask R [true, false, true] rfl ?_
  exact w_X12_mouth_2 d k m R zF x1
theorem r_X12_inflow {i : Nat} {t : List zA} (h : i < zN 13) : z_rcv zN (zKD 185) (.inr (13, i) :: t) := by
  rw [show zKD 185 = 13 from rfl]
  exact ⟨rfl, h⟩
noncomputable def f_X12_inflow_4 (m : zM) : Nat → Int32 → Int32 → Int32 → Option (Int32)
  | 0, _, _, _ => none
  | j + 1, x1, x2, x3 =>
    if (4 : Int32) ≤ x3 then
      some x2
    else
      Option.bind (f_X12_next x1 x3 m) fun r2 =>
      if r2 < 0 then
        f_X12_inflow_4 m j x1 x2 (x3 + (1 : Int32))
      else
        Option.bind (f_X12_onward r2 m) fun r4 =>
        if r4 = x1 then
          z_gd (z_inb r2 (z_alen 20)) <| Option.bind (f_X12_soaks r2 m) fun r7 =>
          f_X12_inflow_4 m j x1 (x2 + ((m.1 20 63 (Int32.toNatClampNeg r2)) - r7)) (x3 + (1 : Int32))
        else
          f_X12_inflow_4 m j x1 x2 (x3 + (1 : Int32))
noncomputable def f_X12_inflow (x1 : Int32) (m : zM) : Option (Int32) :=
  f_X12_inflow_4 m zF x1 (0 : Int32) (0 : Int32)
theorem w_X12_inflow_4 (d k : Nat) {o : zO} {G : Nat → Nat → zL → List zA → zM → Prop} (m : zM) (R : zRu (d + 2) tX12_inflow 0 (z_hf []) o G) : ∀ (j : Nat) (x1 : Int32) (x2 : Int32) (x3 : Int32), zLK G (fun a => (z_cI a, m) : Int32 → zO) o (f_X12_inflow_4 m j x1 x2 x3) some (k + 0) 4 [some (.inr (13, 0)), some (.inl (.int x1)), some (.inl (.int x2)), some (.inl (.int x3)), none] [] m := by
  intro j
  induction j with
  | zero =>
    intro _ _ _
    exact zk_none
  | succ j ih =>
    intro x1 x2 x3
    unfold f_X12_inflow_4
    refine zk_st R 2 6 [some (.inr (13, 0)), some (.inl (.int x1)), some (.inl (.int x2)), some (.inl (.int x3)), none] [.inl (.int (4 : Int32)), .inl (.int x3)] m rfl ⟨trivial, trivial, trivial⟩ ?_
    refine zk_br R rfl (fun _ => ?_) (fun _ => ?_)
    · refine zk_st R 1 56 [some (.inr (13, 0)), some (.inl (.int x1)), some (.inl (.int x2)), some (.inl (.int x3)), none] [.inl (.int x2)] m rfl ⟨trivial, trivial⟩ ?_
      exact zk_ret R rfl trivial rfl
    · refine zk_st R 3 12 [some (.inr (13, 0)), some (.inl (.int x1)), some (.inl (.int x2)), some (.inl (.int x3)), none] [.inl (.int x3), .inl (.int x1), .inr (13, 0)] m rfl ⟨trivial, trivial, trivial, trivial⟩ ?_
      refine zk_call R (fun b => some (.inl (.int b))) (fun _ => m) rfl (r_X12_next (Nat.le_of_ble_eq_true rfl)) (fun b hb => w_X12_next (d + 1) 0 x1 x3 m b hb) (fun r2 => ?_)
      refine zk_st R 2 19 [some (.inr (13, 0)), some (.inl (.int x1)), some (.inl (.int x2)), some (.inl (.int x3)), some (.inl (.int r2))] [.inl (.int r2)] m rfl ⟨trivial, trivial, trivial⟩ ?_
      refine zk_br R rfl (fun _ => ?_) (fun _ => ?_)
      · refine zk_st R 2 4 [some (.inr (13, 0)), some (.inl (.int x1)), some (.inl (.int x2)), some (.inl (.int (x3 + (1 : Int32)))), some (.inl (.int r2))] [] m rfl ⟨trivial, trivial, trivial⟩ ?_
        refine zk_mask R [true, true, true, true, false] rfl ?_
        exact ih x1 x2 (x3 + (1 : Int32))
      · refine zk_st R 2 25 [some (.inr (13, 0)), some (.inl (.int x1)), some (.inl (.int x2)), some (.inl (.int x3)), some (.inl (.int r2))] [.inl (.int r2), .inr (13, 0)] m rfl ⟨trivial, trivial, trivial⟩ ?_
        refine zk_call R (fun b => some (.inl (.int b))) (fun _ => m) rfl (r_X12_onward (Nat.le_of_ble_eq_true rfl)) (fun b hb => w_X12_onward d 0 r2 m b hb) (fun r4 => ?_)
        refine zk_st R 1 29 [some (.inr (13, 0)), some (.inl (.int x1)), some (.inl (.int x2)), some (.inl (.int x3)), some (.inl (.int r2))] [.inl (.int x1), .inl (.int r4)] m rfl ⟨trivial, trivial⟩ ?_
        refine zk_br R rfl (fun _ => ?_) (fun _ => ?_)
        · refine zk_gd fun e6 => ?_
          refine zk_st R 7 43 [some (.inr (13, 0)), some (.inl (.int x1)), some (.inl (.int x2)), some (.inl (.int x3)), some (.inl (.int r2))] [.inl (.int r2), .inr (13, 0), .inl (.int (m.1 20 63 (Int32.toNatClampNeg r2))), .inl (.int x2)] m rfl ⟨trivial, trivial, (Nat.le_of_ble_eq_true rfl), trivial, ⟨(Nat.le_of_ble_eq_true rfl), z_inb_in e6⟩, trivial, trivial, trivial⟩ ?_
          refine zk_call R (fun b => some (.inl (.int b))) (fun _ => m) rfl (r_X12_soaks (Nat.le_of_ble_eq_true rfl)) (fun b hb => w_X12_soaks d 0 r2 m b hb) (fun r7 => ?_)
          refine zk_st R 5 4 [some (.inr (13, 0)), some (.inl (.int x1)), some (.inl (.int (x2 + ((m.1 20 63 (Int32.toNatClampNeg r2)) - r7)))), some (.inl (.int (x3 + (1 : Int32)))), some (.inl (.int r2))] [] m rfl ⟨trivial, trivial, trivial, trivial, trivial, trivial⟩ ?_
          refine zk_mask R [true, true, true, true, false] rfl ?_
          exact ih x1 (x2 + ((m.1 20 63 (Int32.toNatClampNeg r2)) - r7)) (x3 + (1 : Int32))
        · refine zk_st R 2 4 [some (.inr (13, 0)), some (.inl (.int x1)), some (.inl (.int x2)), some (.inl (.int (x3 + (1 : Int32)))), some (.inl (.int r2))] [] m rfl ⟨trivial, trivial, trivial⟩ ?_
          refine zk_mask R [true, true, true, true, false] rfl ?_
          exact ih x1 x2 (x3 + (1 : Int32))
theorem w_X12_inflow (d k : Nat) (x1 : Int32) (m : zM) (a : Int32) (ha : f_X12_inflow x1 m = some a) : z_Ev z_MT zN zRf (d + 3) (k + 0) 185 [.inr (13, 0), .inl (.int x1)] m ((fun a => (z_cI a, m) : Int32 → zO) a) := by
  refine zk_top (I := (yX12_inflow, cX12_inflow, 5, (some .int), [], tX12_inflow, 13, 1, 13, 0, 0, 0)) (oc := (fun a => (z_cI a, m) : Int32 → zO)) (a := a) rfl (Nat.le_of_ble_eq_true rfl) (fun G R => ?_) ha
  unfold f_X12_inflow
  refine zk_st R 4 4 [some (.inr (13, 0)), some (.inl (.int x1)), some (.inl (.int (0 : Int32))), some (.inl (.int (0 : Int32))), none] [] m rfl ⟨trivial, trivial, trivial, trivial, trivial⟩ ?_
  refine zk_mask R [true, true, true, true, false] rfl ?_
  exact w_X12_inflow_4 d k m R zF x1 (0 : Int32) (0 : Int32)
theorem r_X12_feeders {i : Nat} {t : List zA} (h : i < zN 13) : z_rcv zN (zKD 188) (.inr (13, i) :: t) := by
  rw [show zKD 188 = 13 from rfl]
  exact ⟨rfl, h⟩
noncomputable def f_X12_feeders_4 (m : zM) : Nat → Int32 → Int32 → Int32 → Option (Int32)
  | 0, _, _, _ => none
  | j + 1, x1, x2, x3 =>
    if (4 : Int32) ≤ x3 then
      some x2
    else
      Option.bind (f_X12_next x1 x3 m) fun r2 =>
      if r2 < 0 then
        f_X12_feeders_4 m j x1 x2 (x3 + (1 : Int32))
      else
        Option.bind (f_X12_next x1 x3 m) fun r4 =>
        Option.bind (f_X12_isStream r4 m) fun r5 =>
        if (z_bi r5) = 0 then
          f_X12_feeders_4 m j x1 x2 (x3 + (1 : Int32))
        else
          Option.bind (f_X12_next x1 x3 m) fun r7 =>
          Option.bind (f_X12_onward r7 m) fun r8 =>
          if r8 = x1 then
            f_X12_feeders_4 m j x1 (x2 + (1 : Int32)) (x3 + (1 : Int32))
          else
            f_X12_feeders_4 m j x1 x2 (x3 + (1 : Int32))
noncomputable def f_X12_feeders (x1 : Int32) (m : zM) : Option (Int32) :=
  f_X12_feeders_4 m zF x1 (0 : Int32) (0 : Int32)
theorem w_X12_feeders_4 (d k : Nat) {o : zO} {G : Nat → Nat → zL → List zA → zM → Prop} (m : zM) (R : zRu (d + 2) tX12_feeders 0 (z_hf []) o G) : ∀ (j : Nat) (x1 : Int32) (x2 : Int32) (x3 : Int32), zLK G (fun a => (z_cI a, m) : Int32 → zO) o (f_X12_feeders_4 m j x1 x2 x3) some (k + 0) 4 [some (.inr (13, 0)), some (.inl (.int x1)), some (.inl (.int x2)), some (.inl (.int x3))] [] m := by
  intro j
  induction j with
  | zero =>
    intro _ _ _
    exact zk_none
  | succ j ih =>
    intro x1 x2 x3
    unfold f_X12_feeders_4
    refine zk_st R 2 6 [some (.inr (13, 0)), some (.inl (.int x1)), some (.inl (.int x2)), some (.inl (.int x3))] [.inl (.int (4 : Int32)), .inl (.int x3)] m rfl ⟨trivial, trivial, trivial⟩ ?_
    refine zk_br R rfl (fun _ => ?_) (fun _ => ?_)
    · refine zk_st R 1 55 [some (.inr (13, 0)), some (.inl (.int x1)), some (.inl (.int x2)), some (.inl (.int x3))] [.inl (.int x2)] m rfl ⟨trivial, trivial⟩ ?_
      exact zk_ret R rfl trivial rfl
    · refine zk_st R 3 12 [some (.inr (13, 0)), some (.inl (.int x1)), some (.inl (.int x2)), some (.inl (.int x3))] [.inl (.int x3), .inl (.int x1), .inr (13, 0)] m rfl ⟨trivial, trivial, trivial, trivial⟩ ?_
      refine zk_call R (fun b => some (.inl (.int b))) (fun _ => m) rfl (r_X12_next (Nat.le_of_ble_eq_true rfl)) (fun b hb => w_X12_next (d + 1) 0 x1 x3 m b hb) (fun r2 => ?_)
      refine zk_br R rfl (fun _ => ?_) (fun _ => ?_)
      · refine zk_st R 2 4 [some (.inr (13, 0)), some (.inl (.int x1)), some (.inl (.int x2)), some (.inl (.int (x3 + (1 : Int32))))] [] m rfl ⟨trivial, trivial, trivial⟩ ?_
        refine zk_mask R [true, true, true, true] rfl ?_
        exact ih x1 x2 (x3 + (1 : Int32))
      · refine zk_st R 4 22 [some (.inr (13, 0)), some (.inl (.int x1)), some (.inl (.int x2)), some (.inl (.int x3))] [.inl (.int x3), .inl (.int x1), .inr (13, 0), .inr (13, 0)] m rfl ⟨trivial, trivial, trivial, trivial, trivial⟩ ?_
        refine zk_call R (fun b => some (.inl (.int b))) (fun _ => m) rfl (r_X12_next (Nat.le_of_ble_eq_true rfl)) (fun b hb => w_X12_next (d + 1) 0 x1 x3 m b hb) (fun r4 => ?_)
        refine zk_call R (fun b => some (.inl (.int (z_bi b)))) (fun _ => m) rfl (r_X12_isStream (Nat.le_of_ble_eq_true rfl)) (fun b hb => w_X12_isStream (d + 1) 0 r4 m b hb) (fun r5 => ?_)
        refine zk_br R rfl (fun _ => ?_) (fun _ => ?_)
        · refine zk_st R 2 4 [some (.inr (13, 0)), some (.inl (.int x1)), some (.inl (.int x2)), some (.inl (.int (x3 + (1 : Int32))))] [] m rfl ⟨trivial, trivial, trivial⟩ ?_
          refine zk_mask R [true, true, true, true] rfl ?_
          exact ih x1 x2 (x3 + (1 : Int32))
        · refine zk_st R 4 35 [some (.inr (13, 0)), some (.inl (.int x1)), some (.inl (.int x2)), some (.inl (.int x3))] [.inl (.int x3), .inl (.int x1), .inr (13, 0), .inr (13, 0)] m rfl ⟨trivial, trivial, trivial, trivial, trivial⟩ ?_
          refine zk_call R (fun b => some (.inl (.int b))) (fun _ => m) rfl (r_X12_next (Nat.le_of_ble_eq_true rfl)) (fun b hb => w_X12_next (d + 1) 0 x1 x3 m b hb) (fun r7 => ?_)
          refine zk_call R (fun b => some (.inl (.int b))) (fun _ => m) rfl (r_X12_onward (Nat.le_of_ble_eq_true rfl)) (fun b hb => w_X12_onward d 0 r7 m b hb) (fun r8 => ?_)
          refine zk_st R 1 42 [some (.inr (13, 0)), some (.inl (.int x1)), some (.inl (.int x2)), some (.inl (.int x3))] [.inl (.int x1), .inl (.int r8)] m rfl ⟨trivial, trivial⟩ ?_
          refine zk_br R rfl (fun _ => ?_) (fun _ => ?_)
          · refine zk_st R 3 4 [some (.inr (13, 0)), some (.inl (.int x1)), some (.inl (.int (x2 + (1 : Int32)))), some (.inl (.int (x3 + (1 : Int32))))] [] m rfl ⟨trivial, trivial, trivial, trivial⟩ ?_
            refine zk_mask R [true, true, true, true] rfl ?_
            exact ih x1 (x2 + (1 : Int32)) (x3 + (1 : Int32))
          · refine zk_st R 2 4 [some (.inr (13, 0)), some (.inl (.int x1)), some (.inl (.int x2)), some (.inl (.int (x3 + (1 : Int32))))] [] m rfl ⟨trivial, trivial, trivial⟩ ?_
            refine zk_mask R [true, true, true, true] rfl ?_
            exact ih x1 x2 (x3 + (1 : Int32))
theorem w_X12_feeders (d k : Nat) (x1 : Int32) (m : zM) (a : Int32) (ha : f_X12_feeders x1 m = some a) : z_Ev z_MT zN zRf (d + 3) (k + 0) 188 [.inr (13, 0), .inl (.int x1)] m ((fun a => (z_cI a, m) : Int32 → zO) a) := by
  refine zk_top (I := (yX12_feeders, cX12_feeders, 4, (some .int), [], tX12_feeders, 13, 1, 13, 0, 0, 0)) (oc := (fun a => (z_cI a, m) : Int32 → zO)) (a := a) rfl (Nat.le_of_ble_eq_true rfl) (fun G R => ?_) ha
  unfold f_X12_feeders
  refine zk_st R 4 4 [some (.inr (13, 0)), some (.inl (.int x1)), some (.inl (.int (0 : Int32))), some (.inl (.int (0 : Int32)))] [] m rfl ⟨trivial, trivial, trivial, trivial, trivial⟩ ?_
  refine zk_mask R [true, true, true, true] rfl ?_
  exact w_X12_feeders_4 d k m R zF x1 (0 : Int32) (0 : Int32)
theorem r_X12_orderBy {i : Nat} {t : List zA} (h : i < zN 13) : z_rcv zN (zKD 190) (.inr (13, i) :: t) := by
  rw [show zKD 190 = 13 from rfl]
  exact ⟨rfl, h⟩
noncomputable def f_X12_orderBy_76 (m : zM) (c7 : Int32 → Int32 → Int32 → Int32 → Option (Int32)) (x1 : Int32) (x2 : Int32) (x3 : Int32) (x4 : Int32) (x5 : Int32) : Option (Int32) :=
  z_gd (z_inb x5 (z_alen 20)) <| Option.bind (f_J9_max_7cf53 x2 (m.1 20 64 (Int32.toNatClampNeg x5)) m) fun r2 =>
  c7 x1 r2 x3 (x4 + (1 : Int32))
noncomputable def f_X12_orderBy_63 (m : zM) (c7 : Int32 → Int32 → Int32 → Int32 → Option (Int32)) (x1 : Int32) (x2 : Int32) (x3 : Int32) (x4 : Int32) (x5 : Int32) : Option (Int32) :=
  z_gd (z_inb x5 (z_alen 20)) <| if (m.1 20 64 (Int32.toNatClampNeg x5)) ≤ x2 then
    f_X12_orderBy_76 m c7 x1 x2 x3 x4 x5
  else
    f_X12_orderBy_76 m c7 x1 x2 (1 : Int32) x4 x5
noncomputable def f_X12_orderBy_7 (m : zM) : Nat → Int32 → Int32 → Int32 → Int32 → Option (Int32)
  | 0, _, _, _, _ => none
  | j + 1, x1, x2, x3, x4 =>
    if (4 : Int32) ≤ x4 then
      if x2 = 0 then
        some (1 : Int32)
      else
        if x3 ≤ (1 : Int32) then
          some (x2 + (0 : Int32))
        else
          some (x2 + (1 : Int32))
    else
      Option.bind (f_X12_next x1 x4 m) fun r4 =>
      if r4 < 0 then
        f_X12_orderBy_7 m j x1 x2 x3 (x4 + (1 : Int32))
      else
        Option.bind (f_X12_isStream r4 m) fun r6 =>
        if (z_bi r6) = 0 then
          f_X12_orderBy_7 m j x1 x2 x3 (x4 + (1 : Int32))
        else
          Option.bind (f_X12_onward r4 m) fun r8 =>
          if r8 = x1 then
            z_gd (z_inb r4 (z_alen 20)) <| if (m.1 20 64 (Int32.toNatClampNeg r4)) = x2 then
              f_X12_orderBy_63 m (f_X12_orderBy_7 m j) x1 x2 (x3 + (1 : Int32)) x4 r4
            else
              f_X12_orderBy_63 m (f_X12_orderBy_7 m j) x1 x2 x3 x4 r4
          else
            f_X12_orderBy_7 m j x1 x2 x3 (x4 + (1 : Int32))
noncomputable def f_X12_orderBy (x1 : Int32) (m : zM) : Option (Int32) :=
  f_X12_orderBy_7 m zF x1 (0 : Int32) (0 : Int32) (0 : Int32)
theorem w_X12_orderBy_76 (d k : Nat) {o : zO} {G : Nat → Nat → zL → List zA → zM → Prop} (m : zM) (R : zRu (d + 2) tX12_orderBy 0 (z_hf []) o G) (c7 : Int32 → Int32 → Int32 → Int32 → Option (Int32)) (hc7 : ∀ (x1 : Int32) (x2 : Int32) (x3 : Int32) (x4 : Int32), zLK G (fun a => (z_cI a, m) : Int32 → zO) o (c7 x1 x2 x3 x4) some (k + 0) 7 [some (.inr (13, 0)), some (.inl (.int x1)), some (.inl (.int x2)), some (.inl (.int x3)), some (.inl (.int x4)), none] [] m) (x1 : Int32) (x2 : Int32) (x3 : Int32) (x4 : Int32) (x5 : Int32) : zLK G (fun a => (z_cI a, m) : Int32 → zO) o (f_X12_orderBy_76 m c7 x1 x2 x3 x4 x5) some (k + 0) 76 [some (.inr (13, 0)), some (.inl (.int x1)), some (.inl (.int x2)), some (.inl (.int x3)), some (.inl (.int x4)), some (.inl (.int x5))] [] m := by
  unfold f_X12_orderBy_76
  refine zk_gd fun e1 => ?_
  refine zk_st R 5 84 [some (.inr (13, 0)), some (.inl (.int x1)), some (.inl (.int x2)), some (.inl (.int x3)), some (.inl (.int x4)), some (.inl (.int x5))] [.inl (.int (m.1 20 64 (Int32.toNatClampNeg x5))), .inl (.int x2)] m rfl ⟨trivial, trivial, (Nat.le_of_ble_eq_true rfl), trivial, ⟨(Nat.le_of_ble_eq_true rfl), z_inb_in e1⟩, trivial⟩ ?_
  refine zk_call R (fun b => some (.inl (.int b))) (fun _ => m) rfl (r_J9_max_7cf53) (fun b hb => w_J9_max_7cf53 (d + 1) 0 x2 (m.1 20 64 (Int32.toNatClampNeg x5)) m b hb) (fun r2 => ?_)
  refine zk_st R 3 7 [some (.inr (13, 0)), some (.inl (.int x1)), some (.inl (.int r2)), some (.inl (.int x3)), some (.inl (.int (x4 + (1 : Int32)))), some (.inl (.int x5))] [] m rfl ⟨trivial, trivial, trivial, trivial⟩ ?_
  refine zk_mask R [true, true, true, true, true, false] rfl ?_
  exact hc7 x1 r2 x3 (x4 + (1 : Int32))
theorem w_X12_orderBy_63 (d k : Nat) {o : zO} {G : Nat → Nat → zL → List zA → zM → Prop} (m : zM) (R : zRu (d + 2) tX12_orderBy 0 (z_hf []) o G) (c7 : Int32 → Int32 → Int32 → Int32 → Option (Int32)) (hc7 : ∀ (x1 : Int32) (x2 : Int32) (x3 : Int32) (x4 : Int32), zLK G (fun a => (z_cI a, m) : Int32 → zO) o (c7 x1 x2 x3 x4) some (k + 0) 7 [some (.inr (13, 0)), some (.inl (.int x1)), some (.inl (.int x2)), some (.inl (.int x3)), some (.inl (.int x4)), none] [] m) (x1 : Int32) (x2 : Int32) (x3 : Int32) (x4 : Int32) (x5 : Int32) : zLK G (fun a => (z_cI a, m) : Int32 → zO) o (f_X12_orderBy_63 m c7 x1 x2 x3 x4 x5) some (k + 0) 63 [some (.inr (13, 0)), some (.inl (.int x1)), some (.inl (.int x2)), some (.inl (.int x3)), some (.inl (.int x4)), some (.inl (.int x5))] [] m := by
  unfold f_X12_orderBy_63
  refine zk_gd fun e1 => ?_
  refine zk_st R 5 71 [some (.inr (13, 0)), some (.inl (.int x1)), some (.inl (.int x2)), some (.inl (.int x3)), some (.inl (.int x4)), some (.inl (.int x5))] [.inl (.int x2), .inl (.int (m.1 20 64 (Int32.toNatClampNeg x5)))] m rfl ⟨trivial, (Nat.le_of_ble_eq_true rfl), trivial, ⟨(Nat.le_of_ble_eq_true rfl), z_inb_in e1⟩, trivial, trivial⟩ ?_
  refine zk_br R rfl (fun _ => ?_) (fun _ => ?_)
  · refine zk_mask R [true, true, true, true, true, true] rfl ?_
    exact w_X12_orderBy_76 d k m R c7 hc7 x1 x2 x3 x4 x5
  · refine zk_st R 2 76 [some (.inr (13, 0)), some (.inl (.int x1)), some (.inl (.int x2)), some (.inl (.int (1 : Int32))), some (.inl (.int x4)), some (.inl (.int x5))] [] m rfl ⟨trivial, trivial, trivial⟩ ?_
    refine zk_mask R [true, true, true, true, true, true] rfl ?_
    exact w_X12_orderBy_76 d k m R c7 hc7 x1 x2 (1 : Int32) x4 x5
theorem w_X12_orderBy_7 (d k : Nat) {o : zO} {G : Nat → Nat → zL → List zA → zM → Prop} (m : zM) (R : zRu (d + 2) tX12_orderBy 0 (z_hf []) o G) : ∀ (j : Nat) (x1 : Int32) (x2 : Int32) (x3 : Int32) (x4 : Int32), zLK G (fun a => (z_cI a, m) : Int32 → zO) o (f_X12_orderBy_7 m j x1 x2 x3 x4) some (k + 0) 7 [some (.inr (13, 0)), some (.inl (.int x1)), some (.inl (.int x2)), some (.inl (.int x3)), some (.inl (.int x4)), none] [] m := by
  intro j
  induction j with
  | zero =>
    intro _ _ _ _
    exact zk_none
  | succ j ih =>
    intro x1 x2 x3 x4
    unfold f_X12_orderBy_7
    refine zk_st R 2 10 [some (.inr (13, 0)), some (.inl (.int x1)), some (.inl (.int x2)), some (.inl (.int x3)), some (.inl (.int x4)), none] [.inl (.int (4 : Int32)), .inl (.int x4)] m rfl ⟨trivial, trivial, trivial⟩ ?_
    refine zk_br R rfl (fun _ => ?_) (fun _ => ?_)
    · refine zk_st R 1 95 [some (.inr (13, 0)), some (.inl (.int x1)), some (.inl (.int x2)), some (.inl (.int x3)), some (.inl (.int x4)), none] [.inl (.int x2)] m rfl ⟨trivial, trivial⟩ ?_
      refine zk_br R rfl (fun _ => ?_) (fun _ => ?_)
      · refine zk_st R 2 114 [some (.inr (13, 0)), some (.inl (.int x1)), some (.inl (.int x2)), some (.inl (.int x3)), some (.inl (.int x4)), none] [.inl (.int (1 : Int32))] m rfl ⟨trivial, trivial, trivial⟩ ?_
        exact zk_ret R rfl trivial rfl
      · refine zk_st R 3 105 [some (.inr (13, 0)), some (.inl (.int x1)), some (.inl (.int x2)), some (.inl (.int x3)), some (.inl (.int x4)), none] [.inl (.int (1 : Int32)), .inl (.int x3), .inl (.int x2)] m rfl ⟨trivial, trivial, trivial, trivial⟩ ?_
        refine zk_br R rfl (fun _ => ?_) (fun _ => ?_)
        · refine zk_st R 2 114 [some (.inr (13, 0)), some (.inl (.int x1)), some (.inl (.int x2)), some (.inl (.int x3)), some (.inl (.int x4)), none] [.inl (.int (x2 + (0 : Int32)))] m rfl ⟨trivial, trivial, trivial⟩ ?_
          exact zk_ret R rfl trivial rfl
        · refine zk_st R 3 114 [some (.inr (13, 0)), some (.inl (.int x1)), some (.inl (.int x2)), some (.inl (.int x3)), some (.inl (.int x4)), none] [.inl (.int (x2 + (1 : Int32)))] m rfl ⟨trivial, trivial, trivial, trivial⟩ ?_
          exact zk_ret R rfl trivial rfl
    · refine zk_st R 3 17 [some (.inr (13, 0)), some (.inl (.int x1)), some (.inl (.int x2)), some (.inl (.int x3)), some (.inl (.int x4)), none] [.inl (.int x4), .inl (.int x1), .inr (13, 0)] m rfl ⟨trivial, trivial, trivial, trivial⟩ ?_
      refine zk_call R (fun b => some (.inl (.int b))) (fun _ => m) rfl (r_X12_next (Nat.le_of_ble_eq_true rfl)) (fun b hb => w_X12_next (d + 1) 0 x1 x4 m b hb) (fun r4 => ?_)
      refine zk_st R 2 24 [some (.inr (13, 0)), some (.inl (.int x1)), some (.inl (.int x2)), some (.inl (.int x3)), some (.inl (.int x4)), some (.inl (.int r4))] [.inl (.int r4)] m rfl ⟨trivial, trivial, trivial⟩ ?_
      refine zk_br R rfl (fun _ => ?_) (fun _ => ?_)
      · refine zk_st R 2 7 [some (.inr (13, 0)), some (.inl (.int x1)), some (.inl (.int x2)), some (.inl (.int x3)), some (.inl (.int (x4 + (1 : Int32)))), some (.inl (.int r4))] [] m rfl ⟨trivial, trivial, trivial⟩ ?_
        refine zk_mask R [true, true, true, true, true, false] rfl ?_
        exact ih x1 x2 x3 (x4 + (1 : Int32))
      · refine zk_st R 2 30 [some (.inr (13, 0)), some (.inl (.int x1)), some (.inl (.int x2)), some (.inl (.int x3)), some (.inl (.int x4)), some (.inl (.int r4))] [.inl (.int r4), .inr (13, 0)] m rfl ⟨trivial, trivial, trivial⟩ ?_
        refine zk_call R (fun b => some (.inl (.int (z_bi b)))) (fun _ => m) rfl (r_X12_isStream (Nat.le_of_ble_eq_true rfl)) (fun b hb => w_X12_isStream (d + 1) 0 r4 m b hb) (fun r6 => ?_)
        refine zk_br R rfl (fun _ => ?_) (fun _ => ?_)
        · refine zk_st R 2 7 [some (.inr (13, 0)), some (.inl (.int x1)), some (.inl (.int x2)), some (.inl (.int x3)), some (.inl (.int (x4 + (1 : Int32)))), some (.inl (.int r4))] [] m rfl ⟨trivial, trivial, trivial⟩ ?_
          refine zk_mask R [true, true, true, true, true, false] rfl ?_
          exact ih x1 x2 x3 (x4 + (1 : Int32))
        · refine zk_st R 2 39 [some (.inr (13, 0)), some (.inl (.int x1)), some (.inl (.int x2)), some (.inl (.int x3)), some (.inl (.int x4)), some (.inl (.int r4))] [.inl (.int r4), .inr (13, 0)] m rfl ⟨trivial, trivial, trivial⟩ ?_
          refine zk_call R (fun b => some (.inl (.int b))) (fun _ => m) rfl (r_X12_onward (Nat.le_of_ble_eq_true rfl)) (fun b hb => w_X12_onward d 0 r4 m b hb) (fun r8 => ?_)
          refine zk_st R 1 43 [some (.inr (13, 0)), some (.inl (.int x1)), some (.inl (.int x2)), some (.inl (.int x3)), some (.inl (.int x4)), some (.inl (.int r4))] [.inl (.int x1), .inl (.int r8)] m rfl ⟨trivial, trivial⟩ ?_
          refine zk_br R rfl (fun _ => ?_) (fun _ => ?_)
          · refine zk_gd fun e10 => ?_
            refine zk_st R 5 57 [some (.inr (13, 0)), some (.inl (.int x1)), some (.inl (.int x2)), some (.inl (.int x3)), some (.inl (.int x4)), some (.inl (.int r4))] [.inl (.int x2), .inl (.int (m.1 20 64 (Int32.toNatClampNeg r4)))] m rfl ⟨trivial, (Nat.le_of_ble_eq_true rfl), trivial, ⟨(Nat.le_of_ble_eq_true rfl), z_inb_in e10⟩, trivial, trivial⟩ ?_
            refine zk_br R rfl (fun _ => ?_) (fun _ => ?_)
            · refine zk_st R 1 63 [some (.inr (13, 0)), some (.inl (.int x1)), some (.inl (.int x2)), some (.inl (.int (x3 + (1 : Int32)))), some (.inl (.int x4)), some (.inl (.int r4))] [] m rfl ⟨trivial, trivial⟩ ?_
              refine zk_mask R [true, true, true, true, true, true] rfl ?_
              exact w_X12_orderBy_63 d k m R (f_X12_orderBy_7 m j) ih x1 x2 (x3 + (1 : Int32)) x4 r4
            · refine zk_mask R [true, true, true, true, true, true] rfl ?_
              exact w_X12_orderBy_63 d k m R (f_X12_orderBy_7 m j) ih x1 x2 x3 x4 r4
          · refine zk_st R 3 7 [some (.inr (13, 0)), some (.inl (.int x1)), some (.inl (.int x2)), some (.inl (.int x3)), some (.inl (.int (x4 + (1 : Int32)))), some (.inl (.int r4))] [] m rfl ⟨trivial, trivial, trivial, trivial⟩ ?_
            refine zk_mask R [true, true, true, true, true, false] rfl ?_
            exact ih x1 x2 x3 (x4 + (1 : Int32))
theorem w_X12_orderBy (d k : Nat) (x1 : Int32) (m : zM) (a : Int32) (ha : f_X12_orderBy x1 m = some a) : z_Ev z_MT zN zRf (d + 3) (k + 0) 190 [.inr (13, 0), .inl (.int x1)] m ((fun a => (z_cI a, m) : Int32 → zO) a) := by
  refine zk_top (I := (yX12_orderBy, cX12_orderBy, 6, (some .int), [], tX12_orderBy, 13, 1, 13, 0, 0, 0)) (oc := (fun a => (z_cI a, m) : Int32 → zO)) (a := a) rfl (Nat.le_of_ble_eq_true rfl) (fun G R => ?_) ha
  unfold f_X12_orderBy
  refine zk_st R 6 7 [some (.inr (13, 0)), some (.inl (.int x1)), some (.inl (.int (0 : Int32))), some (.inl (.int (0 : Int32))), some (.inl (.int (0 : Int32))), none] [] m rfl ⟨trivial, trivial, trivial, trivial, trivial, trivial, trivial⟩ ?_
  refine zk_mask R [true, true, true, true, true, false] rfl ?_
  exact w_X12_orderBy_7 d k m R zF x1 (0 : Int32) (0 : Int32) (0 : Int32)
theorem r_X12_stepsOf {i : Nat} {t : List zA} (h : i < zN 13) : z_rcv zN (zKD 192) (.inr (13, i) :: t) := by
  rw [show zKD 192 = 13 from rfl]
  exact ⟨rfl, h⟩
noncomputable def f_X12_stepsOf_4 (m : zM) : Nat → Int32 → Int32 → Option (Int32)
  | 0, _, _ => none
  | j + 1, x2, x3 =>
    z_gd (z_inb x3 (z_alen 20)) <| if (m.1 20 61 (Int32.toNatClampNeg x3)) < 0 then
      some x2
    else
      Option.bind (f_X12_onward x3 m) fun r3 =>
      f_X12_stepsOf_4 m j (x2 + (1 : Int32)) r3
noncomputable def f_X12_stepsOf (x1 : Int32) (m : zM) : Option (Int32) :=
  f_X12_stepsOf_4 m zF (0 : Int32) x1
theorem w_X12_stepsOf_4 (d k : Nat) {o : zO} {G : Nat → Nat → zL → List zA → zM → Prop} (m : zM) (R : zRu (d + 2) tX12_stepsOf 0 (z_hf []) o G) : ∀ (j : Nat) (x2 : Int32) (x3 : Int32), zLK G (fun a => (z_cI a, m) : Int32 → zO) o (f_X12_stepsOf_4 m j x2 x3) some (k + 0) 4 [some (.inr (13, 0)), none, some (.inl (.int x2)), some (.inl (.int x3))] [] m := by
  intro j
  induction j with
  | zero =>
    intro _ _
    exact zk_none
  | succ j ih =>
    intro x2 x3
    unfold f_X12_stepsOf_4
    refine zk_gd fun e1 => ?_
    refine zk_st R 4 10 [some (.inr (13, 0)), none, some (.inl (.int x2)), some (.inl (.int x3))] [.inl (.int (m.1 20 61 (Int32.toNatClampNeg x3)))] m rfl ⟨trivial, (Nat.le_of_ble_eq_true rfl), trivial, ⟨(Nat.le_of_ble_eq_true rfl), z_inb_in e1⟩, trivial⟩ ?_
    refine zk_br R rfl (fun _ => ?_) (fun _ => ?_)
    · refine zk_st R 1 26 [some (.inr (13, 0)), none, some (.inl (.int x2)), some (.inl (.int x3))] [.inl (.int x2)] m rfl ⟨trivial, trivial⟩ ?_
      exact zk_ret R rfl trivial rfl
    · refine zk_st R 3 18 [some (.inr (13, 0)), none, some (.inl (.int (x2 + (1 : Int32)))), some (.inl (.int x3))] [.inl (.int x3), .inr (13, 0)] m rfl ⟨trivial, trivial, trivial, trivial⟩ ?_
      refine zk_call R (fun b => some (.inl (.int b))) (fun _ => m) rfl (r_X12_onward (Nat.le_of_ble_eq_true rfl)) (fun b hb => w_X12_onward d 0 x3 m b hb) (fun r3 => ?_)
      refine zk_st R 2 4 [some (.inr (13, 0)), none, some (.inl (.int (x2 + (1 : Int32)))), some (.inl (.int r3))] [] m rfl ⟨trivial, trivial, trivial⟩ ?_
      refine zk_mask R [true, false, true, true] rfl ?_
      exact ih (x2 + (1 : Int32)) r3
theorem w_X12_stepsOf (d k : Nat) (x1 : Int32) (m : zM) (a : Int32) (ha : f_X12_stepsOf x1 m = some a) : z_Ev z_MT zN zRf (d + 3) (k + 0) 192 [.inr (13, 0), .inl (.int x1)] m ((fun a => (z_cI a, m) : Int32 → zO) a) := by
  refine zk_top (I := (yX12_stepsOf, cX12_stepsOf, 4, (some .int), [], tX12_stepsOf, 13, 1, 13, 0, 0, 0)) (oc := (fun a => (z_cI a, m) : Int32 → zO)) (a := a) rfl (Nat.le_of_ble_eq_true rfl) (fun G R => ?_) ha
  unfold f_X12_stepsOf
  refine zk_st R 4 4 [some (.inr (13, 0)), some (.inl (.int x1)), some (.inl (.int (0 : Int32))), some (.inl (.int x1))] [] m rfl ⟨trivial, trivial, trivial, trivial, trivial⟩ ?_
  refine zk_mask R [true, false, true, true] rfl ?_
  exact w_X12_stepsOf_4 d k m R zF (0 : Int32) x1
