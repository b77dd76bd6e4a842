theorem r_L_undo {as : List zA} : z_rcv zN (zKD 302) as := by
  rw [show zKD 302 = 0 from rfl]
  trivial
noncomputable def f_L_undo (m : zM) : Option (Int32 × zM) :=
  z_bh (f_X11_undo m) (fun r1 m2 =>
  z_gd (z_inb (0 : Int32) (z_alen 32)) <| some ((0 : Int32), (z_sL m2 32 0 (Int32.toNatClampNeg (0 : Int32)) (Int32.toInt64 r1)))) (z_hf [(0, 8, 11, 37, 2, 1)] 3) id
theorem w_L_undo (d k : Nat) (m : zM) (a : Int32 × zM) (ha : f_L_undo m = some a) : z_Ev z_MT zN zRf (d + 5) (k + 1) 302 [.inr (12, 0), .inr (32, 0)] m ((fun a => (z_cI a.1, a.2) : Int32 × zM → zO) a) := by
  refine zk_top (I := (yL_undo, cL_undo, 3, (some .int), [(0, 8, 11, 37, 2, 1)], tL_undo, 0, 2, 0, 0, 0, 0)) (oc := (fun a => (z_cI a.1, a.2) : Int32 × zM → zO)) (a := a) rfl (Nat.le_of_ble_eq_true rfl) (fun G R => ?_) ha
  unfold f_L_undo
  refine zk_st R 3 3 [some (.inr (12, 0)), some (.inr (32, 0)), none] [.inr (12, 0), .inl (.int (0 : Int32)), .inr (32, 0)] m rfl ⟨trivial, trivial, trivial, trivial⟩ ?_
  refine zk_callh (cr := id) R (k + 0) 1 (fun r1 => some (.inl (.int r1))) rfl (r_X11_undo (Nat.le_of_ble_eq_true rfl)) (fun b m' hb => w_X11_undo d 0 m _ hb) (fun e m' hb => w_X11_undo d 0 m _ hb) (fun _ _ => rfl) (fun r1 m2 => ?_)
  refine zk_gd fun e3 => ?_
  refine zk_st R 4 15 [some (.inr (12, 0)), some (.inr (32, 0)), none] [.inl (.int (0 : Int32))] (z_sL m2 32 0 (Int32.toNatClampNeg (0 : Int32)) (Int32.toInt64 r1)) rfl ⟨trivial, ⟨(Nat.le_of_ble_eq_true rfl), z_inb_in e3⟩, trivial, trivial, trivial⟩ ?_
  exact zk_ret R rfl trivial rfl
theorem r_L_restore {as : List zA} : z_rcv zN (zKD 303) as := by
  rw [show zKD 303 = 0 from rfl]
  trivial
noncomputable def f_L_restore (m : zM) : Option (Int32 × zM) :=
  z_bh (f_X11_restore m) (fun r1 m2 =>
  z_gd (z_inb (0 : Int32) (z_alen 32)) <| some ((0 : Int32), (z_sL m2 32 0 (Int32.toNatClampNeg (0 : Int32)) (Int32.toInt64 r1)))) (z_hf [(0, 8, 11, 37, 2, 1)] 3) id
theorem w_L_restore (d k : Nat) (m : zM) (a : Int32 × zM) (ha : f_L_restore m = some a) : z_Ev z_MT zN zRf (d + 5) (k + 1) 303 [.inr (12, 0), .inr (32, 0)] m ((fun a => (z_cI a.1, a.2) : Int32 × zM → zO) a) := by
  refine zk_top (I := (yL_restore, cL_restore, 3, (some .int), [(0, 8, 11, 37, 2, 1)], tL_restore, 0, 2, 0, 0, 0, 0)) (oc := (fun a => (z_cI a.1, a.2) : Int32 × zM → zO)) (a := a) rfl (Nat.le_of_ble_eq_true rfl) (fun G R => ?_) ha
  unfold f_L_restore
  refine zk_st R 3 3 [some (.inr (12, 0)), some (.inr (32, 0)), none] [.inr (12, 0), .inl (.int (0 : Int32)), .inr (32, 0)] m rfl ⟨trivial, trivial, trivial, trivial⟩ ?_
  refine zk_callh (cr := id) R (k + 0) 1 (fun r1 => some (.inl (.int r1))) rfl (r_X11_restore (Nat.le_of_ble_eq_true rfl)) (fun b m' hb => w_X11_restore d 0 m _ hb) (fun e m' hb => w_X11_restore d 0 m _ hb) (fun _ _ => rfl) (fun r1 m2 => ?_)
  refine zk_gd fun e3 => ?_
  refine zk_st R 4 15 [some (.inr (12, 0)), some (.inr (32, 0)), none] [.inl (.int (0 : Int32))] (z_sL m2 32 0 (Int32.toNatClampNeg (0 : Int32)) (Int32.toInt64 r1)) rfl ⟨trivial, ⟨(Nat.le_of_ble_eq_true rfl), z_inb_in e3⟩, trivial, trivial, trivial⟩ ?_
  exact zk_ret R rfl trivial rfl
theorem r_X9_countCommands {i : Nat} {t : List zA} (h : i < zN 10) : z_rcv zN (zKD 92) (.inr (10, i) :: t) := by
  rw [show zKD 92 = 10 from rfl]
  exact ⟨rfl, h⟩
noncomputable def f_X9_countCommands_9 : Nat → Int32 → Int32 → Int32 → zM → Option (Int32 × zM)
  | 0, _, _, _, _ => none
  | j + 1, x1, x2, x3, m =>
    if (60 : Int32) ≤ x3 then
      some (x2, m)
    else
      Option.bind (f_X9_readCommand x1 m) fun r2 =>
      if ((z_sI r2.2 10 0 2 r2.1).1 10 0 2) = (-1 : Int32) then
        Option.bind (f_X9_sign (z_sI r2.2 10 0 2 r2.1)) fun r4 =>
        if r4 = 0 then
          some ((x2 + (1 : Int32)), (z_sI r2.2 10 0 2 r2.1))
        else
          Option.bind (f_X9_sign (z_sI r2.2 10 0 2 r2.1)) fun r6 =>
          if r6 = (59 : Int32) then
            f_X9_countCommands_9 j x1 (x2 + (1 : Int32)) (x3 + (1 : Int32)) (z_sI (z_sI r2.2 10 0 2 r2.1) 10 0 3 (((z_sI r2.2 10 0 2 r2.1).1 10 0 3) + (1 : Int32)))
          else
            some ((-1 : Int32), (z_sI (z_sI r2.2 10 0 2 r2.1) 10 0 2 ((z_sI r2.2 10 0 2 r2.1).1 10 0 3)))
      else
        some ((-1 : Int32), (z_sI r2.2 10 0 2 r2.1))
noncomputable def f_X9_countCommands (x1 : Int32) (m : zM) : Option (Int32 × zM) :=
  f_X9_countCommands_9 zF x1 (0 : Int32) (0 : Int32) (z_sI m 10 0 3 (0 : Int32))
theorem w_X9_countCommands_9 (d k : Nat) {o : zO} {G : Nat → Nat → zL → List zA → zM → Prop} (R : zRu (d + 5) tX9_countCommands 0 (z_hf []) o G) : ∀ (j : Nat) (x1 : Int32) (x2 : Int32) (x3 : Int32) (m : zM), zLK G (fun a => (z_cI a.1, a.2) : Int32 × zM → zO) o (f_X9_countCommands_9 j x1 x2 x3 m) some (k + 0) 9 [some (.inr (10, 0)), some (.inl (.int x1)), some (.inl (.int x2)), some (.inl (.int x3))] [] m := by
  intro j
  induction j with
  | zero =>
    intro _ _ _ _
    exact zk_none
  | succ j ih =>
    intro x1 x2 x3 m
    unfold f_X9_countCommands_9
    refine zk_st R 2 12 [some (.inr (10, 0)), some (.inl (.int x1)), some (.inl (.int x2)), some (.inl (.int x3))] [.inl (.int (60 : Int32)), .inl (.int x3)] m rfl ⟨trivial, trivial, trivial⟩ ?_
    refine zk_br R rfl (fun _ => ?_) (fun _ => ?_)
    · refine zk_st R 1 82 [some (.inr (10, 0)), some (.inl (.int x1)), some (.inl (.int x2)), some (.inl (.int x3))] [.inl (.int x2)] m rfl ⟨trivial, trivial⟩ ?_
      exact zk_ret R rfl trivial rfl
    · refine zk_st R 3 18 [some (.inr (10, 0)), some (.inl (.int x1)), some (.inl (.int x2)), some (.inl (.int x3))] [.inl (.int x1), .inr (10, 0), .inr (10, 0)] m rfl ⟨trivial, trivial, trivial, trivial⟩ ?_
      refine zk_call R (fun b => some (.inl (.int b.1))) (fun b => b.2) rfl (r_X9_readCommand (Nat.le_of_ble_eq_true rfl)) (fun b hb => w_X9_readCommand d 0 x1 m b hb) (fun r2 => ?_)
      refine zk_st R 4 29 [some (.inr (10, 0)), some (.inl (.int x1)), some (.inl (.int x2)), some (.inl (.int x3))] [.inl (.int (-1 : Int32)), .inl (.int ((z_sI r2.2 10 0 2 r2.1).1 10 0 2))] (z_sI r2.2 10 0 2 r2.1) rfl ⟨(Nat.le_of_ble_eq_true rfl), trivial, (Nat.le_of_ble_eq_true rfl), trivial, trivial⟩ ?_
      refine zk_br R rfl (fun _ => ?_) (fun _ => ?_)
      · refine zk_st R 2 38 [some (.inr (10, 0)), some (.inl (.int x1)), some (.inl (.int (x2 + (1 : Int32)))), some (.inl (.int x3))] [.inr (10, 0)] (z_sI r2.2 10 0 2 r2.1) rfl ⟨trivial, trivial, trivial⟩ ?_
        refine zk_call R (fun b => some (.inl (.int b))) (fun _ => (z_sI r2.2 10 0 2 r2.1)) rfl (r_X9_sign (Nat.le_of_ble_eq_true rfl)) (fun b hb => w_X9_sign (d + 4) 0 (z_sI r2.2 10 0 2 r2.1) b hb) (fun r4 => ?_)
        refine zk_br R rfl (fun _ => ?_) (fun _ => ?_)
        · refine zk_st R 1 45 [some (.inr (10, 0)), some (.inl (.int x1)), some (.inl (.int (x2 + (1 : Int32)))), some (.inl (.int x3))] [.inl (.int (x2 + (1 : Int32)))] (z_sI r2.2 10 0 2 r2.1) rfl ⟨trivial, trivial⟩ ?_
          exact zk_ret R rfl trivial rfl
        · refine zk_st R 1 47 [some (.inr (10, 0)), some (.inl (.int x1)), some (.inl (.int (x2 + (1 : Int32)))), some (.inl (.int x3))] [.inr (10, 0)] (z_sI r2.2 10 0 2 r2.1) rfl ⟨trivial, trivial⟩ ?_
          refine zk_call R (fun b => some (.inl (.int b))) (fun _ => (z_sI r2.2 10 0 2 r2.1)) rfl (r_X9_sign (Nat.le_of_ble_eq_true rfl)) (fun b hb => w_X9_sign (d + 4) 0 (z_sI r2.2 10 0 2 r2.1) b hb) (fun r6 => ?_)
          refine zk_st R 1 52 [some (.inr (10, 0)), some (.inl (.int x1)), some (.inl (.int (x2 + (1 : Int32)))), some (.inl (.int x3))] [.inl (.int (59 : Int32)), .inl (.int r6)] (z_sI r2.2 10 0 2 r2.1) rfl ⟨trivial, trivial⟩ ?_
          refine zk_br R rfl (fun _ => ?_) (fun _ => ?_)
          · refine zk_st R 8 9 [some (.inr (10, 0)), some (.inl (.int x1)), some (.inl (.int (x2 + (1 : Int32)))), some (.inl (.int (x3 + (1 : Int32))))] [] (z_sI (z_sI r2.2 10 0 2 r2.1) 10 0 3 (((z_sI r2.2 10 0 2 r2.1).1 10 0 3) + (1 : Int32))) rfl ⟨trivial, trivial, (Nat.le_of_ble_eq_true rfl), trivial, trivial, (Nat.le_of_ble_eq_true rfl), trivial, trivial, trivial⟩ ?_
            refine zk_mask R [true, true, true, true] rfl ?_
            exact ih x1 (x2 + (1 : Int32)) (x3 + (1 : Int32)) (z_sI (z_sI r2.2 10 0 2 r2.1) 10 0 3 (((z_sI r2.2 10 0 2 r2.1).1 10 0 3) + (1 : Int32)))
          · refine zk_st R 5 64 [some (.inr (10, 0)), some (.inl (.int x1)), some (.inl (.int (x2 + (1 : Int32)))), some (.inl (.int x3))] [.inl (.int (-1 : Int32))] (z_sI (z_sI r2.2 10 0 2 r2.1) 10 0 2 ((z_sI r2.2 10 0 2 r2.1).1 10 0 3)) rfl ⟨trivial, trivial, (Nat.le_of_ble_eq_true rfl), (Nat.le_of_ble_eq_true rfl), trivial, trivial⟩ ?_
            exact zk_ret R rfl trivial rfl
      · refine zk_st R 1 33 [some (.inr (10, 0)), some (.inl (.int x1)), some (.inl (.int x2)), some (.inl (.int x3))] [.inl (.int (-1 : Int32))] (z_sI r2.2 10 0 2 r2.1) rfl ⟨trivial, trivial⟩ ?_
        exact zk_ret R rfl trivial rfl
theorem w_X9_countCommands (d k : Nat) (x1 : Int32) (m : zM) (a : Int32 × zM) (ha : f_X9_countCommands x1 m = some a) : z_Ev z_MT zN zRf (d + 6) (k + 0) 92 [.inr (10, 0), .inl (.int x1)] m ((fun a => (z_cI a.1, a.2) : Int32 × zM → zO) a) := by
  refine zk_top (I := (yX9_countCommands, cX9_countCommands, 4, (some .int), [], tX9_countCommands, 10, 1, 10, 0, 0, 0)) (oc := (fun a => (z_cI a.1, a.2) : Int32 × zM → zO)) (a := a) rfl (Nat.le_of_ble_eq_true rfl) (fun G R => ?_) ha
  unfold f_X9_countCommands
  refine zk_st R 7 9 [some (.inr (10, 0)), some (.inl (.int x1)), some (.inl (.int (0 : Int32))), some (.inl (.int (0 : Int32)))] [] (z_sI m 10 0 3 (0 : Int32)) rfl ⟨trivial, trivial, trivial, trivial, (Nat.le_of_ble_eq_true rfl), trivial, trivial, trivial⟩ ?_
  refine zk_mask R [true, true, true, true] rfl ?_
  exact w_X9_countCommands_9 d k R zF x1 (0 : Int32) (0 : Int32) (z_sI m 10 0 3 (0 : Int32))
theorem r_X9_carryOut {i : Nat} {t : List zA} (h : i < zN 10) : z_rcv zN (zKD 93) (.inr (10, i) :: t) := by
  rw [show zKD 93 = 10 from rfl]
  exact ⟨rfl, h⟩
noncomputable def f_X9_carryOut_72 (g1 : Nat) (c7 : Int32 → zM → Option (Bool × zM)) (x2 : Int32) (m : zM) : Option (Bool × zM) :=
  Option.bind (f_X9_carryOutCommand g1 m) fun r1 =>
  c7 (x2 + (1 : Int32)) r1
noncomputable def f_X9_carryOut_7 (g1 : Nat) : Nat → Int32 → zM → Option (Bool × zM)
  | 0, _, _ => none
  | j + 1, x2, m =>
    if (60 : Int32) ≤ x2 then
      some (true, m)
    else
      if (m.1 10 0 1) ≤ (m.1 10 0 3) then
        some (true, m)
      else
        Option.bind (f_X4_size g1 m) fun r3 =>
        Option.bind (f_X9_readCommand r3 m) fun r4 =>
        if ((z_sI r4.2 10 0 3 ((r4.2.1 10 0 3) + (1 : Int32))).1 10 0 4) = (111 : Int32) then
          if ((z_sI r4.2 10 0 3 ((r4.2.1 10 0 3) + (1 : Int32))).1 10 0 6) = 0 then
            Option.bind (f_X4_isOnlyOutlet g1 ((z_sI r4.2 10 0 3 ((r4.2.1 10 0 3) + (1 : Int32))).1 10 0 5) (z_sI r4.2 10 0 3 ((r4.2.1 10 0 3) + (1 : Int32)))) fun r7 =>
            if (z_bi r7) = 0 then
              f_X9_carryOut_72 g1 (f_X9_carryOut_7 g1 j) x2 (z_sI r4.2 10 0 3 ((r4.2.1 10 0 3) + (1 : Int32)))
            else
              some (false, (z_sI r4.2 10 0 3 ((r4.2.1 10 0 3) + (1 : Int32))))
          else
            f_X9_carryOut_72 g1 (f_X9_carryOut_7 g1 j) x2 (z_sI r4.2 10 0 3 ((r4.2.1 10 0 3) + (1 : Int32)))
        else
          f_X9_carryOut_72 g1 (f_X9_carryOut_7 g1 j) x2 (z_sI r4.2 10 0 3 ((r4.2.1 10 0 3) + (1 : Int32)))
noncomputable def f_X9_carryOut (g1 : Nat) (m : zM) : Option (Bool × zM) :=
  f_X9_carryOut_7 g1 zF (0 : Int32) (z_sI m 10 0 3 (0 : Int32))
theorem w_X9_carryOut_72 (d k : Nat) {o : zO} {G : Nat → Nat → zL → List zA → zM → Prop} (g1 : Nat) (hg1 : g1 < zN 6) (R : zRu (d + 5) tX9_carryOut 1 (z_hf []) o G) (c7 : Int32 → zM → Option (Bool × zM)) (hc7 : ∀ (x2 : Int32) (m : zM), zLK G (fun a => (z_cB a.1, a.2) : Bool × zM → zO) o (c7 x2 m) some (k + 0) 7 [some (.inr (10, 0)), some (.inr (6, g1)), some (.inl (.int x2))] [] m) (x2 : Int32) (m : zM) : zLK G (fun a => (z_cB a.1, a.2) : Bool × zM → zO) o (f_X9_carryOut_72 g1 c7 x2 m) some (k + 0) 72 [some (.inr (10, 0)), some (.inr (6, g1)), some (.inl (.int x2))] [] m := by
  unfold f_X9_carryOut_72
  refine zk_st R 2 74 [some (.inr (10, 0)), some (.inr (6, g1)), some (.inl (.int x2))] [.inr (6, g1), .inr (10, 0)] m rfl ⟨trivial, trivial, trivial⟩ ?_
  refine zk_call R (fun _ => none) id rfl (r_X9_carryOutCommand (Nat.le_of_ble_eq_true rfl)) (fun b hb => w_X9_carryOutCommand (d + 3) 0 g1 hg1 m b hb) (fun r1 => ?_)
  refine zk_st R 2 7 [some (.inr (10, 0)), some (.inr (6, g1)), some (.inl (.int (x2 + (1 : Int32))))] [] r1 rfl ⟨trivial, trivial, trivial⟩ ?_
  refine zk_mask R [true, true, true] rfl ?_
  exact hc7 (x2 + (1 : Int32)) r1
theorem w_X9_carryOut_7 (d k : Nat) {o : zO} {G : Nat → Nat → zL → List zA → zM → Prop} (g1 : Nat) (hg1 : g1 < zN 6) (R : zRu (d + 5) tX9_carryOut 1 (z_hf []) o G) : ∀ (j : Nat) (x2 : Int32) (m : zM), zLK G (fun a => (z_cB a.1, a.2) : Bool × zM → zO) o (f_X9_carryOut_7 g1 j x2 m) some (k + 0) 7 [some (.inr (10, 0)), some (.inr (6, g1)), some (.inl (.int x2))] [] m := by
  intro j
  induction j with
  | zero =>
    intro _ _
    exact zk_none
  | succ j ih =>
    intro x2 m
    unfold f_X9_carryOut_7
    refine zk_st R 2 10 [some (.inr (10, 0)), some (.inr (6, g1)), some (.inl (.int x2))] [.inl (.int (60 : Int32)), .inl (.int x2)] m rfl ⟨trivial, trivial, trivial⟩ ?_
    refine zk_br R rfl (fun _ => ?_) (fun _ => ?_)
    · refine zk_st R 1 84 [some (.inr (10, 0)), some (.inr (6, g1)), some (.inl (.int x2))] [.inl (.int (1 : Int32))] m rfl ⟨trivial, trivial⟩ ?_
      exact zk_ret R rfl (Or.inr rfl) rfl
    · refine zk_st R 4 21 [some (.inr (10, 0)), some (.inr (6, g1)), some (.inl (.int x2))] [.inl (.int (m.1 10 0 1)), .inl (.int (m.1 10 0 3))] m rfl ⟨trivial, (Nat.le_of_ble_eq_true rfl), trivial, (Nat.le_of_ble_eq_true rfl), trivial⟩ ?_
      refine zk_br R rfl (fun _ => ?_) (fun _ => ?_)
      · refine zk_st R 1 84 [some (.inr (10, 0)), some (.inr (6, g1)), some (.inl (.int x2))] [.inl (.int (1 : Int32))] m rfl ⟨trivial, trivial⟩ ?_
        exact zk_ret R rfl (Or.inr rfl) rfl
      · refine zk_st R 2 26 [some (.inr (10, 0)), some (.inr (6, g1)), some (.inl (.int x2))] [.inr (6, g1), .inr (10, 0)] m rfl ⟨trivial, trivial, trivial⟩ ?_
        refine zk_call R (fun b => some (.inl (.int b))) (fun _ => m) rfl (r_X4_size hg1) (fun b hb => w_X4_size (d + 4) 0 g1 hg1 m b hb) (fun r3 => ?_)
        refine zk_call R (fun b => some (.inl (.int b.1))) (fun b => b.2) rfl (r_X9_readCommand (Nat.le_of_ble_eq_true rfl)) (fun b hb => w_X9_readCommand d 0 r3 m b hb) (fun r4 => ?_)
        refine zk_st R 10 49 [some (.inr (10, 0)), some (.inr (6, g1)), some (.inl (.int x2))] [.inl (.int (111 : Int32)), .inl (.int ((z_sI r4.2 10 0 3 ((r4.2.1 10 0 3) + (1 : Int32))).1 10 0 4))] (z_sI r4.2 10 0 3 ((r4.2.1 10 0 3) + (1 : Int32))) rfl ⟨trivial, trivial, trivial, (Nat.le_of_ble_eq_true rfl), trivial, trivial, (Nat.le_of_ble_eq_true rfl), trivial, (Nat.le_of_ble_eq_true rfl), trivial, trivial⟩ ?_
        refine zk_br R rfl (fun _ => ?_) (fun _ => ?_)
        · refine zk_st R 2 56 [some (.inr (10, 0)), some (.inr (6, g1)), some (.inl (.int x2))] [.inl (.int ((z_sI r4.2 10 0 3 ((r4.2.1 10 0 3) + (1 : Int32))).1 10 0 6))] (z_sI r4.2 10 0 3 ((r4.2.1 10 0 3) + (1 : Int32))) rfl ⟨trivial, (Nat.le_of_ble_eq_true rfl), trivial⟩ ?_
          refine zk_br R rfl (fun _ => ?_) (fun _ => ?_)
          · refine zk_st R 3 64 [some (.inr (10, 0)), some (.inr (6, g1)), some (.inl (.int x2))] [.inl (.int ((z_sI r4.2 10 0 3 ((r4.2.1 10 0 3) + (1 : Int32))).1 10 0 5)), .inr (6, g1)] (z_sI r4.2 10 0 3 ((r4.2.1 10 0 3) + (1 : Int32))) rfl ⟨trivial, trivial, (Nat.le_of_ble_eq_true rfl), trivial⟩ ?_
            refine zk_call R (fun b => some (.inl (.int (z_bi b)))) (fun _ => (z_sI r4.2 10 0 3 ((r4.2.1 10 0 3) + (1 : Int32)))) rfl (r_X4_isOnlyOutlet hg1) (fun b hb => w_X4_isOnlyOutlet (d + 2) 0 g1 hg1 ((z_sI r4.2 10 0 3 ((r4.2.1 10 0 3) + (1 : Int32))).1 10 0 5) (z_sI r4.2 10 0 3 ((r4.2.1 10 0 3) + (1 : Int32))) b hb) (fun r7 => ?_)
            refine zk_br R rfl (fun _ => ?_) (fun _ => ?_)
            · refine zk_mask R [true, true, true] rfl ?_
              exact w_X9_carryOut_72 d k g1 hg1 R (f_X9_carryOut_7 g1 j) ih x2 (z_sI r4.2 10 0 3 ((r4.2.1 10 0 3) + (1 : Int32)))
            · refine zk_st R 1 71 [some (.inr (10, 0)), some (.inr (6, g1)), some (.inl (.int x2))] [.inl (.int (0 : Int32))] (z_sI r4.2 10 0 3 ((r4.2.1 10 0 3) + (1 : Int32))) rfl ⟨trivial, trivial⟩ ?_
              exact zk_ret R rfl (Or.inl rfl) rfl
          · refine zk_mask R [true, true, true] rfl ?_
            exact w_X9_carryOut_72 d k g1 hg1 R (f_X9_carryOut_7 g1 j) ih x2 (z_sI r4.2 10 0 3 ((r4.2.1 10 0 3) + (1 : Int32)))
        · refine zk_mask R [true, true, true] rfl ?_
          exact w_X9_carryOut_72 d k g1 hg1 R (f_X9_carryOut_7 g1 j) ih x2 (z_sI r4.2 10 0 3 ((r4.2.1 10 0 3) + (1 : Int32)))
theorem w_X9_carryOut (d k : Nat) (g1 : Nat) (hg1 : g1 < zN 6) (m : zM) (a : Bool × zM) (ha : f_X9_carryOut g1 m = some a) : z_Ev z_MT zN zRf (d + 6) (k + 0) 93 [.inr (10, 0), .inr (6, g1)] m ((fun a => (z_cB a.1, a.2) : Bool × zM → zO) a) := by
  refine zk_top (I := (yX9_carryOut, cX9_carryOut, 3, (some .boolean), [], tX9_carryOut, 10, 1, 10, 0, 0, 0)) (oc := (fun a => (z_cB a.1, a.2) : Bool × zM → zO)) (a := a) rfl (Nat.le_of_ble_eq_true rfl) (fun G R => ?_) ha
  unfold f_X9_carryOut
  refine zk_st R 5 7 [some (.inr (10, 0)), some (.inr (6, g1)), some (.inl (.int (0 : Int32)))] [] (z_sI m 10 0 3 (0 : Int32)) rfl ⟨trivial, trivial, (Nat.le_of_ble_eq_true rfl), trivial, trivial, trivial⟩ ?_
  refine zk_mask R [true, true, true] rfl ?_
  exact w_X9_carryOut_7 d k g1 hg1 R zF (0 : Int32) (z_sI m 10 0 3 (0 : Int32))
theorem r_X11_lake {i : Nat} {t : List zA} (h : i < zN 12) : z_rcv zN (zKD 115) (.inr (12, i) :: t) := by
  rw [show zKD 115 = 12 from rfl]
  exact ⟨rfl, h⟩
noncomputable def f_X11_lake (x1 : Int32) (x2 : Int32) (m : zM) : Option ((Int32 ⊕ Nat) × zM) :=
  z_bx (f_X11_requireLake x1 m) (fun r1 m2 =>
  z_bx (f_X11_requireRange x2 (0 : Int32) (6 : Int32) m2) (fun r3 m4 =>
  Option.bind (f_X7_at_ 30 0 x1 m4) fun r5 =>
  Option.bind (f_X4_lowestPlace 0 r5 m4) fun r6 =>
  if x2 = (0 : Int32) then
    Option.bind (f_X7_lowest r5 m4) fun r8 =>
    some (.inl r8, m4)
  else if x2 = (1 : Int32) then
    Option.bind (f_J13_bitCount_95d88 r5 m4) fun r10 =>
    some (.inl r10, m4)
  else if x2 = (2 : Int32) then
    Option.bind (f_X7_at 20 33 r6 m4) fun r12 =>
    some (.inl r12, m4)
  else if x2 = (3 : Int32) then
    Option.bind (f_X7_sum 20 34 r5 m4) fun r14 =>
    some (.inl r14, m4)
  else if x2 = (4 : Int32) then
    some (.inl r6, m4)
  else if x2 = (5 : Int32) then
    Option.bind (f_X0_plan 0 r6 m4) fun r17 =>
    some (.inl (r17.1 2 0 4), r17)
  else
    Option.bind (f_X3_trace 0 m4) fun r18 =>
    Option.bind (f_X3_firstOutside r6 r5 r18) fun r19 =>
    some (.inl r19, r18)) id) id
theorem w_X11_lake (d k : Nat) (x1 : Int32) (x2 : Int32) (m : zM) (a : (Int32 ⊕ Nat) × zM) (ha : f_X11_lake x1 x2 m = some a) : z_Ev z_MT zN zRf (d + 6) (k + 2) 115 [.inr (12, 0), .inl (.int x1), .inl (.int x2)] m ((fun a => (z_cX z_cI a.1, a.2) : (Int32 ⊕ Nat) × zM → zO) a) := by
  refine zk_top (I := (yX11_lake, cX11_lake, 6, (some .int), [], tX11_lake, 12, 2, 12, 0, 0, 0)) (oc := (fun a => (z_cX z_cI a.1, a.2) : (Int32 ⊕ Nat) × zM → zO)) (a := a) rfl (Nat.le_of_ble_eq_true rfl) (fun G R => ?_) ha
  unfold f_X11_lake
  refine zk_st R 2 2 [some (.inr (12, 0)), some (.inl (.int x1)), some (.inl (.int x2)), none, none, none] [.inl (.int x1), .inr (12, 0)] m rfl ⟨trivial, trivial, trivial⟩ ?_
  refine zk_callz R (k + 1) 1 (fun _ => none) rfl (r_X11_requireLake (Nat.le_of_ble_eq_true rfl)) (fun b m' hb => w_X11_requireLake d 0 x1 m _ hb) (fun e m' hb => w_X11_requireLake d 0 x1 m _ hb) (fun _ => rfl) (fun _ _ => rfl) (fun r1 m2 => ?_)
  refine zk_st R 3 9 [some (.inr (12, 0)), some (.inl (.int x1)), some (.inl (.int x2)), none, none, none] [.inl (.int (6 : Int32)), .inl (.int (0 : Int32)), .inl (.int x2)] m2 rfl ⟨trivial, trivial, trivial, trivial⟩ ?_
  refine zk_callz R (k + 0) 1 (fun _ => none) rfl (r_X11_requireRange) (fun b m' hb => w_X11_requireRange (d + 4) 0 x2 (0 : Int32) (6 : Int32) m2 _ hb) (fun e m' hb => w_X11_requireRange (d + 4) 0 x2 (0 : Int32) (6 : Int32) m2 _ hb) (fun _ => rfl) (fun _ _ => rfl) (fun r3 m4 => ?_)
  refine zk_st R 4 20 [some (.inr (12, 0)), some (.inl (.int x1)), some (.inl (.int x2)), none, none, none] [.inl (.int x1), .inr (30, 0)] m4 rfl ⟨trivial, (Nat.le_of_ble_eq_true rfl), (Nat.le_of_ble_eq_true rfl), trivial, trivial⟩ ?_
  refine zk_call R (fun b => some (.inl (.long b))) (fun _ => m4) rfl (r_X7_at_) (fun b hb => w_X7_at__k30 (d + 4) 0 0 (Nat.le_of_ble_eq_true rfl) x1 m4 b hb) (fun r5 => ?_)
  refine zk_st R 4 29 [some (.inr (12, 0)), some (.inl (.int x1)), some (.inl (.int x2)), some (.inl (.long r5)), none, none] [.inl (.long r5), .inr (6, 0)] m4 rfl ⟨trivial, trivial, (Nat.le_of_ble_eq_true rfl), trivial, trivial⟩ ?_
  refine zk_call R (fun b => some (.inl (.int b))) (fun _ => m4) rfl (r_X4_lowestPlace (Nat.le_of_ble_eq_true rfl)) (fun b hb => w_X4_lowestPlace (d + 2) 0 0 (Nat.le_of_ble_eq_true rfl) r5 m4 b hb) (fun r6 => ?_)
  refine zk_st R 2 35 [some (.inr (12, 0)), some (.inl (.int x1)), some (.inl (.int x2)), some (.inl (.long r5)), none, some (.inl (.int r6))] [.inl (.int x2)] m4 rfl ⟨trivial, trivial, trivial⟩ ?_
  refine zk_if (fun e7 => ?_) (fun e7 => ?_)
  · refine zk_tsw R rfl (z_swv e7 (by decide +kernel : _ = 72)) ?_
    refine zk_st R 1 73 [some (.inr (12, 0)), some (.inl (.int x1)), some (.inl (.int x2)), some (.inl (.long r5)), none, some (.inl (.int r6))] [.inl (.long r5)] m4 rfl ⟨trivial, trivial⟩ ?_
    refine zk_call R (fun b => some (.inl (.int b))) (fun _ => m4) rfl (r_X7_lowest) (fun b hb => w_X7_lowest (d + 3) 0 r5 m4 b hb) (fun r8 => ?_)
    exact zk_ret R rfl trivial rfl
  refine zk_if (fun e9 => ?_) (fun e9 => ?_)
  · refine zk_tsw R rfl (z_swv e9 (by decide +kernel : _ = 77)) ?_
    refine zk_st R 1 78 [some (.inr (12, 0)), some (.inl (.int x1)), some (.inl (.int x2)), some (.inl (.long r5)), none, some (.inl (.int r6))] [.inl (.long r5)] m4 rfl ⟨trivial, trivial⟩ ?_
    refine zk_call R (fun b => some (.inl (.int b))) (fun _ => m4) rfl (r_J13_bitCount_95d88) (fun b hb => w_J13_bitCount_95d88 (d + 4) 0 r5 m4 b hb) (fun r10 => ?_)
    exact zk_ret R rfl trivial rfl
  refine zk_if (fun e11 => ?_) (fun e11 => ?_)
  · refine zk_tsw R rfl (z_swv e11 (by decide +kernel : _ = 82)) ?_
    refine zk_st R 4 91 [some (.inr (12, 0)), some (.inl (.int x1)), some (.inl (.int x2)), some (.inl (.long r5)), none, some (.inl (.int r6))] [.inl (.int r6), .inr (20, 33)] m4 rfl ⟨trivial, (Nat.le_of_ble_eq_true rfl), (Nat.le_of_ble_eq_true rfl), trivial, trivial⟩ ?_
    refine zk_call R (fun b => some (.inl (.int b))) (fun _ => m4) rfl (r_X7_at) (fun b hb => w_X7_at_k20 (d + 4) 0 33 (Nat.le_of_ble_eq_true rfl) r6 m4 b hb) (fun r12 => ?_)
    exact zk_ret R rfl trivial rfl
  refine zk_if (fun e13 => ?_) (fun e13 => ?_)
  · refine zk_tsw R rfl (z_swv e13 (by decide +kernel : _ = 95)) ?_
    refine zk_st R 4 103 [some (.inr (12, 0)), some (.inl (.int x1)), some (.inl (.int x2)), some (.inl (.long r5)), none, some (.inl (.int r6))] [.inl (.long r5), .inr (20, 34)] m4 rfl ⟨trivial, (Nat.le_of_ble_eq_true rfl), (Nat.le_of_ble_eq_true rfl), trivial, trivial⟩ ?_
    refine zk_call R (fun b => some (.inl (.int b))) (fun _ => m4) rfl (r_X7_sum) (fun b hb => w_X7_sum_k20 (d + 3) 0 34 (Nat.le_of_ble_eq_true rfl) r5 m4 b hb) (fun r14 => ?_)
    exact zk_ret R rfl trivial rfl
  refine zk_if (fun e15 => ?_) (fun e15 => ?_)
  · refine zk_tsw R rfl (z_swv e15 (by decide +kernel : _ = 107)) ?_
    refine zk_st R 1 109 [some (.inr (12, 0)), some (.inl (.int x1)), some (.inl (.int x2)), some (.inl (.long r5)), none, some (.inl (.int r6))] [.inl (.int r6)] m4 rfl ⟨trivial, trivial⟩ ?_
    exact zk_ret R rfl trivial rfl
  refine zk_if (fun e16 => ?_) (fun e16 => ?_)
  · refine zk_tsw R rfl (z_swv e16 (by decide +kernel : _ = 110)) ?_
    refine zk_st R 5 120 [some (.inr (12, 0)), some (.inl (.int x1)), some (.inl (.int x2)), some (.inl (.long r5)), none, some (.inl (.int r6))] [.inl (.int r6), .inr (6, 0), .inr (2, 0)] m4 rfl ⟨trivial, (Nat.le_of_ble_eq_true rfl), trivial, (Nat.le_of_ble_eq_true rfl), trivial, trivial⟩ ?_
    refine zk_call R (fun _ => none) id rfl (r_X0_plan (Nat.le_of_ble_eq_true rfl)) (fun b hb => w_X0_plan d 0 0 (Nat.le_of_ble_eq_true rfl) r6 m4 b hb) (fun r17 => ?_)
    refine zk_st R 3 130 [some (.inr (12, 0)), some (.inl (.int x1)), some (.inl (.int x2)), some (.inl (.long r5)), none, some (.inl (.int r6))] [.inl (.int (r17.1 2 0 4))] r17 rfl ⟨trivial, (Nat.le_of_ble_eq_true rfl), (Nat.le_of_ble_eq_true rfl), trivial⟩ ?_
    exact zk_ret R rfl trivial rfl
  refine zk_tsw R rfl (z_swd 6 (by decide) (fun i hi => ?_) (by decide : _ = 131)) ?_
  · have hi' : i = 0 ∨ i = 1 ∨ i = 2 ∨ i = 3 ∨ i = 4 ∨ i = 5 := by omega
    rcases hi' with rfl | rfl | rfl | rfl | rfl | rfl
    · exact e7
    · exact e9
    · exact e11
    · exact e13
    · exact e15
    · exact e16
  · refine zk_st R 6 143 [some (.inr (12, 0)), some (.inl (.int x1)), some (.inl (.int x2)), some (.inl (.long r5)), none, some (.inl (.int r6))] [.inr (4, 0), .inr (6, 0), .inr (5, 0)] m4 rfl ⟨trivial, (Nat.le_of_ble_eq_true rfl), trivial, (Nat.le_of_ble_eq_true rfl), trivial, (Nat.le_of_ble_eq_true rfl), trivial⟩ ?_
    refine zk_call R (fun _ => none) id rfl (r_X3_trace (Nat.le_of_ble_eq_true rfl)) (fun b hb => w_X3_trace d 0 0 (Nat.le_of_ble_eq_true rfl) m4 b hb) (fun r18 => ?_)
    refine zk_st R 4 153 [some (.inr (12, 0)), some (.inl (.int x1)), some (.inl (.int x2)), some (.inl (.long r5)), none, some (.inl (.int r6))] [.inl (.long r5), .inl (.int r6), .inr (5, 0)] r18 rfl ⟨trivial, (Nat.le_of_ble_eq_true rfl), trivial, trivial, trivial⟩ ?_
    refine zk_call R (fun b => some (.inl (.int b))) (fun _ => r18) rfl (r_X3_firstOutside (Nat.le_of_ble_eq_true rfl)) (fun b hb => w_X3_firstOutside (d + 3) 0 r6 r5 r18 b hb) (fun r19 => ?_)
    exact zk_ret R rfl trivial rfl
theorem r_X11_remedy {i : Nat} {t : List zA} (h : i < zN 12) : z_rcv zN (zKD 117) (.inr (12, i) :: t) := by
  rw [show zKD 117 = 12 from rfl]
  exact ⟨rfl, h⟩
noncomputable def f_X11_remedy (x1 : Int32) (m : zM) : Option ((Int32 ⊕ Nat) × zM) :=
  z_bx (f_X11_requireLake x1 m) (fun r1 m2 =>
  Option.bind (f_X7_at_ 30 0 x1 m2) fun r3 =>
  Option.bind (f_X4_lowestPlace 0 r3 m2) fun r4 =>
  Option.bind (f_X0_plan 0 r4 m2) fun r5 =>
  Option.bind (f_X7_sum 20 34 r3 r5) fun r6 =>
  if (r5.1 2 0 4) < r6 then
    some (.inl (2 : Int32), r5)
  else
    some (.inl (1 : Int32), r5)) id
theorem w_X11_remedy (d k : Nat) (x1 : Int32) (m : zM) (a : (Int32 ⊕ Nat) × zM) (ha : f_X11_remedy x1 m = some a) : z_Ev z_MT zN zRf (d + 6) (k + 1) 117 [.inr (12, 0), .inl (.int x1)] m ((fun a => (z_cX z_cI a.1, a.2) : (Int32 ⊕ Nat) × zM → zO) a) := by
  refine zk_top (I := (yX11_remedy, cX11_remedy, 4, (some .int), [], tX11_remedy, 12, 1, 12, 0, 0, 0)) (oc := (fun a => (z_cX z_cI a.1, a.2) : (Int32 ⊕ Nat) × zM → zO)) (a := a) rfl (Nat.le_of_ble_eq_true rfl) (fun G R => ?_) ha
  unfold f_X11_remedy
  refine zk_st R 2 2 [some (.inr (12, 0)), some (.inl (.int x1)), none, none] [.inl (.int x1), .inr (12, 0)] m rfl ⟨trivial, trivial, trivial⟩ ?_
  refine zk_callz R (k + 0) 1 (fun _ => none) rfl (r_X11_requireLake (Nat.le_of_ble_eq_true rfl)) (fun b m' hb => w_X11_requireLake d 0 x1 m _ hb) (fun e m' hb => w_X11_requireLake d 0 x1 m _ hb) (fun _ => rfl) (fun _ _ => rfl) (fun r1 m2 => ?_)
  refine zk_st R 4 13 [some (.inr (12, 0)), some (.inl (.int x1)), none, none] [.inl (.int x1), .inr (30, 0)] m2 rfl ⟨trivial, (Nat.le_of_ble_eq_true rfl), (Nat.le_of_ble_eq_true rfl), trivial, trivial⟩ ?_
  refine zk_call R (fun b => some (.inl (.long b))) (fun _ => m2) rfl (r_X7_at_) (fun b hb => w_X7_at__k30 (d + 4) 0 0 (Nat.le_of_ble_eq_true rfl) x1 m2 b hb) (fun r3 => ?_)
  refine zk_st R 8 30 [some (.inr (12, 0)), some (.inl (.int x1)), some (.inl (.long r3)), none] [.inl (.long r3), .inr (6, 0), .inr (6, 0), .inr (2, 0)] m2 rfl ⟨trivial, trivial, (Nat.le_of_ble_eq_true rfl), trivial, (Nat.le_of_ble_eq_true rfl), trivial, (Nat.le_of_ble_eq_true rfl), trivial, trivial⟩ ?_
  refine zk_call R (fun b => some (.inl (.int b))) (fun _ => m2) rfl (r_X4_lowestPlace (Nat.le_of_ble_eq_true rfl)) (fun b hb => w_X4_lowestPlace (d + 2) 0 0 (Nat.le_of_ble_eq_true rfl) r3 m2 b hb) (fun r4 => ?_)
  refine zk_call R (fun _ => none) id rfl (r_X0_plan (Nat.le_of_ble_eq_true rfl)) (fun b hb => w_X0_plan d 0 0 (Nat.le_of_ble_eq_true rfl) r4 m2 b hb) (fun r5 => ?_)
  refine zk_st R 4 44 [some (.inr (12, 0)), some (.inl (.int x1)), some (.inl (.long r3)), none] [.inl (.long r3), .inr (20, 34)] r5 rfl ⟨trivial, (Nat.le_of_ble_eq_true rfl), (Nat.le_of_ble_eq_true rfl), trivial, trivial⟩ ?_
  refine zk_call R (fun b => some (.inl (.int b))) (fun _ => r5) rfl (r_X7_sum) (fun b hb => w_X7_sum_k20 (d + 3) 0 34 (Nat.le_of_ble_eq_true rfl) r3 r5 b hb) (fun r6 => ?_)
  refine zk_st R 3 54 [some (.inr (12, 0)), some (.inl (.int x1)), some (.inl (.long r3)), none] [.inl (.int (r5.1 2 0 4)), .inl (.int r6)] r5 rfl ⟨trivial, (Nat.le_of_ble_eq_true rfl), (Nat.le_of_ble_eq_true rfl), trivial⟩ ?_
  refine zk_br R rfl (fun _ => ?_) (fun _ => ?_)
  · refine zk_st R 1 62 [some (.inr (12, 0)), some (.inl (.int x1)), some (.inl (.long r3)), none] [.inl (.int (2 : Int32))] r5 rfl ⟨trivial, trivial⟩ ?_
    exact zk_ret R rfl trivial rfl
  · refine zk_st R 2 62 [some (.inr (12, 0)), some (.inl (.int x1)), some (.inl (.long r3)), none] [.inl (.int (1 : Int32))] r5 rfl ⟨trivial, trivial, trivial⟩ ?_
    exact zk_ret R rfl trivial rfl
theorem r_X11_fillLake {i : Nat} {t : List zA} (h : i < zN 12) : z_rcv zN (zKD 118) (.inr (12, i) :: t) := by
  rw [show zKD 118 = 12 from rfl]
  exact ⟨rfl, h⟩
noncomputable def f_X11_fillLake_40 : Nat → Int64 → Int32 → Int32 → zM → Option ((Int32 ⊕ Nat) × zM)
  | 0, _, _, _, _ => none
  | j + 1, x2, x4, x5, m =>
    if x4 ≤ x5 then
      Option.bind (f_X7_sum 20 34 x2 m) fun r2 =>
      some (.inl r2, m)
    else
      Option.bind (f_X7_has x2 x5 m) fun r3 =>
      if (z_bi r3) = 0 then
        f_X11_fillLake_40 j x2 x4 (x5 + (1 : Int32)) m
      else
        Option.bind (f_X7_at 20 33 x5 m) fun r5 =>
        Option.bind (f_X7_put 20 0 x5 r5 m) fun r6 =>
        f_X11_fillLake_40 j x2 x4 (x5 + (1 : Int32)) r6
noncomputable def f_X11_fillLake (x1 : Int32) (m : zM) : Option ((Int32 ⊕ Nat) × zM) :=
  z_bx (f_X11_requireLake x1 m) (fun r1 m2 =>
  Option.bind (f_X5_remember 0 m2) fun r3 =>
  Option.bind (f_X7_at_ 30 0 x1 r3) fun r4 =>
  Option.bind (f_X4_size 0 r3) fun r5 =>
  f_X11_fillLake_40 zF r4 r5 (0 : Int32) r3) id
theorem w_X11_fillLake_40 (d k : Nat) {o : zO} {G : Nat → Nat → zL → List zA → zM → Prop} (R : zRu (d + 5) tX11_fillLake 0 (z_hf []) o G) : ∀ (j : Nat) (x2 : Int64) (x4 : Int32) (x5 : Int32) (m : zM), zLK G (fun a => (z_cX z_cI a.1, a.2) : (Int32 ⊕ Nat) × zM → zO) o (f_X11_fillLake_40 j x2 x4 x5 m) some (k + 0) 40 [some (.inr (12, 0)), none, some (.inl (.long x2)), none, some (.inl (.int x4)), some (.inl (.int x5))] [] m := by
  intro j
  induction j with
  | zero =>
    intro _ _ _ _
    exact zk_none
  | succ j ih =>
    intro x2 x4 x5 m
    unfold f_X11_fillLake_40
    refine zk_st R 2 44 [some (.inr (12, 0)), none, some (.inl (.long x2)), none, some (.inl (.int x4)), some (.inl (.int x5))] [.inl (.int x4), .inl (.int x5)] m rfl ⟨trivial, trivial, trivial⟩ ?_
    refine zk_br R rfl (fun _ => ?_) (fun _ => ?_)
    · refine zk_st R 4 94 [some (.inr (12, 0)), none, some (.inl (.long x2)), none, some (.inl (.int x4)), some (.inl (.int x5))] [.inl (.long x2), .inr (20, 34)] m rfl ⟨trivial, (Nat.le_of_ble_eq_true rfl), (Nat.le_of_ble_eq_true rfl), trivial, trivial⟩ ?_
      refine zk_call R (fun b => some (.inl (.int b))) (fun _ => m) rfl (r_X7_sum) (fun b hb => w_X7_sum_k20 (d + 3) 0 34 (Nat.le_of_ble_eq_true rfl) x2 m b hb) (fun r2 => ?_)
      exact zk_ret R rfl trivial rfl
    · refine zk_st R 2 50 [some (.inr (12, 0)), none, some (.inl (.long x2)), none, some (.inl (.int x4)), some (.inl (.int x5))] [.inl (.int x5), .inl (.long x2)] m rfl ⟨trivial, trivial, trivial⟩ ?_
      refine zk_call R (fun b => some (.inl (.int (z_bi b)))) (fun _ => m) rfl (r_X7_has) (fun b hb => w_X7_has (d + 4) 0 x2 x5 m b hb) (fun r3 => ?_)
      refine zk_br R rfl (fun _ => ?_) (fun _ => ?_)
      · refine zk_st R 2 40 [some (.inr (12, 0)), none, some (.inl (.long x2)), none, some (.inl (.int x4)), some (.inl (.int (x5 + (1 : Int32))))] [] m rfl ⟨trivial, trivial, trivial⟩ ?_
        refine zk_mask R [true, false, true, false, true, true] rfl ?_
        exact ih x2 x4 (x5 + (1 : Int32)) m
      · refine zk_st R 8 74 [some (.inr (12, 0)), none, some (.inl (.long x2)), none, some (.inl (.int x4)), some (.inl (.int x5))] [.inl (.int x5), .inr (20, 33), .inl (.int x5), .inr (20, 0)] m rfl ⟨trivial, (Nat.le_of_ble_eq_true rfl), (Nat.le_of_ble_eq_true rfl), trivial, trivial, (Nat.le_of_ble_eq_true rfl), (Nat.le_of_ble_eq_true rfl), trivial, trivial⟩ ?_
        refine zk_call R (fun b => some (.inl (.int b))) (fun _ => m) rfl (r_X7_at) (fun b hb => w_X7_at_k20 (d + 4) 0 33 (Nat.le_of_ble_eq_true rfl) x5 m b hb) (fun r5 => ?_)
        refine zk_call R (fun _ => none) id rfl (r_X7_put) (fun b hb => w_X7_put_k20 (d + 4) 0 0 (Nat.le_of_ble_eq_true rfl) x5 r5 m b hb) (fun r6 => ?_)
        refine zk_st R 2 40 [some (.inr (12, 0)), none, some (.inl (.long x2)), none, some (.inl (.int x4)), some (.inl (.int (x5 + (1 : Int32))))] [] r6 rfl ⟨trivial, trivial, trivial⟩ ?_
        refine zk_mask R [true, false, true, false, true, true] rfl ?_
        exact ih x2 x4 (x5 + (1 : Int32)) r6
theorem w_X11_fillLake (d k : Nat) (x1 : Int32) (m : zM) (a : (Int32 ⊕ Nat) × zM) (ha : f_X11_fillLake x1 m = some a) : z_Ev z_MT zN zRf (d + 6) (k + 1) 118 [.inr (12, 0), .inl (.int x1)] m ((fun a => (z_cX z_cI a.1, a.2) : (Int32 ⊕ Nat) × zM → zO) a) := by
  refine zk_top (I := (yX11_fillLake, cX11_fillLake, 6, (some .int), [], tX11_fillLake, 12, 1, 12, 0, 0, 0)) (oc := (fun a => (z_cX z_cI a.1, a.2) : (Int32 ⊕ Nat) × zM → zO)) (a := a) rfl (Nat.le_of_ble_eq_true rfl) (fun G R => ?_) ha
  unfold f_X11_fillLake
  refine zk_st R 2 2 [some (.inr (12, 0)), some (.inl (.int x1)), none, none, none, none] [.inl (.int x1), .inr (12, 0)] m rfl ⟨trivial, trivial, trivial⟩ ?_
  refine zk_callz R (k + 0) 1 (fun _ => none) rfl (r_X11_requireLake (Nat.le_of_ble_eq_true rfl)) (fun b m' hb => w_X11_requireLake d 0 x1 m _ hb) (fun e m' hb => w_X11_requireLake d 0 x1 m _ hb) (fun _ => rfl) (fun _ _ => rfl) (fun r1 m2 => ?_)
  refine zk_st R 4 13 [some (.inr (12, 0)), some (.inl (.int x1)), none, none, none, none] [.inr (6, 0), .inr (7, 0)] m2 rfl ⟨trivial, (Nat.le_of_ble_eq_true rfl), trivial, (Nat.le_of_ble_eq_true rfl), trivial⟩ ?_
  refine zk_call R (fun _ => none) id rfl (r_X5_remember (Nat.le_of_ble_eq_true rfl)) (fun b hb => w_X5_remember (d + 2) 0 0 (Nat.le_of_ble_eq_true rfl) m2 b hb) (fun r3 => ?_)
  refine zk_st R 4 24 [some (.inr (12, 0)), some (.inl (.int x1)), none, none, none, none] [.inl (.int x1), .inr (30, 0)] r3 rfl ⟨trivial, (Nat.le_of_ble_eq_true rfl), (Nat.le_of_ble_eq_true rfl), trivial, trivial⟩ ?_
  refine zk_call R (fun b => some (.inl (.long b))) (fun _ => r3) rfl (r_X7_at_) (fun b hb => w_X7_at__k30 (d + 4) 0 0 (Nat.le_of_ble_eq_true rfl) x1 r3 b hb) (fun r4 => ?_)
  refine zk_st R 3 32 [some (.inr (12, 0)), some (.inl (.int x1)), some (.inl (.long r4)), none, none, none] [.inr (6, 0)] r3 rfl ⟨trivial, trivial, (Nat.le_of_ble_eq_true rfl), trivial⟩ ?_
  refine zk_call R (fun b => some (.inl (.int b))) (fun _ => r3) rfl (r_X4_size (Nat.le_of_ble_eq_true rfl)) (fun b hb => w_X4_size (d + 4) 0 0 (Nat.le_of_ble_eq_true rfl) r3 b hb) (fun r5 => ?_)
  refine zk_st R 3 40 [some (.inr (12, 0)), some (.inl (.int x1)), some (.inl (.long r4)), none, some (.inl (.int r5)), some (.inl (.int (0 : Int32)))] [] r3 rfl ⟨trivial, trivial, trivial, trivial⟩ ?_
  refine zk_mask R [true, false, true, false, true, true] rfl ?_
  exact w_X11_fillLake_40 d k R zF r4 r5 (0 : Int32) r3
theorem r_X11_carveLake {i : Nat} {t : List zA} (h : i < zN 12) : z_rcv zN (zKD 119) (.inr (12, i) :: t) := by
  rw [show zKD 119 = 12 from rfl]
  exact ⟨rfl, h⟩
noncomputable def f_X11_carveLake (x1 : Int32) (m : zM) : Option ((Int32 ⊕ Nat) × zM) :=
  z_bx (f_X11_requireLake x1 m) (fun r1 m2 =>
  Option.bind (f_X5_remember 0 m2) fun r3 =>
  Option.bind (f_X7_at_ 30 0 x1 r3) fun r4 =>
  Option.bind (f_X4_lowestPlace 0 r4 r3) fun r5 =>
  Option.bind (f_X0_plan 0 r5 r3) fun r6 =>
  Option.bind (f_X0_carve 0 r6) fun r7 =>
  some (.inl r7.1, r7.2)) id
theorem w_X11_carveLake (d k : Nat) (x1 : Int32) (m : zM) (a : (Int32 ⊕ Nat) × zM) (ha : f_X11_carveLake x1 m = some a) : z_Ev z_MT zN zRf (d + 6) (k + 1) 119 [.inr (12, 0), .inl (.int x1)] m ((fun a => (z_cX z_cI a.1, a.2) : (Int32 ⊕ Nat) × zM → zO) a) := by
  refine zk_top (I := (yX11_carveLake, cX11_carveLake, 2, (some .int), [], tX11_carveLake, 12, 1, 12, 0, 0, 0)) (oc := (fun a => (z_cX z_cI a.1, a.2) : (Int32 ⊕ Nat) × zM → zO)) (a := a) rfl (Nat.le_of_ble_eq_true rfl) (fun G R => ?_) ha
  unfold f_X11_carveLake
  refine zk_st R 2 2 [some (.inr (12, 0)), some (.inl (.int x1))] [.inl (.int x1), .inr (12, 0)] m rfl ⟨trivial, trivial, trivial⟩ ?_
  refine zk_callz R (k + 0) 1 (fun _ => none) rfl (r_X11_requireLake (Nat.le_of_ble_eq_true rfl)) (fun b m' hb => w_X11_requireLake d 0 x1 m _ hb) (fun e m' hb => w_X11_requireLake d 0 x1 m _ hb) (fun _ => rfl) (fun _ _ => rfl) (fun r1 m2 => ?_)
  refine zk_st R 4 13 [some (.inr (12, 0)), some (.inl (.int x1))] [.inr (6, 0), .inr (7, 0)] m2 rfl ⟨trivial, (Nat.le_of_ble_eq_true rfl), trivial, (Nat.le_of_ble_eq_true rfl), trivial⟩ ?_
  refine zk_call R (fun _ => none) id rfl (r_X5_remember (Nat.le_of_ble_eq_true rfl)) (fun b hb => w_X5_remember (d + 2) 0 0 (Nat.le_of_ble_eq_true rfl) m2 b hb) (fun r3 => ?_)
  refine zk_st R 10 36 [some (.inr (12, 0)), some (.inl (.int x1))] [.inl (.int x1), .inr (30, 0), .inr (6, 0), .inr (6, 0), .inr (2, 0)] r3 rfl ⟨trivial, (Nat.le_of_ble_eq_true rfl), trivial, (Nat.le_of_ble_eq_true rfl), trivial, (Nat.le_of_ble_eq_true rfl), trivial, (Nat.le_of_ble_eq_true rfl), (Nat.le_of_ble_eq_true rfl), trivial, trivial⟩ ?_
  refine zk_call R (fun b => some (.inl (.long b))) (fun _ => r3) rfl (r_X7_at_) (fun b hb => w_X7_at__k30 (d + 4) 0 0 (Nat.le_of_ble_eq_true rfl) x1 r3 b hb) (fun r4 => ?_)
  refine zk_call R (fun b => some (.inl (.int b))) (fun _ => r3) rfl (r_X4_lowestPlace (Nat.le_of_ble_eq_true rfl)) (fun b hb => w_X4_lowestPlace (d + 2) 0 0 (Nat.le_of_ble_eq_true rfl) r4 r3 b hb) (fun r5 => ?_)
  refine zk_call R (fun _ => none) id rfl (r_X0_plan (Nat.le_of_ble_eq_true rfl)) (fun b hb => w_X0_plan d 0 0 (Nat.le_of_ble_eq_true rfl) r5 r3 b hb) (fun r6 => ?_)
  refine zk_st R 4 53 [some (.inr (12, 0)), some (.inl (.int x1))] [.inr (6, 0), .inr (2, 0)] r6 rfl ⟨trivial, (Nat.le_of_ble_eq_true rfl), trivial, (Nat.le_of_ble_eq_true rfl), trivial⟩ ?_
  refine zk_call R (fun b => some (.inl (.int b.1))) (fun b => b.2) rfl (r_X0_carve (Nat.le_of_ble_eq_true rfl)) (fun b hb => w_X0_carve (d + 3) 0 0 (Nat.le_of_ble_eq_true rfl) r6 b hb) (fun r7 => ?_)
  exact zk_ret R rfl trivial rfl
theorem r_X11_carveWay {i : Nat} {t : List zA} (h : i < zN 12) : z_rcv zN (zKD 120) (.inr (12, i) :: t) := by
  rw [show zKD 120 = 12 from rfl]
  exact ⟨rfl, h⟩
noncomputable def f_X11_carveWay (x1 : Int32) (x2 : Int32) (m : zM) : Option ((Int32 ⊕ Nat) × zM) :=
  z_bx (f_X11_requireCell x1 m) (fun r1 m2 =>
  Option.bind (f_X0_plan 0 x1 m2) fun r3 =>
  if x2 < 0 then
    some (.inr 3, r3)
  else
    if x2 < (r3.1 2 0 3) then
      Option.bind (f_X7_at 20 58 x2 r3) fun r6 =>
      some (.inl r6, r3)
    else
      some (.inr 3, r3)) id
theorem w_X11_carveWay (d k : Nat) (x1 : Int32) (x2 : Int32) (m : zM) (a : (Int32 ⊕ Nat) × zM) (ha : f_X11_carveWay x1 x2 m = some a) : z_Ev z_MT zN zRf (d + 6) (k + 2) 120 [.inr (12, 0), .inl (.int x1), .inl (.int x2)] m ((fun a => (z_cX z_cI a.1, a.2) : (Int32 ⊕ Nat) × zM → zO) a) := by
  refine zk_top (I := (yX11_carveWay, cX11_carveWay, 3, (some .int), [], tX11_carveWay, 12, 2, 12, 0, 0, 0)) (oc := (fun a => (z_cX z_cI a.1, a.2) : (Int32 ⊕ Nat) × zM → zO)) (a := a) rfl (Nat.le_of_ble_eq_true rfl) (fun G R => ?_) ha
  unfold f_X11_carveWay
  refine zk_st R 2 2 [some (.inr (12, 0)), some (.inl (.int x1)), some (.inl (.int x2))] [.inl (.int x1), .inr (12, 0)] m rfl ⟨trivial, trivial, trivial⟩ ?_
  refine zk_callz R (k + 1) 1 (fun _ => none) rfl (r_X11_requireCell (Nat.le_of_ble_eq_true rfl)) (fun b m' hb => w_X11_requireCell (d + 3) 0 x1 m _ hb) (fun e m' hb => w_X11_requireCell (d + 3) 0 x1 m _ hb) (fun _ => rfl) (fun _ _ => rfl) (fun r1 m2 => ?_)
  refine zk_st R 5 14 [some (.inr (12, 0)), some (.inl (.int x1)), some (.inl (.int x2))] [.inl (.int x1), .inr (6, 0), .inr (2, 0)] m2 rfl ⟨trivial, (Nat.le_of_ble_eq_true rfl), trivial, (Nat.le_of_ble_eq_true rfl), trivial, trivial⟩ ?_
  refine zk_call R (fun _ => none) id rfl (r_X0_plan (Nat.le_of_ble_eq_true rfl)) (fun b hb => w_X0_plan d 0 0 (Nat.le_of_ble_eq_true rfl) x1 m2 b hb) (fun r3 => ?_)
  refine zk_st R 1 18 [some (.inr (12, 0)), some (.inl (.int x1)), some (.inl (.int x2))] [.inl (.int x2)] r3 rfl ⟨trivial, trivial⟩ ?_
  refine zk_br R rfl (fun _ => ?_) (fun _ => ?_)
  · exact zk_thr R (k := k + 0) rfl rfl
  · refine zk_st R 4 29 [some (.inr (12, 0)), some (.inl (.int x1)), some (.inl (.int x2))] [.inl (.int (r3.1 2 0 3)), .inl (.int x2)] r3 rfl ⟨trivial, trivial, (Nat.le_of_ble_eq_true rfl), (Nat.le_of_ble_eq_true rfl), trivial⟩ ?_
    refine zk_br R rfl (fun _ => ?_) (fun _ => ?_)
    · refine zk_st R 4 51 [some (.inr (12, 0)), some (.inl (.int x1)), some (.inl (.int x2))] [.inl (.int x2), .inr (20, 58)] r3 rfl ⟨trivial, (Nat.le_of_ble_eq_true rfl), (Nat.le_of_ble_eq_true rfl), trivial, trivial⟩ ?_
      refine zk_call R (fun b => some (.inl (.int b))) (fun _ => r3) rfl (r_X7_at) (fun b hb => w_X7_at_k20 (d + 4) 0 58 (Nat.le_of_ble_eq_true rfl) x2 r3 b hb) (fun r6 => ?_)
      exact zk_ret R rfl trivial rfl
    · exact zk_thr R (k := k + 0) rfl rfl
theorem r_X11_surveyFlows {i : Nat} {t : List zA} (h : i < zN 12) : z_rcv zN (zKD 154) (.inr (12, i) :: t) := by
  rw [show zKD 154 = 12 from rfl]
  exact ⟨rfl, h⟩
noncomputable def f_X11_surveyFlows (g1 : Nat) (m : zM) : Option (zM) :=
  Option.bind (f_X2_fill g1 m) fun r1 =>
  Option.bind (f_X3_trace g1 r1) fun r2 =>
  some r2
theorem w_X11_surveyFlows (d k : Nat) (g1 : Nat) (hg1 : g1 < zN 6) (m : zM) (a : zM) (ha : f_X11_surveyFlows g1 m = some a) : z_Ev z_MT zN zRf (d + 6) (k + 0) 154 [.inr (12, 0), .inr (6, g1)] m ((fun a => (.inl none, a) : zM → zO) a) := by
  refine zk_top (I := (yX11_surveyFlows, cX11_surveyFlows, 2, none, [], tX11_surveyFlows, 12, 1, 12, 0, 0, 0)) (oc := (fun a => (.inl none, a) : zM → zO)) (a := a) rfl (Nat.le_of_ble_eq_true rfl) (fun G R => ?_) ha
  unfold f_X11_surveyFlows
  refine zk_st R 3 5 [some (.inr (12, 0)), some (.inr (6, g1))] [.inr (6, g1), .inr (4, 0)] m rfl ⟨trivial, (Nat.le_of_ble_eq_true rfl), trivial, trivial⟩ ?_
  refine zk_call R (fun _ => none) id rfl (r_X2_fill (Nat.le_of_ble_eq_true rfl)) (fun b hb => w_X2_fill (d + 1) 0 g1 hg1 m b hb) (fun r1 => ?_)
  refine zk_st R 5 17 [some (.inr (12, 0)), some (.inr (6, g1))] [.inr (4, 0), .inr (6, g1), .inr (5, 0)] r1 rfl ⟨trivial, (Nat.le_of_ble_eq_true rfl), trivial, trivial, (Nat.le_of_ble_eq_true rfl), trivial⟩ ?_
  refine zk_call R (fun _ => none) id rfl (r_X3_trace (Nat.le_of_ble_eq_true rfl)) (fun b hb => w_X3_trace d 0 g1 hg1 r1 b hb) (fun r2 => ?_)
  exact zk_ret R rfl trivial rfl
theorem r_X11_surveyWaters {i : Nat} {t : List zA} (h : i < zN 12) : z_rcv zN (zKD 155) (.inr (12, i) :: t) := by
  rw [show zKD 155 = 12 from rfl]
  exact ⟨rfl, h⟩
noncomputable def f_X11_surveyWaters (g1 : Nat) (m : zM) : Option (zM) :=
  Option.bind (f_X2_fill g1 m) fun r1 =>
  Option.bind (f_X3_trace g1 r1) fun r2 =>
  Option.bind (f_X10_run g1 r2) fun r3 =>
  some r3
theorem w_X11_surveyWaters (d k : Nat) (g1 : Nat) (hg1 : g1 < zN 6) (m : zM) (a : zM) (ha : f_X11_surveyWaters g1 m = some a) : z_Ev z_MT zN zRf (d + 6) (k + 0) 155 [.inr (12, 0), .inr (6, g1)] m ((fun a => (.inl none, a) : zM → zO) a) := by
  refine zk_top (I := (yX11_surveyWaters, cX11_surveyWaters, 2, none, [], tX11_surveyWaters, 12, 1, 12, 0, 0, 0)) (oc := (fun a => (.inl none, a) : zM → zO)) (a := a) rfl (Nat.le_of_ble_eq_true rfl) (fun G R => ?_) ha
  unfold f_X11_surveyWaters
  refine zk_st R 3 5 [some (.inr (12, 0)), some (.inr (6, g1))] [.inr (6, g1), .inr (4, 0)] m rfl ⟨trivial, (Nat.le_of_ble_eq_true rfl), trivial, trivial⟩ ?_
  refine zk_call R (fun _ => none) id rfl (r_X2_fill (Nat.le_of_ble_eq_true rfl)) (fun b hb => w_X2_fill (d + 1) 0 g1 hg1 m b hb) (fun r1 => ?_)
  refine zk_st R 5 17 [some (.inr (12, 0)), some (.inr (6, g1))] [.inr (4, 0), .inr (6, g1), .inr (5, 0)] r1 rfl ⟨trivial, (Nat.le_of_ble_eq_true rfl), trivial, trivial, (Nat.le_of_ble_eq_true rfl), trivial⟩ ?_
  refine zk_call R (fun _ => none) id rfl (r_X3_trace (Nat.le_of_ble_eq_true rfl)) (fun b hb => w_X3_trace d 0 g1 hg1 r1 b hb) (fun r2 => ?_)
  refine zk_st R 5 29 [some (.inr (12, 0)), some (.inr (6, g1))] [.inr (5, 0), .inr (6, g1), .inr (11, 0)] r2 rfl ⟨trivial, (Nat.le_of_ble_eq_true rfl), trivial, trivial, (Nat.le_of_ble_eq_true rfl), trivial⟩ ?_
  refine zk_call R (fun _ => none) id rfl (r_X10_run (Nat.le_of_ble_eq_true rfl)) (fun b hb => w_X10_run (d + 3) 0 g1 hg1 r2 b hb) (fun r3 => ?_)
  exact zk_ret R rfl trivial rfl
theorem r_X11_surveyStreams {i : Nat} {t : List zA} (h : i < zN 12) : z_rcv zN (zKD 156) (.inr (12, i) :: t) := by
  rw [show zKD 156 = 12 from rfl]
  exact ⟨rfl, h⟩
noncomputable def f_X11_surveyStreams (m : zM) : Option (zM) :=
  Option.bind (f_X2_fill 0 m) fun r1 =>
  Option.bind (f_X3_trace 0 r1) fun r2 =>
  Option.bind (f_X10_run 0 r2) fun r3 =>
  Option.bind (f_X8_find 0 r3) fun r4 =>
  some r4
theorem w_X11_surveyStreams (d k : Nat) (m : zM) (a : zM) (ha : f_X11_surveyStreams m = some a) : z_Ev z_MT zN zRf (d + 6) (k + 0) 156 [.inr (12, 0)] m ((fun a => (.inl none, a) : zM → zO) a) := by
  refine zk_top (I := (yX11_surveyStreams, cX11_surveyStreams, 1, none, [], tX11_surveyStreams, 12, 0, 12, 0, 0, 0)) (oc := (fun a => (.inl none, a) : zM → zO)) (a := a) rfl (Nat.le_of_ble_eq_true rfl) (fun G R => ?_) ha
  unfold f_X11_surveyStreams
  refine zk_st R 4 8 [some (.inr (12, 0))] [.inr (6, 0), .inr (4, 0)] m rfl ⟨trivial, (Nat.le_of_ble_eq_true rfl), trivial, (Nat.le_of_ble_eq_true rfl), trivial⟩ ?_
  refine zk_call R (fun _ => none) id rfl (r_X2_fill (Nat.le_of_ble_eq_true rfl)) (fun b hb => w_X2_fill (d + 1) 0 0 (Nat.le_of_ble_eq_true rfl) m b hb) (fun r1 => ?_)
  refine zk_st R 6 23 [some (.inr (12, 0))] [.inr (4, 0), .inr (6, 0), .inr (5, 0)] r1 rfl ⟨trivial, (Nat.le_of_ble_eq_true rfl), trivial, (Nat.le_of_ble_eq_true rfl), trivial, (Nat.le_of_ble_eq_true rfl), trivial⟩ ?_
  refine zk_call R (fun _ => none) id rfl (r_X3_trace (Nat.le_of_ble_eq_true rfl)) (fun b hb => w_X3_trace d 0 0 (Nat.le_of_ble_eq_true rfl) r1 b hb) (fun r2 => ?_)
  refine zk_st R 6 38 [some (.inr (12, 0))] [.inr (5, 0), .inr (6, 0), .inr (11, 0)] r2 rfl ⟨trivial, (Nat.le_of_ble_eq_true rfl), trivial, (Nat.le_of_ble_eq_true rfl), trivial, (Nat.le_of_ble_eq_true rfl), trivial⟩ ?_
  refine zk_call R (fun _ => none) id rfl (r_X10_run (Nat.le_of_ble_eq_true rfl)) (fun b hb => w_X10_run (d + 3) 0 0 (Nat.le_of_ble_eq_true rfl) r2 b hb) (fun r3 => ?_)
  refine zk_st R 8 57 [some (.inr (12, 0))] [.inr (11, 0), .inr (5, 0), .inr (6, 0), .inr (9, 0)] r3 rfl ⟨trivial, (Nat.le_of_ble_eq_true rfl), trivial, (Nat.le_of_ble_eq_true rfl), trivial, (Nat.le_of_ble_eq_true rfl), trivial, (Nat.le_of_ble_eq_true rfl), trivial⟩ ?_
  refine zk_call R (fun _ => none) id rfl (r_X8_find (Nat.le_of_ble_eq_true rfl)) (fun b hb => w_X8_find (d + 1) 0 0 (Nat.le_of_ble_eq_true rfl) r3 b hb) (fun r4 => ?_)
  exact zk_ret R rfl trivial rfl
theorem r_X12_count {i : Nat} {t : List zA} (h : i < zN 13) : z_rcv zN (zKD 197) (.inr (13, i) :: t) := by
  rw [show zKD 197 = 13 from rfl]
  exact ⟨rfl, h⟩
noncomputable def f_X12_count_109 : Nat → Int32 → Int32 → zM → Option (Int32 × zM)
  | 0, _, _, _ => none
  | j + 1, x2, x3, m =>
    Option.bind (f_X12_cells m) fun r1 =>
    if r1 ≤ x3 then
      some (x2, m)
    else
      Option.bind (f_X12_isStream x3 m) fun r3 =>
      if (z_bi r3) = 0 then
        f_X12_count_109 j x2 (x3 + (1 : Int32)) m
      else
        f_X12_count_109 j (x2 + (1 : Int32)) (x3 + (1 : Int32)) m
noncomputable def f_X12_count_160 : Nat → Int32 → Int32 → zM → Option (Int32 × zM)
  | 0, _, _, _ => none
  | j + 1, x2, x3, m =>
    Option.bind (f_X12_cells m) fun r1 =>
    if r1 ≤ x3 then
      some (x2, m)
    else
      z_gd (z_inb x3 (z_alen 20)) <| if (m.1 20 60 (Int32.toNatClampNeg x3)) ≤ 0 then
        f_X12_count_160 j x2 (x3 + (1 : Int32)) m
      else
        f_X12_count_160 j (x2 + (1 : Int32)) (x3 + (1 : Int32)) m
noncomputable def f_X12_count (x1 : Int32) (m : zM) : Option (Int32 × zM) :=
  if x1 = (0 : Int32) then
    z_gd (z_inb (0 : Int32) (z_alen 23)) <| some (((z_sI m 13 0 0 (0 : Int32)).1 23 0 (Int32.toNatClampNeg (0 : Int32))), (z_sI m 13 0 0 (0 : Int32)))
  else if x1 = (1 : Int32) then
    z_gd (z_inb (1 : Int32) (z_alen 23)) <| some (((z_sI m 13 0 0 (0 : Int32)).1 23 0 (Int32.toNatClampNeg (1 : Int32))), (z_sI m 13 0 0 (0 : Int32)))
  else if x1 = (2 : Int32) then
    Option.bind (f_X12_outlets (z_sI m 13 0 0 (0 : Int32))) fun r6 =>
    some (r6, (z_sI m 13 0 0 (0 : Int32)))
  else if x1 = (3 : Int32) then
    z_gd (z_inb (2 : Int32) (z_alen 23)) <| some (((z_sI m 13 0 0 (0 : Int32)).1 23 0 (Int32.toNatClampNeg (2 : Int32))), (z_sI m 13 0 0 (0 : Int32)))
  else if x1 = (4 : Int32) then
    Option.bind (f_X12_lakes (z_sI m 13 0 0 (0 : Int32))) fun r10 =>
    some ((r10.1 13 0 18), r10)
  else if x1 = (5 : Int32) then
    Option.bind (f_X12_waters (z_sI m 13 0 0 (0 : Int32))) fun r12 =>
    f_X12_count_109 zF (0 : Int32) (0 : Int32) r12
  else if x1 = (6 : Int32) then
    Option.bind (f_X12_streams (z_sI m 13 0 0 (0 : Int32))) fun r14 =>
    some ((r14.1 13 0 18), r14)
  else if x1 = (7 : Int32) then
    Option.bind (f_X12_depressions (z_sI m 13 0 0 (0 : Int32))) fun r16 =>
    some ((r16.1 13 0 21), r16)
  else if x1 = (8 : Int32) then
    Option.bind (f_X12_looks (z_sI m 13 0 0 (0 : Int32))) fun r18 =>
    f_X12_count_160 zF (0 : Int32) (0 : Int32) r18
  else if x1 = (9 : Int32) then
    some (((z_sI m 13 0 0 (0 : Int32)).1 13 0 8), (z_sI m 13 0 0 (0 : Int32)))
  else if x1 = (10 : Int32) then
    some (((z_sI m 13 0 0 (0 : Int32)).1 13 0 3), (z_sI m 13 0 0 (0 : Int32)))
  else
    Option.bind (f_X12_raises (1 : Int32) (z_sI m 13 0 0 (0 : Int32))) fun r21 =>
    some (r21.1, r21.2)
theorem w_X12_count_109 (d k : Nat) {o : zO} {G : Nat → Nat → zL → List zA → zM → Prop} (R : zRu (d + 5) tX12_count 0 (z_hf []) o G) : ∀ (j : Nat) (x2 : Int32) (x3 : Int32) (m : zM), zLK G (fun a => (z_cI a.1, a.2) : Int32 × zM → zO) o (f_X12_count_109 j x2 x3 m) some (k + 0) 109 [some (.inr (13, 0)), none, some (.inl (.int x2)), some (.inl (.int x3))] [] m := by
  intro j
  induction j with
  | zero =>
    intro _ _ _
    exact zk_none
  | succ j ih =>
    intro x2 x3 m
    unfold f_X12_count_109
    refine zk_st R 2 111 [some (.inr (13, 0)), none, some (.inl (.int x2)), some (.inl (.int x3))] [.inr (13, 0), .inl (.int x3)] m rfl ⟨trivial, trivial, trivial⟩ ?_
    refine zk_call R (fun b => some (.inl (.int b))) (fun _ => m) rfl (r_X12_cells (Nat.le_of_ble_eq_true rfl)) (fun b hb => w_X12_cells (d + 4) 0 m b hb) (fun r1 => ?_)
    refine zk_br R rfl (fun _ => ?_) (fun _ => ?_)
    · refine zk_st R 1 135 [some (.inr (13, 0)), none, some (.inl (.int x2)), some (.inl (.int x3))] [.inl (.int x2)] m rfl ⟨trivial, trivial⟩ ?_
      exact zk_ret R rfl trivial rfl
    · refine zk_st R 2 119 [some (.inr (13, 0)), none, some (.inl (.int x2)), some (.inl (.int x3))] [.inl (.int x3), .inr (13, 0)] m rfl ⟨trivial, trivial, trivial⟩ ?_
      refine zk_call R (fun b => some (.inl (.int (z_bi b)))) (fun _ => m) rfl (r_X12_isStream (Nat.le_of_ble_eq_true rfl)) (fun b hb => w_X12_isStream (d + 4) 0 x3 m b hb) (fun r3 => ?_)
      refine zk_br R rfl (fun _ => ?_) (fun _ => ?_)
      · refine zk_st R 2 109 [some (.inr (13, 0)), none, some (.inl (.int x2)), some (.inl (.int (x3 + (1 : Int32))))] [] m rfl ⟨trivial, trivial, trivial⟩ ?_
        refine zk_mask R [true, false, true, true] rfl ?_
        exact ih x2 (x3 + (1 : Int32)) m
      · refine zk_st R 3 109 [some (.inr (13, 0)), none, some (.inl (.int (x2 + (1 : Int32)))), some (.inl (.int (x3 + (1 : Int32))))] [] m rfl ⟨trivial, trivial, trivial, trivial⟩ ?_
        refine zk_mask R [true, false, true, true] rfl ?_
        exact ih (x2 + (1 : Int32)) (x3 + (1 : Int32)) m
theorem w_X12_count_160 (d k : Nat) {o : zO} {G : Nat → Nat → zL → List zA → zM → Prop} (R : zRu (d + 5) tX12_count 0 (z_hf []) o G) : ∀ (j : Nat) (x2 : Int32) (x3 : Int32) (m : zM), zLK G (fun a => (z_cI a.1, a.2) : Int32 × zM → zO) o (f_X12_count_160 j x2 x3 m) some (k + 0) 160 [some (.inr (13, 0)), none, some (.inl (.int x2)), some (.inl (.int x3))] [] m := by
  intro j
  induction j with
  | zero =>
    intro _ _ _
    exact zk_none
  | succ j ih =>
    intro x2 x3 m
    unfold f_X12_count_160
    refine zk_st R 2 162 [some (.inr (13, 0)), none, some (.inl (.int x2)), some (.inl (.int x3))] [.inr (13, 0), .inl (.int x3)] m rfl ⟨trivial, trivial, trivial⟩ ?_
    refine zk_call R (fun b => some (.inl (.int b))) (fun _ => m) rfl (r_X12_cells (Nat.le_of_ble_eq_true rfl)) (fun b hb => w_X12_cells (d + 4) 0 m b hb) (fun r1 => ?_)
    refine zk_br R rfl (fun _ => ?_) (fun _ => ?_)
    · refine zk_st R 1 187 [some (.inr (13, 0)), none, some (.inl (.int x2)), some (.inl (.int x3))] [.inl (.int x2)] m rfl ⟨trivial, trivial⟩ ?_
      exact zk_ret R rfl trivial rfl
    · refine zk_gd fun e3 => ?_
      refine zk_st R 4 174 [some (.inr (13, 0)), none, some (.inl (.int x2)), some (.inl (.int x3))] [.inl (.int (m.1 20 60 (Int32.toNatClampNeg x3)))] m rfl ⟨trivial, (Nat.le_of_ble_eq_true rfl), trivial, ⟨(Nat.le_of_ble_eq_true rfl), z_inb_in e3⟩, trivial⟩ ?_
      refine zk_br R rfl (fun _ => ?_) (fun _ => ?_)
      · refine zk_st R 2 160 [some (.inr (13, 0)), none, some (.inl (.int x2)), some (.inl (.int (x3 + (1 : Int32))))] [] m rfl ⟨trivial, trivial, trivial⟩ ?_
        refine zk_mask R [true, false, true, true] rfl ?_
        exact ih x2 (x3 + (1 : Int32)) m
      · refine zk_st R 3 160 [some (.inr (13, 0)), none, some (.inl (.int (x2 + (1 : Int32)))), some (.inl (.int (x3 + (1 : Int32))))] [] m rfl ⟨trivial, trivial, trivial, trivial⟩ ?_
        refine zk_mask R [true, false, true, true] rfl ?_
        exact ih (x2 + (1 : Int32)) (x3 + (1 : Int32)) m
theorem w_X12_count (d k : Nat) (x1 : Int32) (m : zM) (a : Int32 × zM) (ha : f_X12_count x1 m = some a) : z_Ev z_MT zN zRf (d + 6) (k + 0) 197 [.inr (13, 0), .inl (.int x1)] m ((fun a => (z_cI a.1, a.2) : Int32 × zM → zO) a) := by
  refine zk_top (I := (yX12_count, cX12_count, 4, (some .int), [], tX12_count, 13, 1, 13, 0, 0, 0)) (oc := (fun a => (z_cI a.1, a.2) : Int32 × zM → zO)) (a := a) rfl (Nat.le_of_ble_eq_true rfl) (fun G R => ?_) ha
  unfold f_X12_count
  refine zk_st R 6 8 [some (.inr (13, 0)), some (.inl (.int x1)), some (.inl (.int (0 : Int32))), none] [.inl (.int x1)] (z_sI m 13 0 0 (0 : Int32)) rfl ⟨trivial, trivial, (Nat.le_of_ble_eq_true rfl), trivial, trivial, trivial, trivial⟩ ?_
  refine zk_if (fun e1 => ?_) (fun e1 => ?_)
  · refine zk_tsw R rfl (z_swv e1 (by decide +kernel : _ = 68)) ?_
    refine zk_gd fun e2 => ?_
    refine zk_st R 4 74 [some (.inr (13, 0)), some (.inl (.int x1)), some (.inl (.int (0 : Int32))), none] [.inl (.int ((z_sI m 13 0 0 (0 : Int32)).1 23 0 (Int32.toNatClampNeg (0 : Int32))))] (z_sI m 13 0 0 (0 : Int32)) rfl ⟨trivial, (Nat.le_of_ble_eq_true rfl), trivial, ⟨(Nat.le_of_ble_eq_true rfl), z_inb_in e2⟩, trivial⟩ ?_
    exact zk_ret R rfl trivial rfl
  refine zk_if (fun e3 => ?_) (fun e3 => ?_)
  · refine zk_tsw R rfl (z_swv e3 (by decide +kernel : _ = 75)) ?_
    refine zk_gd fun e4 => ?_
    refine zk_st R 4 81 [some (.inr (13, 0)), some (.inl (.int x1)), some (.inl (.int (0 : Int32))), none] [.inl (.int ((z_sI m 13 0 0 (0 : Int32)).1 23 0 (Int32.toNatClampNeg (1 : Int32))))] (z_sI m 13 0 0 (0 : Int32)) rfl ⟨trivial, (Nat.le_of_ble_eq_true rfl), trivial, ⟨(Nat.le_of_ble_eq_true rfl), z_inb_in e4⟩, trivial⟩ ?_
    exact zk_ret R rfl trivial rfl
  refine zk_if (fun e5 => ?_) (fun e5 => ?_)
  · refine zk_tsw R rfl (z_swv e5 (by decide +kernel : _ = 82)) ?_
    refine zk_st R 1 83 [some (.inr (13, 0)), some (.inl (.int x1)), some (.inl (.int (0 : Int32))), none] [.inr (13, 0)] (z_sI m 13 0 0 (0 : Int32)) rfl ⟨trivial, trivial⟩ ?_
    refine zk_call R (fun b => some (.inl (.int b))) (fun _ => (z_sI m 13 0 0 (0 : Int32))) rfl (r_X12_outlets (Nat.le_of_ble_eq_true rfl)) (fun b hb => w_X12_outlets (d + 3) 0 (z_sI m 13 0 0 (0 : Int32)) b hb) (fun r6 => ?_)
    exact zk_ret R rfl trivial rfl
  refine zk_if (fun e7 => ?_) (fun e7 => ?_)
  · refine zk_tsw R rfl (z_swv e7 (by decide +kernel : _ = 87)) ?_
    refine zk_gd fun e8 => ?_
    refine zk_st R 4 93 [some (.inr (13, 0)), some (.inl (.int x1)), some (.inl (.int (0 : Int32))), none] [.inl (.int ((z_sI m 13 0 0 (0 : Int32)).1 23 0 (Int32.toNatClampNeg (2 : Int32))))] (z_sI m 13 0 0 (0 : Int32)) rfl ⟨trivial, (Nat.le_of_ble_eq_true rfl), trivial, ⟨(Nat.le_of_ble_eq_true rfl), z_inb_in e8⟩, trivial⟩ ?_
    exact zk_ret R rfl trivial rfl
  refine zk_if (fun e9 => ?_) (fun e9 => ?_)
  · refine zk_tsw R rfl (z_swv e9 (by decide +kernel : _ = 94)) ?_
    refine zk_st R 1 95 [some (.inr (13, 0)), some (.inl (.int x1)), some (.inl (.int (0 : Int32))), none] [.inr (13, 0)] (z_sI m 13 0 0 (0 : Int32)) rfl ⟨trivial, trivial⟩ ?_
    refine zk_call R (fun _ => none) id rfl (r_X12_lakes (Nat.le_of_ble_eq_true rfl)) (fun b hb => w_X12_lakes (d + 1) 0 (z_sI m 13 0 0 (0 : Int32)) b hb) (fun r10 => ?_)
    refine zk_st R 2 102 [some (.inr (13, 0)), some (.inl (.int x1)), some (.inl (.int (0 : Int32))), none] [.inl (.int (r10.1 13 0 18))] r10 rfl ⟨trivial, (Nat.le_of_ble_eq_true rfl), trivial⟩ ?_
    exact zk_ret R rfl trivial rfl
  refine zk_if (fun e11 => ?_) (fun e11 => ?_)
  · refine zk_tsw R rfl (z_swv e11 (by decide +kernel : _ = 103)) ?_
    refine zk_st R 1 104 [some (.inr (13, 0)), some (.inl (.int x1)), some (.inl (.int (0 : Int32))), none] [.inr (13, 0)] (z_sI m 13 0 0 (0 : Int32)) rfl ⟨trivial, trivial⟩ ?_
    refine zk_call R (fun _ => none) id rfl (r_X12_waters (Nat.le_of_ble_eq_true rfl)) (fun b hb => w_X12_waters (d + 1) 0 (z_sI m 13 0 0 (0 : Int32)) b hb) (fun r12 => ?_)
    refine zk_st R 2 109 [some (.inr (13, 0)), some (.inl (.int x1)), some (.inl (.int (0 : Int32))), some (.inl (.int (0 : Int32)))] [] r12 rfl ⟨trivial, trivial, trivial⟩ ?_
    refine zk_mask R [true, false, true, true] rfl ?_
    exact w_X12_count_109 d k R zF (0 : Int32) (0 : Int32) r12
  refine zk_if (fun e13 => ?_) (fun e13 => ?_)
  · refine zk_tsw R rfl (z_swv e13 (by decide +kernel : _ = 136)) ?_
    refine zk_st R 1 137 [some (.inr (13, 0)), some (.inl (.int x1)), some (.inl (.int (0 : Int32))), none] [.inr (13, 0)] (z_sI m 13 0 0 (0 : Int32)) rfl ⟨trivial, trivial⟩ ?_
    refine zk_call R (fun _ => none) id rfl (r_X12_streams (Nat.le_of_ble_eq_true rfl)) (fun b hb => w_X12_streams d 0 (z_sI m 13 0 0 (0 : Int32)) b hb) (fun r14 => ?_)
    refine zk_st R 2 144 [some (.inr (13, 0)), some (.inl (.int x1)), some (.inl (.int (0 : Int32))), none] [.inl (.int (r14.1 13 0 18))] r14 rfl ⟨trivial, (Nat.le_of_ble_eq_true rfl), trivial⟩ ?_
    exact zk_ret R rfl trivial rfl
  refine zk_if (fun e15 => ?_) (fun e15 => ?_)
  · refine zk_tsw R rfl (z_swv e15 (by decide +kernel : _ = 145)) ?_
    refine zk_st R 1 146 [some (.inr (13, 0)), some (.inl (.int x1)), some (.inl (.int (0 : Int32))), none] [.inr (13, 0)] (z_sI m 13 0 0 (0 : Int32)) rfl ⟨trivial, trivial⟩ ?_
    refine zk_call R (fun _ => none) id rfl (r_X12_depressions (Nat.le_of_ble_eq_true rfl)) (fun b hb => w_X12_depressions (d + 2) 0 (z_sI m 13 0 0 (0 : Int32)) b hb) (fun r16 => ?_)
    refine zk_st R 2 153 [some (.inr (13, 0)), some (.inl (.int x1)), some (.inl (.int (0 : Int32))), none] [.inl (.int (r16.1 13 0 21))] r16 rfl ⟨trivial, (Nat.le_of_ble_eq_true rfl), trivial⟩ ?_
    exact zk_ret R rfl trivial rfl
  refine zk_if (fun e17 => ?_) (fun e17 => ?_)
  · refine zk_tsw R rfl (z_swv e17 (by decide +kernel : _ = 154)) ?_
    refine zk_st R 1 155 [some (.inr (13, 0)), some (.inl (.int x1)), some (.inl (.int (0 : Int32))), none] [.inr (13, 0)] (z_sI m 13 0 0 (0 : Int32)) rfl ⟨trivial, trivial⟩ ?_
    refine zk_call R (fun _ => none) id rfl (r_X12_looks (Nat.le_of_ble_eq_true rfl)) (fun b hb => w_X12_looks (d + 2) 0 (z_sI m 13 0 0 (0 : Int32)) b hb) (fun r18 => ?_)
    refine zk_st R 2 160 [some (.inr (13, 0)), some (.inl (.int x1)), some (.inl (.int (0 : Int32))), some (.inl (.int (0 : Int32)))] [] r18 rfl ⟨trivial, trivial, trivial⟩ ?_
    refine zk_mask R [true, false, true, true] rfl ?_
    exact w_X12_count_160 d k R zF (0 : Int32) (0 : Int32) r18
  refine zk_if (fun e19 => ?_) (fun e19 => ?_)
  · refine zk_tsw R rfl (z_swv e19 (by decide +kernel : _ = 188)) ?_
    refine zk_st R 2 192 [some (.inr (13, 0)), some (.inl (.int x1)), some (.inl (.int (0 : Int32))), none] [.inl (.int ((z_sI m 13 0 0 (0 : Int32)).1 13 0 8))] (z_sI m 13 0 0 (0 : Int32)) rfl ⟨trivial, (Nat.le_of_ble_eq_true rfl), trivial⟩ ?_
    exact zk_ret R rfl trivial rfl
  refine zk_if (fun e20 => ?_) (fun e20 => ?_)
  · refine zk_tsw R rfl (z_swv e20 (by decide +kernel : _ = 193)) ?_
    refine zk_st R 2 197 [some (.inr (13, 0)), some (.inl (.int x1)), some (.inl (.int (0 : Int32))), none] [.inl (.int ((z_sI m 13 0 0 (0 : Int32)).1 13 0 3))] (z_sI m 13 0 0 (0 : Int32)) rfl ⟨trivial, (Nat.le_of_ble_eq_true rfl), trivial⟩ ?_
    exact zk_ret R rfl trivial rfl
  refine zk_tsw R rfl (z_swd 11 (by decide) (fun i hi => ?_) (by decide : _ = 198)) ?_
  · have hi' : i = 0 ∨ i = 1 ∨ i = 2 ∨ i = 3 ∨ i = 4 ∨ i = 5 ∨ i = 6 ∨ i = 7 ∨ i = 8 ∨ i = 9 ∨ i = 10 := by omega
    rcases hi' with rfl | rfl | rfl | rfl | rfl | rfl | rfl | rfl | rfl | rfl | rfl
    · exact e1
    · exact e3
    · exact e5
    · exact e7
    · exact e9
    · exact e11
    · exact e13
    · exact e15
    · exact e17
    · exact e19
    · exact e20
  · refine zk_st R 2 200 [some (.inr (13, 0)), some (.inl (.int x1)), some (.inl (.int (0 : Int32))), none] [.inl (.int (1 : Int32)), .inr (13, 0)] (z_sI m 13 0 0 (0 : Int32)) rfl ⟨trivial, trivial, trivial⟩ ?_
    refine zk_call R (fun b => some (.inl (.int b.1))) (fun b => b.2) rfl (r_X12_raises (Nat.le_of_ble_eq_true rfl)) (fun b hb => w_X12_raises (d + 4) 0 (1 : Int32) (z_sI m 13 0 0 (0 : Int32)) b hb) (fun r21 => ?_)
    exact zk_ret R rfl trivial rfl
