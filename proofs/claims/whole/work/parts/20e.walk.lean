theorem r_X9_carryOutCommand {i : Nat} {t : List zA} (h : i < zN 10) : z_rcv zN (zKD 94) (.inr (10, i) :: t) := by
  rw [show zKD 94 = 10 from rfl]
  exact ⟨rfl, h⟩
noncomputable def f_X9_carryOutCommand_112 (g1 : Nat) (s1 : Int32) (s2 : Int32) (m : zM) : Option (zM) :=
  Option.bind (f_X4_markOutlet g1 s1 s2 m) fun r1 =>
  some r1
noncomputable def f_X9_carryOutCommand (g1 : Nat) (m : zM) : Option (zM) :=
  if (m.1 10 0 4) = (104 : Int32) then
    Option.bind (f_X7_put 20 (3 * g1) (m.1 10 0 5) (m.1 10 0 6) m) fun r2 =>
    some r2
  else if (m.1 10 0 4) = (114 : Int32) then
    Option.bind (f_X7_put 20 (3 * g1 + 1) (m.1 10 0 5) (m.1 10 0 6) m) fun r4 =>
    some r4
  else if (m.1 10 0 4) = (115 : Int32) then
    Option.bind (f_X7_put 20 (3 * g1 + 2) (m.1 10 0 5) (m.1 10 0 6) m) fun r6 =>
    some r6
  else
    if (m.1 10 0 6) = (1 : Int32) then
      f_X9_carryOutCommand_112 g1 (m.1 10 0 5) (1 : Int32) m
    else
      f_X9_carryOutCommand_112 g1 (m.1 10 0 5) (0 : Int32) m
theorem w_X9_carryOutCommand_112 (d k : Nat) {o : zO} {G : Nat → Nat → zL → List zA → zM → Prop} (g1 : Nat) (hg1 : g1 < zN 6) (R : zRu (d + 1) tX9_carryOutCommand 0 (z_hf []) o G) (s1 : Int32) (s2 : Int32) (m : zM) : zLK G (fun a => (.inl none, a) : zM → zO) o (f_X9_carryOutCommand_112 g1 s1 s2 m) some (k + 0) 112 [none, none] [.inl (.int s2), .inl (.int s1), .inr (6, g1)] m := by
  unfold f_X9_carryOutCommand_112
  refine zk_call R (fun _ => none) id rfl (r_X4_markOutlet hg1) (fun b hb => w_X4_markOutlet d 0 g1 hg1 s1 s2 m b hb) (fun r1 => ?_)
  exact zk_ret R rfl trivial rfl
theorem w_X9_carryOutCommand (d k : Nat) (g1 : Nat) (hg1 : g1 < zN 6) (m : zM) (a : zM) (ha : f_X9_carryOutCommand g1 m = some a) : z_Ev z_MT zN zRf (d + 2) (k + 0) 94 [.inr (10, 0), .inr (6, g1)] m ((fun a => (.inl none, a) : zM → zO) a) := by
  refine zk_top (I := (yX9_carryOutCommand, cX9_carryOutCommand, 2, none, [], tX9_carryOutCommand, 10, 1, 10, 0, 0, 0)) (oc := (fun a => (.inl none, a) : zM → zO)) (a := a) rfl (Nat.le_of_ble_eq_true rfl) (fun G R => ?_) ha
  unfold f_X9_carryOutCommand
  refine zk_st R 2 4 [some (.inr (10, 0)), some (.inr (6, g1))] [.inl (.int (m.1 10 0 4))] m rfl ⟨trivial, (Nat.le_of_ble_eq_true rfl), trivial⟩ ?_
  refine zk_if (fun e1 => ?_) (fun e1 => ?_)
  · refine zk_lsw R rfl (z_swv e1 (by decide +kernel : _ = 40)) ?_
    refine zk_st R 6 52 [some (.inr (10, 0)), some (.inr (6, g1))] [.inl (.int (m.1 10 0 6)), .inl (.int (m.1 10 0 5)), .inr (20, 3 * g1)] m rfl ⟨trivial, hg1, trivial, (Nat.le_of_ble_eq_true rfl), trivial, (Nat.le_of_ble_eq_true rfl), trivial⟩ ?_
    refine zk_call R (fun _ => none) id rfl (r_X7_put) (fun b hb => w_X7_put_k20 d 0 (3 * g1) (z_g0 hg1) (m.1 10 0 5) (m.1 10 0 6) m b hb) (fun r2 => ?_)
    refine zk_st R 1 115 [some (.inr (10, 0)), some (.inr (6, g1))] [] r2 rfl ⟨trivial, trivial⟩ ?_
    exact zk_ret R rfl trivial rfl
  refine zk_if (fun e3 => ?_) (fun e3 => ?_)
  · refine zk_lsw R rfl (z_swv e3 (by decide +kernel : _ = 58)) ?_
    refine zk_st R 6 70 [some (.inr (10, 0)), some (.inr (6, g1))] [.inl (.int (m.1 10 0 6)), .inl (.int (m.1 10 0 5)), .inr (20, 3 * g1 + 1)] m rfl ⟨trivial, hg1, trivial, (Nat.le_of_ble_eq_true rfl), trivial, (Nat.le_of_ble_eq_true rfl), trivial⟩ ?_
    refine zk_call R (fun _ => none) id rfl (r_X7_put) (fun b hb => w_X7_put_k20 d 0 (3 * g1 + 1) (z_g1 hg1) (m.1 10 0 5) (m.1 10 0 6) m b hb) (fun r4 => ?_)
    refine zk_st R 1 115 [some (.inr (10, 0)), some (.inr (6, g1))] [] r4 rfl ⟨trivial, trivial⟩ ?_
    exact zk_ret R rfl trivial rfl
  refine zk_if (fun e5 => ?_) (fun e5 => ?_)
  · refine zk_lsw R rfl (z_swv e5 (by decide +kernel : _ = 76)) ?_
    refine zk_st R 6 88 [some (.inr (10, 0)), some (.inr (6, g1))] [.inl (.int (m.1 10 0 6)), .inl (.int (m.1 10 0 5)), .inr (20, 3 * g1 + 2)] m rfl ⟨trivial, hg1, trivial, (Nat.le_of_ble_eq_true rfl), trivial, (Nat.le_of_ble_eq_true rfl), trivial⟩ ?_
    refine zk_call R (fun _ => none) id rfl (r_X7_put) (fun b hb => w_X7_put_k20 d 0 (3 * g1 + 2) (z_g2 hg1) (m.1 10 0 5) (m.1 10 0 6) m b hb) (fun r6 => ?_)
    refine zk_st R 1 115 [some (.inr (10, 0)), some (.inr (6, g1))] [] r6 rfl ⟨trivial, trivial⟩ ?_
    exact zk_ret R rfl trivial rfl
  refine zk_lsw R rfl (t := 94) (by unfold z_swL; rw [z_swm (by intro q hq; simp at hq; rcases hq with rfl | rfl | rfl <;> assumption)]; decide) ?_
  · refine zk_st R 6 104 [some (.inr (10, 0)), some (.inr (6, g1))] [.inl (.int (1 : Int32)), .inl (.int (m.1 10 0 6)), .inl (.int (m.1 10 0 5)), .inr (6, g1)] m rfl ⟨trivial, trivial, (Nat.le_of_ble_eq_true rfl), trivial, (Nat.le_of_ble_eq_true rfl), trivial, trivial⟩ ?_
    refine zk_br R rfl (fun _ => ?_) (fun _ => ?_)
    · refine zk_st R 2 112 [some (.inr (10, 0)), some (.inr (6, g1))] [.inl (.int (1 : Int32)), .inl (.int (m.1 10 0 5)), .inr (6, g1)] m rfl ⟨trivial, trivial, trivial⟩ ?_
      refine zk_mask R [false, false] rfl ?_
      exact w_X9_carryOutCommand_112 d k g1 hg1 R (m.1 10 0 5) (1 : Int32) m
    · refine zk_st R 1 112 [some (.inr (10, 0)), some (.inr (6, g1))] [.inl (.int (0 : Int32)), .inl (.int (m.1 10 0 5)), .inr (6, g1)] m rfl ⟨trivial, trivial⟩ ?_
      refine zk_mask R [false, false] rfl ?_
      exact w_X9_carryOutCommand_112 d k g1 hg1 R (m.1 10 0 5) (0 : Int32) m
theorem r_X9_isDigit {i : Nat} {t : List zA} (h : i < zN 10) : z_rcv zN (zKD 96) (.inr (10, i) :: t) := by
  rw [show zKD 96 = 10 from rfl]
  exact ⟨rfl, h⟩
noncomputable def f_X9_isDigit (m : zM) : Option (Bool) :=
  Option.bind (f_X9_sign m) fun r1 =>
  if r1 < (48 : Int32) then
    some false
  else
    Option.bind (f_X9_sign m) fun r3 =>
    if (57 : Int32) < r3 then
      some false
    else
      some true
theorem w_X9_isDigit (d k : Nat) (m : zM) (a : Bool) (ha : f_X9_isDigit m = some a) : z_Ev z_MT zN zRf (d + 2) (k + 0) 96 [.inr (10, 0)] m ((fun a => (z_cB a, m) : Bool → zO) a) := by
  refine zk_top (I := (yX9_isDigit, cX9_isDigit, 1, (some .boolean), [], tX9_isDigit, 10, 0, 10, 0, 0, 0)) (oc := (fun a => (z_cB a, m) : Bool → zO)) (a := a) rfl (Nat.le_of_ble_eq_true rfl) (fun G R => ?_) ha
  unfold f_X9_isDigit
  refine zk_st R 1 1 [some (.inr (10, 0))] [.inr (10, 0)] m rfl ⟨trivial, trivial⟩ ?_
  refine zk_call R (fun b => some (.inl (.int b))) (fun _ => m) rfl (r_X9_sign (Nat.le_of_ble_eq_true rfl)) (fun b hb => w_X9_sign d 0 m b hb) (fun r1 => ?_)
  refine zk_st R 1 6 [some (.inr (10, 0))] [.inl (.int (48 : Int32)), .inl (.int r1)] m rfl ⟨trivial, trivial⟩ ?_
  refine zk_br R rfl (fun _ => ?_) (fun _ => ?_)
  · refine zk_st R 1 23 [some (.inr (10, 0))] [.inl (.int (0 : Int32))] m rfl ⟨trivial, trivial⟩ ?_
    exact zk_ret R rfl (Or.inl rfl) rfl
  · refine zk_st R 1 10 [some (.inr (10, 0))] [.inr (10, 0)] m rfl ⟨trivial, trivial⟩ ?_
    refine zk_call R (fun b => some (.inl (.int b))) (fun _ => m) rfl (r_X9_sign (Nat.le_of_ble_eq_true rfl)) (fun b hb => w_X9_sign d 0 m b hb) (fun r3 => ?_)
    refine zk_st R 1 15 [some (.inr (10, 0))] [.inl (.int (57 : Int32)), .inl (.int r3)] m rfl ⟨trivial, trivial⟩ ?_
    refine zk_br R rfl (fun _ => ?_) (fun _ => ?_)
    · refine zk_st R 1 23 [some (.inr (10, 0))] [.inl (.int (0 : Int32))] m rfl ⟨trivial, trivial⟩ ?_
      exact zk_ret R rfl (Or.inl rfl) rfl
    · refine zk_st R 2 23 [some (.inr (10, 0))] [.inl (.int (1 : Int32))] m rfl ⟨trivial, trivial, trivial⟩ ?_
      exact zk_ret R rfl (Or.inr rfl) rfl
theorem r_X9_readMark {i : Nat} {t : List zA} (h : i < zN 10) : z_rcv zN (zKD 98) (.inr (10, i) :: t) := by
  rw [show zKD 98 = 10 from rfl]
  exact ⟨rfl, h⟩
noncomputable def f_X9_readMark_38 (s1 : Int32) (m : zM) : Option (Int32 × zM) :=
  some ((-1 : Int32), (z_sI (z_sI m 10 0 6 s1) 10 0 3 (((z_sI m 10 0 6 s1).1 10 0 3) + (1 : Int32))))
noncomputable def f_X9_readMark_23 (m : zM) : Option (Int32 × zM) :=
  Option.bind (f_X9_sign m) fun r1 =>
  if r1 = (43 : Int32) then
    f_X9_readMark_38 (1 : Int32) m
  else
    f_X9_readMark_38 (0 : Int32) m
noncomputable def f_X9_readMark (m : zM) : Option (Int32 × zM) :=
  Option.bind (f_X9_sign m) fun r1 =>
  if r1 = (43 : Int32) then
    f_X9_readMark_23 m
  else
    Option.bind (f_X9_sign m) fun r3 =>
    if r3 = (45 : Int32) then
      f_X9_readMark_23 m
    else
      some ((m.1 10 0 3), m)
theorem w_X9_readMark_38 (d k : Nat) {o : zO} {G : Nat → Nat → zL → List zA → zM → Prop} (R : zRu (d + 1) tX9_readMark 0 (z_hf []) o G) (s1 : Int32) (m : zM) : zLK G (fun a => (z_cI a.1, a.2) : Int32 × zM → zO) o (f_X9_readMark_38 s1 m) some (k + 0) 38 [some (.inr (10, 0))] [.inl (.int s1), .inr (10, 0)] m := by
  unfold f_X9_readMark_38
  refine zk_st R 8 52 [some (.inr (10, 0))] [.inl (.int (-1 : Int32))] (z_sI (z_sI m 10 0 6 s1) 10 0 3 (((z_sI m 10 0 6 s1).1 10 0 3) + (1 : Int32))) rfl ⟨(Nat.le_of_ble_eq_true rfl), trivial, trivial, (Nat.le_of_ble_eq_true rfl), trivial, trivial, (Nat.le_of_ble_eq_true rfl), trivial, trivial⟩ ?_
  exact zk_ret R rfl trivial rfl
theorem w_X9_readMark_23 (d k : Nat) {o : zO} {G : Nat → Nat → zL → List zA → zM → Prop} (R : zRu (d + 1) tX9_readMark 0 (z_hf []) o G) (m : zM) : zLK G (fun a => (z_cI a.1, a.2) : Int32 × zM → zO) o (f_X9_readMark_23 m) some (k + 0) 23 [some (.inr (10, 0))] [] m := by
  unfold f_X9_readMark_23
  refine zk_st R 2 25 [some (.inr (10, 0))] [.inr (10, 0), .inr (10, 0)] m rfl ⟨trivial, trivial, trivial⟩ ?_
  refine zk_call R (fun b => some (.inl (.int b))) (fun _ => m) rfl (r_X9_sign (Nat.le_of_ble_eq_true rfl)) (fun b hb => w_X9_sign d 0 m b hb) (fun r1 => ?_)
  refine zk_st R 1 30 [some (.inr (10, 0))] [.inl (.int (43 : Int32)), .inl (.int r1), .inr (10, 0)] m rfl ⟨trivial, trivial⟩ ?_
  refine zk_br R rfl (fun _ => ?_) (fun _ => ?_)
  · refine zk_st R 2 38 [some (.inr (10, 0))] [.inl (.int (1 : Int32)), .inr (10, 0)] m rfl ⟨trivial, trivial, trivial⟩ ?_
    refine zk_mask R [true] rfl ?_
    exact w_X9_readMark_38 d k R (1 : Int32) m
  · refine zk_st R 1 38 [some (.inr (10, 0))] [.inl (.int (0 : Int32)), .inr (10, 0)] m rfl ⟨trivial, trivial⟩ ?_
    refine zk_mask R [true] rfl ?_
    exact w_X9_readMark_38 d k R (0 : Int32) m
theorem w_X9_readMark (d k : Nat) (m : zM) (a : Int32 × zM) (ha : f_X9_readMark m = some a) : z_Ev z_MT zN zRf (d + 2) (k + 0) 98 [.inr (10, 0)] m ((fun a => (z_cI a.1, a.2) : Int32 × zM → zO) a) := by
  refine zk_top (I := (yX9_readMark, cX9_readMark, 1, (some .int), [], tX9_readMark, 10, 0, 10, 0, 0, 0)) (oc := (fun a => (z_cI a.1, a.2) : Int32 × zM → zO)) (a := a) rfl (Nat.le_of_ble_eq_true rfl) (fun G R => ?_) ha
  unfold f_X9_readMark
  refine zk_st R 1 1 [some (.inr (10, 0))] [.inr (10, 0)] m rfl ⟨trivial, trivial⟩ ?_
  refine zk_call R (fun b => some (.inl (.int b))) (fun _ => m) rfl (r_X9_sign (Nat.le_of_ble_eq_true rfl)) (fun b hb => w_X9_sign d 0 m b hb) (fun r1 => ?_)
  refine zk_st R 1 6 [some (.inr (10, 0))] [.inl (.int (43 : Int32)), .inl (.int r1)] m rfl ⟨trivial, trivial⟩ ?_
  refine zk_br R rfl (fun _ => ?_) (fun _ => ?_)
  · refine zk_mask R [true] rfl ?_
    exact w_X9_readMark_23 d k R m
  · refine zk_st R 1 10 [some (.inr (10, 0))] [.inr (10, 0)] m rfl ⟨trivial, trivial⟩ ?_
    refine zk_call R (fun b => some (.inl (.int b))) (fun _ => m) rfl (r_X9_sign (Nat.le_of_ble_eq_true rfl)) (fun b hb => w_X9_sign d 0 m b hb) (fun r3 => ?_)
    refine zk_st R 1 15 [some (.inr (10, 0))] [.inl (.int (45 : Int32)), .inl (.int r3)] m rfl ⟨trivial, trivial⟩ ?_
    refine zk_br R rfl (fun _ => ?_) (fun _ => ?_)
    · refine zk_mask R [true] rfl ?_
      exact w_X9_readMark_23 d k R m
    · refine zk_st R 2 22 [some (.inr (10, 0))] [.inl (.int (m.1 10 0 3))] m rfl ⟨trivial, (Nat.le_of_ble_eq_true rfl), trivial⟩ ?_
      exact zk_ret R rfl trivial rfl
theorem r_X9_readDigit {i : Nat} {t : List zA} (h : i < zN 10) : z_rcv zN (zKD 100) (.inr (10, i) :: t) := by
  rw [show zKD 100 = 10 from rfl]
  exact ⟨rfl, h⟩
noncomputable def f_X9_readDigit (m : zM) : Option (Int32 × zM) :=
  Option.bind (f_X9_sign m) fun r1 =>
  some ((r1 - (48 : Int32)), (z_sI m 10 0 3 ((m.1 10 0 3) + (1 : Int32))))
theorem w_X9_readDigit (d k : Nat) (m : zM) (a : Int32 × zM) (ha : f_X9_readDigit m = some a) : z_Ev z_MT zN zRf (d + 2) (k + 0) 100 [.inr (10, 0)] m ((fun a => (z_cI a.1, a.2) : Int32 × zM → zO) a) := by
  refine zk_top (I := (yX9_readDigit, cX9_readDigit, 2, (some .int), [], tX9_readDigit, 10, 0, 10, 0, 0, 0)) (oc := (fun a => (z_cI a.1, a.2) : Int32 × zM → zO)) (a := a) rfl (Nat.le_of_ble_eq_true rfl) (fun G R => ?_) ha
  unfold f_X9_readDigit
  refine zk_st R 1 1 [some (.inr (10, 0)), none] [.inr (10, 0)] m rfl ⟨trivial, trivial⟩ ?_
  refine zk_call R (fun b => some (.inl (.int b))) (fun _ => m) rfl (r_X9_sign (Nat.le_of_ble_eq_true rfl)) (fun b hb => w_X9_sign d 0 m b hb) (fun r1 => ?_)
  refine zk_st R 10 19 [some (.inr (10, 0)), some (.inl (.int (r1 - (48 : Int32))))] [.inl (.int (r1 - (48 : Int32)))] (z_sI m 10 0 3 ((m.1 10 0 3) + (1 : Int32))) rfl ⟨trivial, trivial, trivial, trivial, trivial, (Nat.le_of_ble_eq_true rfl), trivial, trivial, (Nat.le_of_ble_eq_true rfl), trivial, trivial⟩ ?_
  exact zk_ret R rfl trivial rfl
theorem r_X10_run {i : Nat} {t : List zA} (h : i < zN 11) : z_rcv zN (zKD 102) (.inr (11, i) :: t) := by
  rw [show zKD 102 = 11 from rfl]
  exact ⟨rfl, h⟩
noncomputable def f_X10_run_10 (g1 : Nat) : Nat → Int32 → zM → Option (zM)
  | 0, _, _ => none
  | j + 1, x3, m =>
    if (m.1 5 0 0) ≤ x3 then
      some m
    else
      Option.bind (f_X7_at 20 40 x3 m) fun r2 =>
      Option.bind (f_X7_at 20 44 r2 m) fun r3 =>
      Option.bind (f_X7_at 20 (3 * g1 + 1) r2 m) fun r4 =>
      Option.bind (f_X7_at 20 (3 * g1 + 2) r2 m) fun r5 =>
      Option.bind (f_J9_min_7cf53 (r3 + r4) r5 m) fun r6 =>
      Option.bind (f_X7_put 20 45 r2 (r3 + r4) m) fun r7 =>
      Option.bind (f_X7_put 20 46 r2 r6 r7) fun r8 =>
      Option.bind (f_X7_put 20 47 r2 ((r3 + r4) - r6) r8) fun r9 =>
      Option.bind (f_X7_at 20 39 r2 r9) fun r10 =>
      Option.bind (f_X7_add 20 44 r10 ((r3 + r4) - r6) r9) fun r11 =>
      f_X10_run_10 g1 j (x3 + (1 : Int32)) r11
noncomputable def f_X10_run (g1 : Nat) (m : zM) : Option (zM) :=
  Option.bind (f_J7_fill_53178 20 44 (0 : Int32) m) fun r1 =>
  f_X10_run_10 g1 zF (0 : Int32) r1
theorem w_X10_run_10 (d k : Nat) {o : zO} {G : Nat → Nat → zL → List zA → zM → Prop} (g1 : Nat) (hg1 : g1 < zN 6) (R : zRu (d + 1) tX10_run 0 (z_hf []) o G) : ∀ (j : Nat) (x3 : Int32) (m : zM), zLK G (fun a => (.inl none, a) : zM → zO) o (f_X10_run_10 g1 j x3 m) some (k + 0) 10 [some (.inr (11, 0)), some (.inr (6, g1)), some (.inr (5, 0)), some (.inl (.int x3)), none, none, none] [] m := by
  intro j
  induction j with
  | zero =>
    intro _ _
    exact zk_none
  | succ j ih =>
    intro x3 m
    unfold f_X10_run_10
    refine zk_st R 3 15 [some (.inr (11, 0)), some (.inr (6, g1)), some (.inr (5, 0)), some (.inl (.int x3)), none, none, none] [.inl (.int (m.1 5 0 0)), .inl (.int x3)] m rfl ⟨trivial, trivial, (Nat.le_of_ble_eq_true rfl), trivial⟩ ?_
    refine zk_br R rfl (fun _ => ?_) (fun _ => ?_)
    · exact zk_ret R rfl trivial rfl
    · refine zk_st R 3 23 [some (.inr (11, 0)), some (.inr (6, g1)), some (.inr (5, 0)), some (.inl (.int x3)), none, none, none] [.inl (.int x3), .inr (20, 40)] m rfl ⟨trivial, (Nat.le_of_ble_eq_true rfl), trivial, trivial⟩ ?_
      refine zk_call R (fun b => some (.inl (.int b))) (fun _ => m) rfl (r_X7_at) (fun b hb => w_X7_at_k20 d 0 40 (Nat.le_of_ble_eq_true rfl) x3 m b hb) (fun r2 => ?_)
      refine zk_st R 4 34 [some (.inr (11, 0)), some (.inr (6, g1)), some (.inr (5, 0)), some (.inl (.int x3)), some (.inl (.int r2)), none, none] [.inl (.int r2), .inr (20, 44)] m rfl ⟨trivial, trivial, (Nat.le_of_ble_eq_true rfl), trivial, trivial⟩ ?_
      refine zk_call R (fun b => some (.inl (.int b))) (fun _ => m) rfl (r_X7_at) (fun b hb => w_X7_at_k20 d 0 44 (Nat.le_of_ble_eq_true rfl) r2 m b hb) (fun r3 => ?_)
      refine zk_st R 3 43 [some (.inr (11, 0)), some (.inr (6, g1)), some (.inr (5, 0)), some (.inl (.int x3)), some (.inl (.int r2)), none, none] [.inl (.int r2), .inr (20, 3 * g1 + 1), .inl (.int r3)] m rfl ⟨trivial, hg1, trivial, trivial⟩ ?_
      refine zk_call R (fun b => some (.inl (.int b))) (fun _ => m) rfl (r_X7_at) (fun b hb => w_X7_at_k20 d 0 (3 * g1 + 1) (z_g1 hg1) r2 m b hb) (fun r4 => ?_)
      refine zk_st R 6 57 [some (.inr (11, 0)), some (.inr (6, g1)), some (.inr (5, 0)), some (.inl (.int x3)), some (.inl (.int r2)), some (.inl (.int (r3 + r4))), none] [.inl (.int r2), .inr (20, 3 * g1 + 2), .inl (.int (r3 + r4))] m rfl ⟨trivial, trivial, trivial, trivial, hg1, trivial, trivial⟩ ?_
      refine zk_call R (fun b => some (.inl (.int b))) (fun _ => m) rfl (r_X7_at) (fun b hb => w_X7_at_k20 d 0 (3 * g1 + 2) (z_g2 hg1) r2 m b hb) (fun r5 => ?_)
      refine zk_call R (fun b => some (.inl (.int b))) (fun _ => m) rfl (r_J9_min_7cf53) (fun b hb => w_J9_min_7cf53 d 0 (r3 + r4) r5 m b hb) (fun r6 => ?_)
      refine zk_st R 5 73 [some (.inr (11, 0)), some (.inr (6, g1)), some (.inr (5, 0)), some (.inl (.int x3)), some (.inl (.int r2)), some (.inl (.int (r3 + r4))), some (.inl (.int r6))] [.inl (.int (r3 + r4)), .inl (.int r2), .inr (20, 45)] m rfl ⟨trivial, trivial, (Nat.le_of_ble_eq_true rfl), trivial, trivial, trivial⟩ ?_
      refine zk_call R (fun _ => none) id rfl (r_X7_put) (fun b hb => w_X7_put_k20 d 0 45 (Nat.le_of_ble_eq_true rfl) r2 (r3 + r4) m b hb) (fun r7 => ?_)
      refine zk_st R 4 84 [some (.inr (11, 0)), some (.inr (6, g1)), some (.inr (5, 0)), some (.inl (.int x3)), some (.inl (.int r2)), some (.inl (.int (r3 + r4))), some (.inl (.int r6))] [.inl (.int r6), .inl (.int r2), .inr (20, 46)] r7 rfl ⟨trivial, (Nat.le_of_ble_eq_true rfl), trivial, trivial, trivial⟩ ?_
      refine zk_call R (fun _ => none) id rfl (r_X7_put) (fun b hb => w_X7_put_k20 d 0 46 (Nat.le_of_ble_eq_true rfl) r2 r6 r7 b hb) (fun r8 => ?_)
      refine zk_st R 6 98 [some (.inr (11, 0)), some (.inr (6, g1)), some (.inr (5, 0)), some (.inl (.int x3)), some (.inl (.int r2)), some (.inl (.int (r3 + r4))), some (.inl (.int r6))] [.inl (.int ((r3 + r4) - r6)), .inl (.int r2), .inr (20, 47)] r8 rfl ⟨trivial, (Nat.le_of_ble_eq_true rfl), trivial, trivial, trivial, trivial, trivial⟩ ?_
      refine zk_call R (fun _ => none) id rfl (r_X7_put) (fun b hb => w_X7_put_k20 d 0 47 (Nat.le_of_ble_eq_true rfl) r2 ((r3 + r4) - r6) r8 b hb) (fun r9 => ?_)
      refine zk_st R 5 111 [some (.inr (11, 0)), some (.inr (6, g1)), some (.inr (5, 0)), some (.inl (.int x3)), some (.inl (.int r2)), some (.inl (.int (r3 + r4))), some (.inl (.int r6))] [.inl (.int r2), .inr (20, 39), .inr (20, 44)] r9 rfl ⟨trivial, (Nat.le_of_ble_eq_true rfl), trivial, (Nat.le_of_ble_eq_true rfl), trivial, trivial⟩ ?_
      refine zk_call R (fun b => some (.inl (.int b))) (fun _ => r9) rfl (r_X7_at) (fun b hb => w_X7_at_k20 d 0 39 (Nat.le_of_ble_eq_true rfl) r2 r9 b hb) (fun r10 => ?_)
      refine zk_st R 3 119 [some (.inr (11, 0)), some (.inr (6, g1)), some (.inr (5, 0)), some (.inl (.int x3)), some (.inl (.int r2)), some (.inl (.int (r3 + r4))), some (.inl (.int r6))] [.inl (.int ((r3 + r4) - r6)), .inl (.int r10), .inr (20, 44)] r9 rfl ⟨trivial, trivial, trivial, trivial⟩ ?_
      refine zk_call R (fun _ => none) id rfl (r_X7_add) (fun b hb => w_X7_add_k20 d 0 44 (Nat.le_of_ble_eq_true rfl) r10 ((r3 + r4) - r6) r9 b hb) (fun r11 => ?_)
      refine zk_st R 2 10 [some (.inr (11, 0)), some (.inr (6, g1)), some (.inr (5, 0)), some (.inl (.int (x3 + (1 : Int32)))), some (.inl (.int r2)), some (.inl (.int (r3 + r4))), some (.inl (.int r6))] [] r11 rfl ⟨trivial, trivial, trivial⟩ ?_
      refine zk_mask R [true, true, true, true, false, false, false] rfl ?_
      exact ih (x3 + (1 : Int32)) r11
theorem w_X10_run (d k : Nat) (g1 : Nat) (hg1 : g1 < zN 6) (m : zM) (a : zM) (ha : f_X10_run g1 m = some a) : z_Ev z_MT zN zRf (d + 2) (k + 0) 102 [.inr (11, 0), .inr (6, g1), .inr (5, 0)] m ((fun a => (.inl none, a) : zM → zO) a) := by
  refine zk_top (I := (yX10_run, cX10_run, 7, none, [], tX10_run, 11, 2, 11, 0, 0, 0)) (oc := (fun a => (.inl none, a) : zM → zO)) (a := a) rfl (Nat.le_of_ble_eq_true rfl) (fun G R => ?_) ha
  unfold f_X10_run
  refine zk_st R 3 5 [some (.inr (11, 0)), some (.inr (6, g1)), some (.inr (5, 0)), none, none, none, none] [.inl (.int (0 : Int32)), .inr (20, 44)] m rfl ⟨trivial, (Nat.le_of_ble_eq_true rfl), trivial, trivial⟩ ?_
  refine zk_call R (fun _ => none) id rfl (r_J7_fill_53178) (fun b hb => w_J7_fill_53178_k20 d 0 44 (Nat.le_of_ble_eq_true rfl) (0 : Int32) m b hb) (fun r1 => ?_)
  refine zk_st R 2 10 [some (.inr (11, 0)), some (.inr (6, g1)), some (.inr (5, 0)), some (.inl (.int (0 : Int32))), none, none, none] [] r1 rfl ⟨trivial, trivial, trivial⟩ ?_
  refine zk_mask R [true, true, true, true, false, false, false] rfl ?_
  exact w_X10_run_10 d k g1 hg1 R zF (0 : Int32) r1
theorem r_X11_append {i : Nat} {t : List zA} (h : i < zN 12) : z_rcv zN (zKD 144) (.inr (12, i) :: t) := by
  rw [show zKD 144 = 12 from rfl]
  exact ⟨rfl, h⟩
noncomputable def f_X11_append (x1 : Int32) (m : zM) : Option ((Int32 ⊕ Nat) × zM) :=
  z_bx (f_X11_requireRange x1 (33 : Int32) (126 : Int32) m) (fun r1 m2 =>
  if (m2.1 10 0 1) < (60 : Int32) then
    Option.bind (f_X9_add x1 m2) fun r4 =>
    some (.inl (r4.1 10 0 1), r4)
  else
    some (.inr 2, m2)) id
theorem w_X11_append (d k : Nat) (x1 : Int32) (m : zM) (a : (Int32 ⊕ Nat) × zM) (ha : f_X11_append x1 m = some a) : z_Ev z_MT zN zRf (d + 2) (k + 2) 144 [.inr (12, 0), .inl (.int x1)] m ((fun a => (z_cX z_cI a.1, a.2) : (Int32 ⊕ Nat) × zM → zO) a) := by
  refine zk_top (I := (yX11_append, cX11_append, 2, (some .int), [], tX11_append, 12, 1, 12, 0, 0, 0)) (oc := (fun a => (z_cX z_cI a.1, a.2) : (Int32 ⊕ Nat) × zM → zO)) (a := a) rfl (Nat.le_of_ble_eq_true rfl) (fun G R => ?_) ha
  unfold f_X11_append
  refine zk_st R 3 5 [some (.inr (12, 0)), some (.inl (.int x1))] [.inl (.int (126 : Int32)), .inl (.int (33 : Int32)), .inl (.int x1)] m rfl ⟨trivial, trivial, trivial, trivial⟩ ?_
  refine zk_callz R (k + 1) 1 (fun _ => none) rfl (r_X11_requireRange) (fun b m' hb => w_X11_requireRange d 0 x1 (33 : Int32) (126 : Int32) m _ hb) (fun e m' hb => w_X11_requireRange d 0 x1 (33 : Int32) (126 : Int32) m _ hb) (fun _ => rfl) (fun _ _ => rfl) (fun r1 m2 => ?_)
  refine zk_st R 4 17 [some (.inr (12, 0)), some (.inl (.int x1))] [.inl (.int (60 : Int32)), .inl (.int (m2.1 10 0 1))] m2 rfl ⟨trivial, (Nat.le_of_ble_eq_true rfl), (Nat.le_of_ble_eq_true rfl), trivial, trivial⟩ ?_
  refine zk_br R rfl (fun _ => ?_) (fun _ => ?_)
  · refine zk_st R 3 36 [some (.inr (12, 0)), some (.inl (.int x1))] [.inl (.int x1), .inr (10, 0)] m2 rfl ⟨trivial, (Nat.le_of_ble_eq_true rfl), trivial, trivial⟩ ?_
    refine zk_call R (fun _ => none) id rfl (r_X9_add (Nat.le_of_ble_eq_true rfl)) (fun b hb => w_X9_add d 0 x1 m2 b hb) (fun r4 => ?_)
    refine zk_st R 3 46 [some (.inr (12, 0)), some (.inl (.int x1))] [.inl (.int (r4.1 10 0 1))] r4 rfl ⟨trivial, (Nat.le_of_ble_eq_true rfl), (Nat.le_of_ble_eq_true rfl), trivial⟩ ?_
    exact zk_ret R rfl trivial rfl
  · exact zk_thr R (k := k + 0) rfl rfl
theorem r_X11_requireCell {i : Nat} {t : List zA} (h : i < zN 12) : z_rcv zN (zKD 151) (.inr (12, i) :: t) := by
  rw [show zKD 151 = 12 from rfl]
  exact ⟨rfl, h⟩
noncomputable def f_X11_requireCell (x1 : Int32) (m : zM) : Option ((Unit ⊕ Nat) × zM) :=
  if x1 < 0 then
    some (.inr 1, m)
  else
    Option.bind (f_X4_size 0 m) fun r2 =>
    if x1 < r2 then
      some (.inl (), m)
    else
      some (.inr 1, m)
theorem w_X11_requireCell (d k : Nat) (x1 : Int32) (m : zM) (a : (Unit ⊕ Nat) × zM) (ha : f_X11_requireCell x1 m = some a) : z_Ev z_MT zN zRf (d + 2) (k + 1) 151 [.inr (12, 0), .inl (.int x1)] m ((fun a => (z_cX z_cU a.1, a.2) : (Unit ⊕ Nat) × zM → zO) a) := by
  refine zk_top (I := (yX11_requireCell, cX11_requireCell, 2, none, [], tX11_requireCell, 12, 1, 12, 0, 0, 0)) (oc := (fun a => (z_cX z_cU a.1, a.2) : (Unit ⊕ Nat) × zM → zO)) (a := a) rfl (Nat.le_of_ble_eq_true rfl) (fun G R => ?_) ha
  unfold f_X11_requireCell
  refine zk_st R 1 1 [some (.inr (12, 0)), some (.inl (.int x1))] [.inl (.int x1)] m rfl ⟨trivial, trivial⟩ ?_
  refine zk_br R rfl (fun _ => ?_) (fun _ => ?_)
  · exact zk_thr R (k := k + 0) rfl rfl
  · refine zk_st R 3 9 [some (.inr (12, 0)), some (.inl (.int x1))] [.inr (6, 0), .inl (.int x1)] m rfl ⟨trivial, trivial, (Nat.le_of_ble_eq_true rfl), trivial⟩ ?_
    refine zk_call R (fun b => some (.inl (.int b))) (fun _ => m) rfl (r_X4_size (Nat.le_of_ble_eq_true rfl)) (fun b hb => w_X4_size d 0 0 (Nat.le_of_ble_eq_true rfl) m b hb) (fun r2 => ?_)
    refine zk_br R rfl (fun _ => ?_) (fun _ => ?_)
    · exact zk_ret R rfl trivial rfl
    · exact zk_thr R (k := k + 0) rfl rfl
theorem r_X12_isCell {i : Nat} {t : List zA} (h : i < zN 13) : z_rcv zN (zKD 162) (.inr (13, i) :: t) := by
  rw [show zKD 162 = 13 from rfl]
  exact ⟨rfl, h⟩
noncomputable def f_X12_isCell (x1 : Int32) (m : zM) : Option (Bool) :=
  Option.bind (f_X12_cells m) fun r1 =>
  Option.bind (f_X12_in (Int32.toInt64 x1) (0 : Int64) (Int32.toInt64 (r1 - (1 : Int32))) m) fun r2 =>
  some r2
theorem w_X12_isCell (d k : Nat) (x1 : Int32) (m : zM) (a : Bool) (ha : f_X12_isCell x1 m = some a) : z_Ev z_MT zN zRf (d + 2) (k + 0) 162 [.inr (13, 0), .inl (.int x1)] m ((fun a => (z_cB a, m) : Bool → zO) a) := by
  refine zk_top (I := (yX12_isCell, cX12_isCell, 2, (some .boolean), [], tX12_isCell, 13, 1, 13, 0, 0, 0)) (oc := (fun a => (z_cB a, m) : Bool → zO)) (a := a) rfl (Nat.le_of_ble_eq_true rfl) (fun G R => ?_) ha
  unfold f_X12_isCell
  refine zk_st R 4 4 [some (.inr (13, 0)), some (.inl (.int x1))] [.inr (13, 0), .inl (.long (0 : Int64)), .inl (.long (Int32.toInt64 x1))] m rfl ⟨trivial, trivial, trivial, trivial, trivial⟩ ?_
  refine zk_call R (fun b => some (.inl (.int b))) (fun _ => m) rfl (r_X12_cells (Nat.le_of_ble_eq_true rfl)) (fun b hb => w_X12_cells d 0 m b hb) (fun r1 => ?_)
  refine zk_st R 3 10 [some (.inr (13, 0)), some (.inl (.int x1))] [.inl (.long (Int32.toInt64 (r1 - (1 : Int32)))), .inl (.long (0 : Int64)), .inl (.long (Int32.toInt64 x1))] m rfl ⟨trivial, trivial, trivial, trivial⟩ ?_
  refine zk_call R (fun b => some (.inl (.int (z_bi b)))) (fun _ => m) rfl (r_X12_in) (fun b hb => w_X12_in d 0 (Int32.toInt64 x1) (0 : Int64) (Int32.toInt64 (r1 - (1 : Int32))) m b hb) (fun r2 => ?_)
  exact zk_ret R rfl (z_bi01 _) rfl
theorem r_X12_outlets {i : Nat} {t : List zA} (h : i < zN 13) : z_rcv zN (zKD 165) (.inr (13, i) :: t) := by
  rw [show zKD 165 = 13 from rfl]
  exact ⟨rfl, h⟩
noncomputable def f_X12_outlets_4 (m : zM) : Nat → Int32 → Int32 → Option (Int32)
  | 0, _, _ => none
  | j + 1, x1, x2 =>
    Option.bind (f_X12_cells m) fun r1 =>
    if r1 ≤ x2 then
      some x1
    else
      z_gd (z_inb ((195 : Int32) + x2) (z_alen 23)) <| f_X12_outlets_4 m j (x1 + (m.1 23 0 (Int32.toNatClampNeg ((195 : Int32) + x2)))) (x2 + (1 : Int32))
noncomputable def f_X12_outlets (m : zM) : Option (Int32) :=
  f_X12_outlets_4 m zF (0 : Int32) (0 : Int32)
theorem w_X12_outlets_4 (d k : Nat) {o : zO} {G : Nat → Nat → zL → List zA → zM → Prop} (m : zM) (R : zRu (d + 1) tX12_outlets 0 (z_hf []) o G) : ∀ (j : Nat) (x1 : Int32) (x2 : Int32), zLK G (fun a => (z_cI a, m) : Int32 → zO) o (f_X12_outlets_4 m j x1 x2) some (k + 0) 4 [some (.inr (13, 0)), some (.inl (.int x1)), some (.inl (.int x2))] [] m := by
  intro j
  induction j with
  | zero =>
    intro _ _
    exact zk_none
  | succ j ih =>
    intro x1 x2
    unfold f_X12_outlets_4
    refine zk_st R 2 6 [some (.inr (13, 0)), some (.inl (.int x1)), some (.inl (.int x2))] [.inr (13, 0), .inl (.int x2)] m rfl ⟨trivial, trivial, trivial⟩ ?_
    refine zk_call R (fun b => some (.inl (.int b))) (fun _ => m) rfl (r_X12_cells (Nat.le_of_ble_eq_true rfl)) (fun b hb => w_X12_cells d 0 m b hb) (fun r1 => ?_)
    refine zk_br R rfl (fun _ => ?_) (fun _ => ?_)
    · refine zk_st R 1 32 [some (.inr (13, 0)), some (.inl (.int x1)), some (.inl (.int x2))] [.inl (.int x1)] m rfl ⟨trivial, trivial⟩ ?_
      exact zk_ret R rfl trivial rfl
    · refine zk_gd fun e3 => ?_
      refine zk_st R 11 4 [some (.inr (13, 0)), some (.inl (.int (x1 + (m.1 23 0 (Int32.toNatClampNeg ((195 : Int32) + x2)))))), some (.inl (.int (x2 + (1 : Int32))))] [] m rfl ⟨trivial, trivial, (Nat.le_of_ble_eq_true rfl), trivial, trivial, trivial, ⟨(Nat.le_of_ble_eq_true rfl), z_inb_in e3⟩, trivial, trivial, trivial, trivial, trivial⟩ ?_
      refine zk_mask R [true, true, true] rfl ?_
      exact ih (x1 + (m.1 23 0 (Int32.toNatClampNeg ((195 : Int32) + x2)))) (x2 + (1 : Int32))
theorem w_X12_outlets (d k : Nat) (m : zM) (a : Int32) (ha : f_X12_outlets m = some a) : z_Ev z_MT zN zRf (d + 2) (k + 0) 165 [.inr (13, 0)] m ((fun a => (z_cI a, m) : Int32 → zO) a) := by
  refine zk_top (I := (yX12_outlets, cX12_outlets, 3, (some .int), [], tX12_outlets, 13, 0, 13, 0, 0, 0)) (oc := (fun a => (z_cI a, m) : Int32 → zO)) (a := a) rfl (Nat.le_of_ble_eq_true rfl) (fun G R => ?_) ha
  unfold f_X12_outlets
  refine zk_st R 4 4 [some (.inr (13, 0)), some (.inl (.int (0 : Int32))), some (.inl (.int (0 : Int32)))] [] m rfl ⟨trivial, trivial, trivial, trivial, trivial⟩ ?_
  refine zk_mask R [true, true, true] rfl ?_
  exact w_X12_outlets_4 d k m R zF (0 : Int32) (0 : Int32)
theorem r_X12_resize {i : Nat} {t : List zA} (h : i < zN 13) : z_rcv zN (zKD 168) (.inr (13, i) :: t) := by
  rw [show zKD 168 = 13 from rfl]
  exact ⟨rfl, h⟩
noncomputable def f_X12_resize_33 (m : zM) : Option (Int32 × zM) :=
  Option.bind (f_X12_raises (1 : Int32) m) fun r1 =>
  some (r1.1, r1.2)
noncomputable def f_X12_resize (x1 : Int32) (x2 : Int32) (m : zM) : Option (Int32 × zM) :=
  Option.bind (f_X12_in (Int32.toInt64 x1) (2 : Int64) (8 : Int64) (z_sI m 13 0 0 (0 : Int32))) fun r1 =>
  if (z_bi r1) = 0 then
    f_X12_resize_33 (z_sI m 13 0 0 (0 : Int32))
  else
    Option.bind (f_X12_in (Int32.toInt64 x2) (2 : Int64) (8 : Int64) (z_sI m 13 0 0 (0 : Int32))) fun r3 =>
    if (z_bi r3) = 0 then
      f_X12_resize_33 (z_sI m 13 0 0 (0 : Int32))
    else
      Option.bind (f_X12_changes (z_sI m 13 0 0 (0 : Int32))) fun r5 =>
      Option.bind (f_X12_lays x1 x2 r5) fun r6 =>
      Option.bind (f_X12_cells r6) fun r7 =>
      some (r7, r6)
theorem w_X12_resize_33 (d k : Nat) {o : zO} {G : Nat → Nat → zL → List zA → zM → Prop} (R : zRu (d + 1) tX12_resize 0 (z_hf []) o G) (m : zM) : zLK G (fun a => (z_cI a.1, a.2) : Int32 × zM → zO) o (f_X12_resize_33 m) some (k + 0) 33 [some (.inr (13, 0)), none, none] [] m := by
  unfold f_X12_resize_33
  refine zk_st R 2 35 [some (.inr (13, 0)), none, none] [.inl (.int (1 : Int32)), .inr (13, 0)] m rfl ⟨trivial, trivial, trivial⟩ ?_
  refine zk_call R (fun b => some (.inl (.int b.1))) (fun b => b.2) rfl (r_X12_raises (Nat.le_of_ble_eq_true rfl)) (fun b hb => w_X12_raises d 0 (1 : Int32) m b hb) (fun r1 => ?_)
  exact zk_ret R rfl trivial rfl
theorem w_X12_resize (d k : Nat) (x1 : Int32) (x2 : Int32) (m : zM) (a : Int32 × zM) (ha : f_X12_resize x1 x2 m = some a) : z_Ev z_MT zN zRf (d + 2) (k + 0) 168 [.inr (13, 0), .inl (.int x1), .inl (.int x2)] m ((fun a => (z_cI a.1, a.2) : Int32 × zM → zO) a) := by
  refine zk_top (I := (yX12_resize, cX12_resize, 3, (some .int), [], tX12_resize, 13, 2, 13, 0, 0, 0)) (oc := (fun a => (z_cI a.1, a.2) : Int32 × zM → zO)) (a := a) rfl (Nat.le_of_ble_eq_true rfl) (fun G R => ?_) ha
  unfold f_X12_resize
  refine zk_st R 7 13 [some (.inr (13, 0)), some (.inl (.int x1)), some (.inl (.int x2))] [.inl (.long (8 : Int64)), .inl (.long (2 : Int64)), .inl (.long (Int32.toInt64 x1))] (z_sI m 13 0 0 (0 : Int32)) rfl ⟨trivial, trivial, (Nat.le_of_ble_eq_true rfl), trivial, trivial, trivial, trivial, trivial⟩ ?_
  refine zk_call R (fun b => some (.inl (.int (z_bi b)))) (fun _ => (z_sI m 13 0 0 (0 : Int32))) rfl (r_X12_in) (fun b hb => w_X12_in d 0 (Int32.toInt64 x1) (2 : Int64) (8 : Int64) (z_sI m 13 0 0 (0 : Int32)) b hb) (fun r1 => ?_)
  refine zk_br R rfl (fun _ => ?_) (fun _ => ?_)
  · refine zk_mask R [true, false, false] rfl ?_
    exact w_X12_resize_33 d k R (z_sI m 13 0 0 (0 : Int32))
  · refine zk_st R 4 27 [some (.inr (13, 0)), some (.inl (.int x1)), some (.inl (.int x2))] [.inl (.long (8 : Int64)), .inl (.long (2 : Int64)), .inl (.long (Int32.toInt64 x2))] (z_sI m 13 0 0 (0 : Int32)) rfl ⟨trivial, trivial, trivial, trivial, trivial⟩ ?_
    refine zk_call R (fun b => some (.inl (.int (z_bi b)))) (fun _ => (z_sI m 13 0 0 (0 : Int32))) rfl (r_X12_in) (fun b hb => w_X12_in d 0 (Int32.toInt64 x2) (2 : Int64) (8 : Int64) (z_sI m 13 0 0 (0 : Int32)) b hb) (fun r3 => ?_)
    refine zk_br R rfl (fun _ => ?_) (fun _ => ?_)
    · refine zk_mask R [true, false, false] rfl ?_
      exact w_X12_resize_33 d k R (z_sI m 13 0 0 (0 : Int32))
    · refine zk_st R 1 40 [some (.inr (13, 0)), some (.inl (.int x1)), some (.inl (.int x2))] [.inr (13, 0)] (z_sI m 13 0 0 (0 : Int32)) rfl ⟨trivial, trivial⟩ ?_
      refine zk_call R (fun _ => none) id rfl (r_X12_changes (Nat.le_of_ble_eq_true rfl)) (fun b hb => w_X12_changes d 0 (z_sI m 13 0 0 (0 : Int32)) b hb) (fun r5 => ?_)
      refine zk_st R 3 46 [some (.inr (13, 0)), some (.inl (.int x1)), some (.inl (.int x2))] [.inl (.int x2), .inl (.int x1), .inr (13, 0)] r5 rfl ⟨trivial, trivial, trivial, trivial⟩ ?_
      refine zk_call R (fun _ => none) id rfl (r_X12_lays (Nat.le_of_ble_eq_true rfl)) (fun b hb => w_X12_lays d 0 x1 x2 r5 b hb) (fun r6 => ?_)
      refine zk_st R 1 50 [some (.inr (13, 0)), some (.inl (.int x1)), some (.inl (.int x2))] [.inr (13, 0)] r6 rfl ⟨trivial, trivial⟩ ?_
      refine zk_call R (fun b => some (.inl (.int b))) (fun _ => r6) rfl (r_X12_cells (Nat.le_of_ble_eq_true rfl)) (fun b hb => w_X12_cells d 0 r6 b hb) (fun r7 => ?_)
      exact zk_ret R rfl trivial rfl
theorem r_X12_scatter {i : Nat} {t : List zA} (h : i < zN 13) : z_rcv zN (zKD 169) (.inr (13, i) :: t) := by
  rw [show zKD 169 = 13 from rfl]
  exact ⟨rfl, h⟩
noncomputable def f_X12_scatter_103 (c35 : Int32 → Int32 → Int32 → Int32 → zM → Option (Int32 × zM)) (c74 : Int32 → Int32 → Int32 → Int32 → Int32 → Int32 → zM → Option (Int32 × zM)) (x2 : Int32) (x3 : Int32) (x4 : Int32) (x5 : Int32) (x7 : Int32) (s0 : Int32) (s1 : Int32) (m : zM) : Option (Int32 × zM) :=
  c74 x2 x3 x4 x5 (s0 &&& s1) (x7 + (1 : Int32)) m
noncomputable def f_X12_scatter_74 (c35 : Int32 → Int32 → Int32 → Int32 → zM → Option (Int32 × zM)) : Nat → Int32 → Int32 → Int32 → Int32 → Int32 → Int32 → zM → Option (Int32 × zM)
  | 0, _, _, _, _, _, _, _ => none
  | j + 1, x2, x3, x4, x5, x6, x7, m =>
    if x5 ≤ x7 then
      if x6 = 0 then
        c35 x2 x3 x4 (x5 + (1 : Int32)) m
      else
        c35 x2 x3 (x4 + (1 : Int32)) (x5 + (1 : Int32)) m
    else
      Option.bind (f_X12_height x7 m) fun r3 =>
      Option.bind (f_X12_height x5 m) fun r4 =>
      if r3 = r4 then
        f_X12_scatter_103 c35 (f_X12_scatter_74 c35 j) x2 x3 x4 x5 x7 x6 (0 : Int32) m
      else
        f_X12_scatter_103 c35 (f_X12_scatter_74 c35 j) x2 x3 x4 x5 x7 x6 (1 : Int32) m
noncomputable def f_X12_scatter_35 : Nat → Int32 → Int32 → Int32 → Int32 → zM → Option (Int32 × zM)
  | 0, _, _, _, _, _ => none
  | j + 1, x2, x3, x4, x5, m =>
    Option.bind (f_X12_cells m) fun r1 =>
    if r1 ≤ x5 then
      some (x4, m)
    else
      z_gd (z_nz x2) <| z_gd (z_inb ((3 : Int32) + x5) (z_alen 23)) <| f_X12_scatter_74 (f_X12_scatter_35 j) zF x2 ((x3 * (1103515245 : Int32)) + (12345 : Int32)) x4 x5 (1 : Int32) (0 : Int32) (z_sI m 23 0 (Int32.toNatClampNeg ((3 : Int32) + x5)) (z_irem (z_iushr ((x3 * (1103515245 : Int32)) + (12345 : Int32)) (16 : Int32)) x2))
noncomputable def f_X12_scatter (x1 : Int32) (x2 : Int32) (m : zM) : Option (Int32 × zM) :=
  Option.bind (f_X12_in (Int32.toInt64 x2) (1 : Int64) (100 : Int64) (z_sI m 13 0 0 (0 : Int32))) fun r1 =>
  if (z_bi r1) = 0 then
    Option.bind (f_X12_raises (1 : Int32) (z_sI m 13 0 0 (0 : Int32))) fun r3 =>
    some (r3.1, r3.2)
  else
    Option.bind (f_X12_changes (z_sI m 13 0 0 (0 : Int32))) fun r4 =>
    f_X12_scatter_35 zF x2 x1 (0 : Int32) (0 : Int32) r4
theorem w_X12_scatter_103 (d k : Nat) {o : zO} {G : Nat → Nat → zL → List zA → zM → Prop} (R : zRu (d + 1) tX12_scatter 0 (z_hf []) o G) (c35 : Int32 → Int32 → Int32 → Int32 → zM → Option (Int32 × zM)) (c74 : Int32 → Int32 → Int32 → Int32 → Int32 → Int32 → zM → Option (Int32 × zM)) (hc35 : ∀ (x2 : Int32) (x3 : Int32) (x4 : Int32) (x5 : Int32) (m : zM), zLK G (fun a => (z_cI a.1, a.2) : Int32 × zM → zO) o (c35 x2 x3 x4 x5 m) some (k + 0) 35 [some (.inr (13, 0)), none, some (.inl (.int x2)), some (.inl (.int x3)), some (.inl (.int x4)), some (.inl (.int x5)), none, none] [] m) (hc74 : ∀ (x2 : Int32) (x3 : Int32) (x4 : Int32) (x5 : Int32) (x6 : Int32) (x7 : Int32) (m : zM), zLK G (fun a => (z_cI a.1, a.2) : Int32 × zM → zO) o (c74 x2 x3 x4 x5 x6 x7 m) some (k + 0) 74 [some (.inr (13, 0)), none, some (.inl (.int x2)), some (.inl (.int x3)), some (.inl (.int x4)), some (.inl (.int x5)), some (.inl (.int x6)), some (.inl (.int x7))] [] m) (x2 : Int32) (x3 : Int32) (x4 : Int32) (x5 : Int32) (x7 : Int32) (s0 : Int32) (s1 : Int32) (m : zM) : zLK G (fun a => (z_cI a.1, a.2) : Int32 × zM → zO) o (f_X12_scatter_103 c35 c74 x2 x3 x4 x5 x7 s0 s1 m) some (k + 0) 103 [some (.inr (13, 0)), none, some (.inl (.int x2)), some (.inl (.int x3)), some (.inl (.int x4)), some (.inl (.int x5)), none, some (.inl (.int x7))] [.inl (.int s1), .inl (.int s0)] m := by
  unfold f_X12_scatter_103
  refine zk_st R 4 74 [some (.inr (13, 0)), none, some (.inl (.int x2)), some (.inl (.int x3)), some (.inl (.int x4)), some (.inl (.int x5)), some (.inl (.int (s0 &&& s1))), some (.inl (.int (x7 + (1 : Int32))))] [] m rfl ⟨trivial, trivial, trivial, trivial, trivial⟩ ?_
  refine zk_mask R [true, false, true, true, true, true, true, true] rfl ?_
  exact hc74 x2 x3 x4 x5 (s0 &&& s1) (x7 + (1 : Int32)) m
theorem w_X12_scatter_74 (d k : Nat) {o : zO} {G : Nat → Nat → zL → List zA → zM → Prop} (R : zRu (d + 1) tX12_scatter 0 (z_hf []) o G) (c35 : Int32 → Int32 → Int32 → Int32 → zM → Option (Int32 × zM)) (hc35 : ∀ (x2 : Int32) (x3 : Int32) (x4 : Int32) (x5 : Int32) (m : zM), zLK G (fun a => (z_cI a.1, a.2) : Int32 × zM → zO) o (c35 x2 x3 x4 x5 m) some (k + 0) 35 [some (.inr (13, 0)), none, some (.inl (.int x2)), some (.inl (.int x3)), some (.inl (.int x4)), some (.inl (.int x5)), none, none] [] m) : ∀ (j : Nat) (x2 : Int32) (x3 : Int32) (x4 : Int32) (x5 : Int32) (x6 : Int32) (x7 : Int32) (m : zM), zLK G (fun a => (z_cI a.1, a.2) : Int32 × zM → zO) o (f_X12_scatter_74 c35 j x2 x3 x4 x5 x6 x7 m) some (k + 0) 74 [some (.inr (13, 0)), none, some (.inl (.int x2)), some (.inl (.int x3)), some (.inl (.int x4)), some (.inl (.int x5)), some (.inl (.int x6)), some (.inl (.int x7))] [] m := by
  intro j
  induction j with
  | zero =>
    intro _ _ _ _ _ _ _
    exact zk_none
  | succ j ih =>
    intro x2 x3 x4 x5 x6 x7 m
    unfold f_X12_scatter_74
    refine zk_st R 2 78 [some (.inr (13, 0)), none, some (.inl (.int x2)), some (.inl (.int x3)), some (.inl (.int x4)), some (.inl (.int x5)), some (.inl (.int x6)), some (.inl (.int x7))] [.inl (.int x5), .inl (.int x7)] m rfl ⟨trivial, trivial, trivial⟩ ?_
    refine zk_br R rfl (fun _ => ?_) (fun _ => ?_)
    · refine zk_st R 1 114 [some (.inr (13, 0)), none, some (.inl (.int x2)), some (.inl (.int x3)), some (.inl (.int x4)), some (.inl (.int x5)), some (.inl (.int x6)), some (.inl (.int x7))] [.inl (.int x6)] m rfl ⟨trivial, trivial⟩ ?_
      refine zk_br R rfl (fun _ => ?_) (fun _ => ?_)
      · refine zk_st R 2 35 [some (.inr (13, 0)), none, some (.inl (.int x2)), some (.inl (.int x3)), some (.inl (.int x4)), some (.inl (.int (x5 + (1 : Int32)))), some (.inl (.int x6)), some (.inl (.int x7))] [] m rfl ⟨trivial, trivial, trivial⟩ ?_
        refine zk_mask R [true, false, true, true, true, true, false, false] rfl ?_
        exact hc35 x2 x3 x4 (x5 + (1 : Int32)) m
      · refine zk_st R 3 35 [some (.inr (13, 0)), none, some (.inl (.int x2)), some (.inl (.int x3)), some (.inl (.int (x4 + (1 : Int32)))), some (.inl (.int (x5 + (1 : Int32)))), some (.inl (.int x6)), some (.inl (.int x7))] [] m rfl ⟨trivial, trivial, trivial, trivial⟩ ?_
        refine zk_mask R [true, false, true, true, true, true, false, false] rfl ?_
        exact hc35 x2 x3 (x4 + (1 : Int32)) (x5 + (1 : Int32)) m
    · refine zk_st R 3 86 [some (.inr (13, 0)), none, some (.inl (.int x2)), some (.inl (.int x3)), some (.inl (.int x4)), some (.inl (.int x5)), some (.inl (.int x6)), some (.inl (.int x7))] [.inl (.int x7), .inr (13, 0), .inl (.int x6)] m rfl ⟨trivial, trivial, trivial, trivial⟩ ?_
      refine zk_call R (fun b => some (.inl (.int b))) (fun _ => m) rfl (r_X12_height (Nat.le_of_ble_eq_true rfl)) (fun b hb => w_X12_height d 0 x7 m b hb) (fun r3 => ?_)
      refine zk_st R 2 92 [some (.inr (13, 0)), none, some (.inl (.int x2)), some (.inl (.int x3)), some (.inl (.int x4)), some (.inl (.int x5)), some (.inl (.int x6)), some (.inl (.int x7))] [.inl (.int x5), .inr (13, 0), .inl (.int r3), .inl (.int x6)] m rfl ⟨trivial, trivial, trivial⟩ ?_
      refine zk_call R (fun b => some (.inl (.int b))) (fun _ => m) rfl (r_X12_height (Nat.le_of_ble_eq_true rfl)) (fun b hb => w_X12_height d 0 x5 m b hb) (fun r4 => ?_)
      refine zk_br R rfl (fun _ => ?_) (fun _ => ?_)
      · refine zk_st R 1 103 [some (.inr (13, 0)), none, some (.inl (.int x2)), some (.inl (.int x3)), some (.inl (.int x4)), some (.inl (.int x5)), some (.inl (.int x6)), some (.inl (.int x7))] [.inl (.int (0 : Int32)), .inl (.int x6)] m rfl ⟨trivial, trivial⟩ ?_
        refine zk_mask R [true, false, true, true, true, true, false, true] rfl ?_
        exact w_X12_scatter_103 d k R c35 (f_X12_scatter_74 c35 j) hc35 ih x2 x3 x4 x5 x7 x6 (0 : Int32) m
      · refine zk_st R 2 103 [some (.inr (13, 0)), none, some (.inl (.int x2)), some (.inl (.int x3)), some (.inl (.int x4)), some (.inl (.int x5)), some (.inl (.int x6)), some (.inl (.int x7))] [.inl (.int (1 : Int32)), .inl (.int x6)] m rfl ⟨trivial, trivial, trivial⟩ ?_
        refine zk_mask R [true, false, true, true, true, true, false, true] rfl ?_
        exact w_X12_scatter_103 d k R c35 (f_X12_scatter_74 c35 j) hc35 ih x2 x3 x4 x5 x7 x6 (1 : Int32) m
theorem w_X12_scatter_35 (d k : Nat) {o : zO} {G : Nat → Nat → zL → List zA → zM → Prop} (R : zRu (d + 1) tX12_scatter 0 (z_hf []) o G) : ∀ (j : Nat) (x2 : Int32) (x3 : Int32) (x4 : Int32) (x5 : Int32) (m : zM), zLK G (fun a => (z_cI a.1, a.2) : Int32 × zM → zO) o (f_X12_scatter_35 j x2 x3 x4 x5 m) some (k + 0) 35 [some (.inr (13, 0)), none, some (.inl (.int x2)), some (.inl (.int x3)), some (.inl (.int x4)), some (.inl (.int x5)), none, none] [] m := by
  intro j
  induction j with
  | zero =>
    intro _ _ _ _ _
    exact zk_none
  | succ j ih =>
    intro x2 x3 x4 x5 m
    unfold f_X12_scatter_35
    refine zk_st R 2 38 [some (.inr (13, 0)), none, some (.inl (.int x2)), some (.inl (.int x3)), some (.inl (.int x4)), some (.inl (.int x5)), none, none] [.inr (13, 0), .inl (.int x5)] m rfl ⟨trivial, trivial, trivial⟩ ?_
    refine zk_call R (fun b => some (.inl (.int b))) (fun _ => m) rfl (r_X12_cells (Nat.le_of_ble_eq_true rfl)) (fun b hb => w_X12_cells d 0 m b hb) (fun r1 => ?_)
    refine zk_br R rfl (fun _ => ?_) (fun _ => ?_)
    · refine zk_st R 1 128 [some (.inr (13, 0)), none, some (.inl (.int x2)), some (.inl (.int x3)), some (.inl (.int x4)), some (.inl (.int x5)), none, none] [.inl (.int x4)] m rfl ⟨trivial, trivial⟩ ?_
      exact zk_ret R rfl trivial rfl
    · refine zk_gd fun e3 => ?_
      refine zk_gd fun e4 => ?_
      refine zk_st R 21 74 [some (.inr (13, 0)), none, some (.inl (.int x2)), some (.inl (.int ((x3 * (1103515245 : Int32)) + (12345 : Int32)))), some (.inl (.int x4)), some (.inl (.int x5)), some (.inl (.int (1 : Int32))), some (.inl (.int (0 : Int32)))] [] (z_sI m 23 0 (Int32.toNatClampNeg ((3 : Int32) + x5)) (z_irem (z_iushr ((x3 * (1103515245 : Int32)) + (12345 : Int32)) (16 : Int32)) x2)) rfl ⟨trivial, trivial, trivial, trivial, trivial, trivial, trivial, (Nat.le_of_ble_eq_true rfl), trivial, trivial, trivial, trivial, trivial, trivial, trivial, (z_nz_ne e3), ⟨(Nat.le_of_ble_eq_true rfl), z_inb_in e4⟩, trivial, trivial, trivial, trivial, trivial⟩ ?_
      refine zk_mask R [true, false, true, true, true, true, true, true] rfl ?_
      exact w_X12_scatter_74 d k R (f_X12_scatter_35 j) ih zF x2 ((x3 * (1103515245 : Int32)) + (12345 : Int32)) x4 x5 (1 : Int32) (0 : Int32) (z_sI m 23 0 (Int32.toNatClampNeg ((3 : Int32) + x5)) (z_irem (z_iushr ((x3 * (1103515245 : Int32)) + (12345 : Int32)) (16 : Int32)) x2))
theorem w_X12_scatter (d k : Nat) (x1 : Int32) (x2 : Int32) (m : zM) (a : Int32 × zM) (ha : f_X12_scatter x1 x2 m = some a) : z_Ev z_MT zN zRf (d + 2) (k + 0) 169 [.inr (13, 0), .inl (.int x1), .inl (.int x2)] m ((fun a => (z_cI a.1, a.2) : Int32 × zM → zO) a) := by
  refine zk_top (I := (yX12_scatter, cX12_scatter, 8, (some .int), [], tX12_scatter, 13, 2, 13, 0, 0, 0)) (oc := (fun a => (z_cI a.1, a.2) : Int32 × zM → zO)) (a := a) rfl (Nat.le_of_ble_eq_true rfl) (fun G R => ?_) ha
  unfold f_X12_scatter
  refine zk_st R 7 11 [some (.inr (13, 0)), some (.inl (.int x1)), some (.inl (.int x2)), none, none, none, none, none] [.inl (.long (100 : Int64)), .inl (.long (1 : Int64)), .inl (.long (Int32.toInt64 x2))] (z_sI m 13 0 0 (0 : Int32)) rfl ⟨trivial, trivial, (Nat.le_of_ble_eq_true rfl), trivial, trivial, trivial, trivial, trivial⟩ ?_
  refine zk_call R (fun b => some (.inl (.int (z_bi b)))) (fun _ => (z_sI m 13 0 0 (0 : Int32))) rfl (r_X12_in) (fun b hb => w_X12_in d 0 (Int32.toInt64 x2) (1 : Int64) (100 : Int64) (z_sI m 13 0 0 (0 : Int32)) b hb) (fun r1 => ?_)
  refine zk_br R rfl (fun _ => ?_) (fun _ => ?_)
  · refine zk_st R 2 19 [some (.inr (13, 0)), some (.inl (.int x1)), some (.inl (.int x2)), none, none, none, none, none] [.inl (.int (1 : Int32)), .inr (13, 0)] (z_sI m 13 0 0 (0 : Int32)) rfl ⟨trivial, trivial, trivial⟩ ?_
    refine zk_call R (fun b => some (.inl (.int b.1))) (fun b => b.2) rfl (r_X12_raises (Nat.le_of_ble_eq_true rfl)) (fun b hb => w_X12_raises d 0 (1 : Int32) (z_sI m 13 0 0 (0 : Int32)) b hb) (fun r3 => ?_)
    exact zk_ret R rfl trivial rfl
  · refine zk_st R 1 24 [some (.inr (13, 0)), some (.inl (.int x1)), some (.inl (.int x2)), none, none, none, none, none] [.inr (13, 0)] (z_sI m 13 0 0 (0 : Int32)) rfl ⟨trivial, trivial⟩ ?_
    refine zk_call R (fun _ => none) id rfl (r_X12_changes (Nat.le_of_ble_eq_true rfl)) (fun b hb => w_X12_changes d 0 (z_sI m 13 0 0 (0 : Int32)) b hb) (fun r4 => ?_)
    refine zk_st R 6 35 [some (.inr (13, 0)), some (.inl (.int x1)), some (.inl (.int x2)), some (.inl (.int x1)), some (.inl (.int (0 : Int32))), some (.inl (.int (0 : Int32))), none, none] [] r4 rfl ⟨trivial, trivial, trivial, trivial, trivial, trivial, trivial⟩ ?_
    refine zk_mask R [true, false, true, true, true, true, false, false] rfl ?_
    exact w_X12_scatter_35 d k R zF x2 x1 (0 : Int32) (0 : Int32) r4
theorem r_X12_setThreshold {i : Nat} {t : List zA} (h : i < zN 13) : z_rcv zN (zKD 176) (.inr (13, i) :: t) := by
  rw [show zKD 176 = 13 from rfl]
  exact ⟨rfl, h⟩
noncomputable def f_X12_setThreshold (x1 : Int32) (m : zM) : Option (Int32 × zM) :=
  Option.bind (f_X12_in (Int32.toInt64 x1) (1 : Int64) (99 : Int64) (z_sI m 13 0 0 (0 : Int32))) fun r1 =>
  if (z_bi r1) = 0 then
    Option.bind (f_X12_raises (1 : Int32) (z_sI m 13 0 0 (0 : Int32))) fun r3 =>
    some (r3.1, r3.2)
  else
    Option.bind (f_X12_changes (z_sI m 13 0 0 (0 : Int32))) fun r4 =>
    z_gd (z_inb (2 : Int32) (z_alen 23)) <| some ((r4.1 23 0 (Int32.toNatClampNeg (2 : Int32))), (z_sI r4 23 0 (Int32.toNatClampNeg (2 : Int32)) x1))
theorem w_X12_setThreshold (d k : Nat) (x1 : Int32) (m : zM) (a : Int32 × zM) (ha : f_X12_setThreshold x1 m = some a) : z_Ev z_MT zN zRf (d + 2) (k + 0) 176 [.inr (13, 0), .inl (.int x1)] m ((fun a => (z_cI a.1, a.2) : Int32 × zM → zO) a) := by
  refine zk_top (I := (yX12_setThreshold, cX12_setThreshold, 3, (some .int), [], tX12_setThreshold, 13, 1, 13, 0, 0, 0)) (oc := (fun a => (z_cI a.1, a.2) : Int32 × zM → zO)) (a := a) rfl (Nat.le_of_ble_eq_true rfl) (fun G R => ?_) ha
  unfold f_X12_setThreshold
  refine zk_st R 7 11 [some (.inr (13, 0)), some (.inl (.int x1)), none] [.inl (.long (99 : Int64)), .inl (.long (1 : Int64)), .inl (.long (Int32.toInt64 x1))] (z_sI m 13 0 0 (0 : Int32)) rfl ⟨trivial, trivial, (Nat.le_of_ble_eq_true rfl), trivial, trivial, trivial, trivial, trivial⟩ ?_
  refine zk_call R (fun b => some (.inl (.int (z_bi b)))) (fun _ => (z_sI m 13 0 0 (0 : Int32))) rfl (r_X12_in) (fun b hb => w_X12_in d 0 (Int32.toInt64 x1) (1 : Int64) (99 : Int64) (z_sI m 13 0 0 (0 : Int32)) b hb) (fun r1 => ?_)
  refine zk_br R rfl (fun _ => ?_) (fun _ => ?_)
  · refine zk_st R 2 19 [some (.inr (13, 0)), some (.inl (.int x1)), none] [.inl (.int (1 : Int32)), .inr (13, 0)] (z_sI m 13 0 0 (0 : Int32)) rfl ⟨trivial, trivial, trivial⟩ ?_
    refine zk_call R (fun b => some (.inl (.int b.1))) (fun b => b.2) rfl (r_X12_raises (Nat.le_of_ble_eq_true rfl)) (fun b hb => w_X12_raises d 0 (1 : Int32) (z_sI m 13 0 0 (0 : Int32)) b hb) (fun r3 => ?_)
    exact zk_ret R rfl trivial rfl
  · refine zk_st R 1 24 [some (.inr (13, 0)), some (.inl (.int x1)), none] [.inr (13, 0)] (z_sI m 13 0 0 (0 : Int32)) rfl ⟨trivial, trivial⟩ ?_
    refine zk_call R (fun _ => none) id rfl (r_X12_changes (Nat.le_of_ble_eq_true rfl)) (fun b hb => w_X12_changes d 0 (z_sI m 13 0 0 (0 : Int32)) b hb) (fun r4 => ?_)
    refine zk_gd fun e5 => ?_
    refine zk_st R 11 42 [some (.inr (13, 0)), some (.inl (.int x1)), some (.inl (.int (r4.1 23 0 (Int32.toNatClampNeg (2 : Int32)))))] [.inl (.int (r4.1 23 0 (Int32.toNatClampNeg (2 : Int32))))] (z_sI r4 23 0 (Int32.toNatClampNeg (2 : Int32)) x1) rfl ⟨trivial, (Nat.le_of_ble_eq_true rfl), trivial, ⟨(Nat.le_of_ble_eq_true rfl), z_inb_in e5⟩, trivial, trivial, (Nat.le_of_ble_eq_true rfl), trivial, trivial, ⟨(Nat.le_of_ble_eq_true rfl), z_inb_in e5⟩, trivial, trivial⟩ ?_
    exact zk_ret R rfl trivial rfl
theorem r_X12_levels {i : Nat} {t : List zA} (h : i < zN 13) : z_rcv zN (zKD 178) (.inr (13, i) :: t) := by
  rw [show zKD 178 = 13 from rfl]
  exact ⟨rfl, h⟩
noncomputable def f_X12_levels_60 (c42 : Int32 → zM → Option (zM)) (c50 : Int32 → Int32 → zM → Option (zM)) : Nat → Int32 → Int32 → Int32 → zM → Option (zM)
  | 0, _, _, _, _ => none
  | j + 1, x1, x2, x3, m =>
    if (4 : Int32) ≤ x3 then
      c50 x1 (x2 + (1 : Int32)) m
    else
      Option.bind (f_X12_next x2 x3 m) fun r2 =>
      if r2 < 0 then
        f_X12_levels_60 c42 c50 j x1 x2 (x3 + (1 : Int32)) m
      else
        Option.bind (f_X12_height x2 m) fun r4 =>
        z_gd (z_inb r2 (z_alen 20)) <| Option.bind (f_J9_max_7cf53 r4 (m.1 20 59 (Int32.toNatClampNeg r2)) m) fun r6 =>
        z_gd (z_inb x2 (z_alen 20)) <| if r6 < (m.1 20 59 (Int32.toNatClampNeg x2)) then
          Option.bind (f_X12_height x2 m) fun r9 =>
          z_gd (z_inb r2 (z_alen 20)) <| Option.bind (f_J9_max_7cf53 r9 (m.1 20 59 (Int32.toNatClampNeg r2)) m) fun r11 =>
          z_gd (z_inb x2 (z_alen 20)) <| f_X12_levels_60 c42 c50 j (1 : Int32) x2 (x3 + (1 : Int32)) (z_sI m 20 59 (Int32.toNatClampNeg x2) r11)
        else
          f_X12_levels_60 c42 c50 j x1 x2 (x3 + (1 : Int32)) m
noncomputable def f_X12_levels_50 (c42 : Int32 → zM → Option (zM)) : Nat → Int32 → Int32 → zM → Option (zM)
  | 0, _, _, _ => none
  | j + 1, x1, x2, m =>
    Option.bind (f_X12_cells m) fun r1 =>
    if r1 ≤ x2 then
      c42 x1 m
    else
      f_X12_levels_60 c42 (f_X12_levels_50 c42 j) zF x1 x2 (0 : Int32) m
noncomputable def f_X12_levels_42 : Nat → Int32 → zM → Option (zM)
  | 0, _, _ => none
  | j + 1, x1, m =>
    if x1 = 0 then
      some m
    else
      f_X12_levels_50 (f_X12_levels_42 j) zF (0 : Int32) (0 : Int32) m
noncomputable def f_X12_levels_33 (c2 : Int32 → zM → Option (zM)) (x1 : Int32) (s1 : Int32) (s2 : Int32) (m : zM) : Option (zM) :=
  z_gd (z_inb s1 (z_alen 20)) <| c2 (x1 + (1 : Int32)) (z_sI m 20 59 (Int32.toNatClampNeg s1) s2)
noncomputable def f_X12_levels_2 : Nat → Int32 → zM → Option (zM)
  | 0, _, _ => none
  | j + 1, x1, m =>
    Option.bind (f_X12_cells m) fun r1 =>
    if r1 ≤ x1 then
      f_X12_levels_42 zF (1 : Int32) m
    else
      Option.bind (f_X12_isOutlet x1 m) fun r3 =>
      if (z_bi r3) = 0 then
        f_X12_levels_33 (f_X12_levels_2 j) x1 x1 (1000000 : Int32) m
      else
        Option.bind (f_X12_height x1 m) fun r5 =>
        f_X12_levels_33 (f_X12_levels_2 j) x1 x1 r5 m
noncomputable def f_X12_levels (m : zM) : Option (zM) :=
  f_X12_levels_2 zF (0 : Int32) m
theorem w_X12_levels_60 (d k : Nat) {o : zO} {G : Nat → Nat → zL → List zA → zM → Prop} (R : zRu (d + 1) tX12_levels 0 (z_hf []) o G) (c42 : Int32 → zM → Option (zM)) (c50 : Int32 → Int32 → zM → Option (zM)) (hc42 : ∀ (x1 : Int32) (m : zM), zLK G (fun a => (.inl none, a) : zM → zO) o (c42 x1 m) some (k + 0) 42 [some (.inr (13, 0)), some (.inl (.int x1)), none, none, none] [] m) (hc50 : ∀ (x1 : Int32) (x2 : Int32) (m : zM), zLK G (fun a => (.inl none, a) : zM → zO) o (c50 x1 x2 m) some (k + 0) 50 [some (.inr (13, 0)), some (.inl (.int x1)), some (.inl (.int x2)), none, none] [] m) : ∀ (j : Nat) (x1 : Int32) (x2 : Int32) (x3 : Int32) (m : zM), zLK G (fun a => (.inl none, a) : zM → zO) o (f_X12_levels_60 c42 c50 j x1 x2 x3 m) some (k + 0) 60 [some (.inr (13, 0)), some (.inl (.int x1)), some (.inl (.int x2)), some (.inl (.int x3)), none] [] m := by
  intro j
  induction j with
  | zero =>
    intro _ _ _ _
    exact zk_none
  | succ j ih =>
    intro x1 x2 x3 m
    unfold f_X12_levels_60
    refine zk_st R 2 62 [some (.inr (13, 0)), some (.inl (.int x1)), some (.inl (.int x2)), some (.inl (.int x3)), none] [.inl (.int (4 : Int32)), .inl (.int x3)] m rfl ⟨trivial, trivial, trivial⟩ ?_
    refine zk_br R rfl (fun _ => ?_) (fun _ => ?_)
    · refine zk_st R 2 50 [some (.inr (13, 0)), some (.inl (.int x1)), some (.inl (.int (x2 + (1 : Int32)))), some (.inl (.int x3)), none] [] m rfl ⟨trivial, trivial, trivial⟩ ?_
      refine zk_mask R [true, true, true, false, false] rfl ?_
      exact hc50 x1 (x2 + (1 : Int32)) m
    · refine zk_st R 3 68 [some (.inr (13, 0)), some (.inl (.int x1)), some (.inl (.int x2)), some (.inl (.int x3)), none] [.inl (.int x3), .inl (.int x2), .inr (13, 0)] m rfl ⟨trivial, trivial, trivial, trivial⟩ ?_
      refine zk_call R (fun b => some (.inl (.int b))) (fun _ => m) rfl (r_X12_next (Nat.le_of_ble_eq_true rfl)) (fun b hb => w_X12_next d 0 x2 x3 m b hb) (fun r2 => ?_)
      refine zk_st R 2 75 [some (.inr (13, 0)), some (.inl (.int x1)), some (.inl (.int x2)), some (.inl (.int x3)), some (.inl (.int r2))] [.inl (.int r2)] m rfl ⟨trivial, trivial, trivial⟩ ?_
      refine zk_br R rfl (fun _ => ?_) (fun _ => ?_)
      · refine zk_st R 2 60 [some (.inr (13, 0)), some (.inl (.int x1)), some (.inl (.int x2)), some (.inl (.int (x3 + (1 : Int32)))), some (.inl (.int r2))] [] m rfl ⟨trivial, trivial, trivial⟩ ?_
        refine zk_mask R [true, true, true, true, false] rfl ?_
        exact ih x1 x2 (x3 + (1 : Int32)) m
      · refine zk_st R 2 80 [some (.inr (13, 0)), some (.inl (.int x1)), some (.inl (.int x2)), some (.inl (.int x3)), some (.inl (.int r2))] [.inl (.int x2), .inr (13, 0)] m rfl ⟨trivial, trivial, trivial⟩ ?_
        refine zk_call R (fun b => some (.inl (.int b))) (fun _ => m) rfl (r_X12_height (Nat.le_of_ble_eq_true rfl)) (fun b hb => w_X12_height d 0 x2 m b hb) (fun r4 => ?_)
        refine zk_gd fun e5 => ?_
        refine zk_st R 4 90 [some (.inr (13, 0)), some (.inl (.int x1)), some (.inl (.int x2)), some (.inl (.int x3)), some (.inl (.int r2))] [.inl (.int (m.1 20 59 (Int32.toNatClampNeg r2))), .inl (.int r4)] m rfl ⟨trivial, (Nat.le_of_ble_eq_true rfl), trivial, ⟨(Nat.le_of_ble_eq_true rfl), z_inb_in e5⟩, trivial⟩ ?_
        refine zk_call R (fun b => some (.inl (.int b))) (fun _ => m) rfl (r_J9_max_7cf53) (fun b hb => w_J9_max_7cf53 d 0 r4 (m.1 20 59 (Int32.toNatClampNeg r2)) m b hb) (fun r6 => ?_)
        refine zk_gd fun e7 => ?_
        refine zk_st R 4 99 [some (.inr (13, 0)), some (.inl (.int x1)), some (.inl (.int x2)), some (.inl (.int x3)), some (.inl (.int r2))] [.inl (.int (m.1 20 59 (Int32.toNatClampNeg x2))), .inl (.int r6)] m rfl ⟨trivial, (Nat.le_of_ble_eq_true rfl), trivial, ⟨(Nat.le_of_ble_eq_true rfl), z_inb_in e7⟩, trivial⟩ ?_
        refine zk_br R rfl (fun _ => ?_) (fun _ => ?_)
        · refine zk_st R 5 112 [some (.inr (13, 0)), some (.inl (.int x1)), some (.inl (.int x2)), some (.inl (.int x3)), some (.inl (.int r2))] [.inl (.int x2), .inr (13, 0), .inl (.int x2), .inr (20, 59)] m rfl ⟨trivial, (Nat.le_of_ble_eq_true rfl), trivial, trivial, trivial, trivial⟩ ?_
          refine zk_call R (fun b => some (.inl (.int b))) (fun _ => m) rfl (r_X12_height (Nat.le_of_ble_eq_true rfl)) (fun b hb => w_X12_height d 0 x2 m b hb) (fun r9 => ?_)
          refine zk_gd fun e10 => ?_
          refine zk_st R 4 122 [some (.inr (13, 0)), some (.inl (.int x1)), some (.inl (.int x2)), some (.inl (.int x3)), some (.inl (.int r2))] [.inl (.int (m.1 20 59 (Int32.toNatClampNeg r2))), .inl (.int r9), .inl (.int x2), .inr (20, 59)] m rfl ⟨trivial, (Nat.le_of_ble_eq_true rfl), trivial, ⟨(Nat.le_of_ble_eq_true rfl), z_inb_in e10⟩, trivial⟩ ?_
          refine zk_call R (fun b => some (.inl (.int b))) (fun _ => m) rfl (r_J9_max_7cf53) (fun b hb => w_J9_max_7cf53 d 0 r9 (m.1 20 59 (Int32.toNatClampNeg r2)) m b hb) (fun r11 => ?_)
          refine zk_gd fun e12 => ?_
          refine zk_st R 5 60 [some (.inr (13, 0)), some (.inl (.int (1 : Int32))), some (.inl (.int x2)), some (.inl (.int (x3 + (1 : Int32)))), some (.inl (.int r2))] [] (z_sI m 20 59 (Int32.toNatClampNeg x2) r11) rfl ⟨⟨(Nat.le_of_ble_eq_true rfl), z_inb_in e12⟩, trivial, trivial, trivial, trivial, trivial⟩ ?_
          refine zk_mask R [true, true, true, true, false] rfl ?_
          exact ih (1 : Int32) x2 (x3 + (1 : Int32)) (z_sI m 20 59 (Int32.toNatClampNeg x2) r11)
        · refine zk_st R 3 60 [some (.inr (13, 0)), some (.inl (.int x1)), some (.inl (.int x2)), some (.inl (.int (x3 + (1 : Int32)))), some (.inl (.int r2))] [] m rfl ⟨trivial, trivial, trivial, trivial⟩ ?_
          refine zk_mask R [true, true, true, true, false] rfl ?_
          exact ih x1 x2 (x3 + (1 : Int32)) m
theorem w_X12_levels_50 (d k : Nat) {o : zO} {G : Nat → Nat → zL → List zA → zM → Prop} (R : zRu (d + 1) tX12_levels 0 (z_hf []) o G) (c42 : Int32 → zM → Option (zM)) (hc42 : ∀ (x1 : Int32) (m : zM), zLK G (fun a => (.inl none, a) : zM → zO) o (c42 x1 m) some (k + 0) 42 [some (.inr (13, 0)), some (.inl (.int x1)), none, none, none] [] m) : ∀ (j : Nat) (x1 : Int32) (x2 : Int32) (m : zM), zLK G (fun a => (.inl none, a) : zM → zO) o (f_X12_levels_50 c42 j x1 x2 m) some (k + 0) 50 [some (.inr (13, 0)), some (.inl (.int x1)), some (.inl (.int x2)), none, none] [] m := by
  intro j
  induction j with
  | zero =>
    intro _ _ _
    exact zk_none
  | succ j ih =>
    intro x1 x2 m
    unfold f_X12_levels_50
    refine zk_st R 2 52 [some (.inr (13, 0)), some (.inl (.int x1)), some (.inl (.int x2)), none, none] [.inr (13, 0), .inl (.int x2)] m rfl ⟨trivial, trivial, trivial⟩ ?_
    refine zk_call R (fun b => some (.inl (.int b))) (fun _ => m) rfl (r_X12_cells (Nat.le_of_ble_eq_true rfl)) (fun b hb => w_X12_cells d 0 m b hb) (fun r1 => ?_)
    refine zk_br R rfl (fun _ => ?_) (fun _ => ?_)
    · refine zk_st R 1 42 [some (.inr (13, 0)), some (.inl (.int x1)), some (.inl (.int x2)), none, none] [] m rfl ⟨trivial, trivial⟩ ?_
      refine zk_mask R [true, true, false, false, false] rfl ?_
      exact hc42 x1 m
    · refine zk_st R 2 60 [some (.inr (13, 0)), some (.inl (.int x1)), some (.inl (.int x2)), some (.inl (.int (0 : Int32))), none] [] m rfl ⟨trivial, trivial, trivial⟩ ?_
      refine zk_mask R [true, true, true, true, false] rfl ?_
      exact w_X12_levels_60 d k R c42 (f_X12_levels_50 c42 j) hc42 ih zF x1 x2 (0 : Int32) m
theorem w_X12_levels_42 (d k : Nat) {o : zO} {G : Nat → Nat → zL → List zA → zM → Prop} (R : zRu (d + 1) tX12_levels 0 (z_hf []) o G) : ∀ (j : Nat) (x1 : Int32) (m : zM), zLK G (fun a => (.inl none, a) : zM → zO) o (f_X12_levels_42 j x1 m) some (k + 0) 42 [some (.inr (13, 0)), some (.inl (.int x1)), none, none, none] [] m := by
  intro j
  induction j with
  | zero =>
    intro _ _
    exact zk_none
  | succ j ih =>
    intro x1 m
    unfold f_X12_levels_42
    refine zk_st R 1 43 [some (.inr (13, 0)), some (.inl (.int x1)), none, none, none] [.inl (.int x1)] m rfl ⟨trivial, trivial⟩ ?_
    refine zk_br R rfl (fun _ => ?_) (fun _ => ?_)
    · exact zk_ret R rfl trivial rfl
    · refine zk_st R 4 50 [some (.inr (13, 0)), some (.inl (.int (0 : Int32))), some (.inl (.int (0 : Int32))), none, none] [] m rfl ⟨trivial, trivial, trivial, trivial, trivial⟩ ?_
      refine zk_mask R [true, true, true, false, false] rfl ?_
      exact w_X12_levels_50 d k R (f_X12_levels_42 j) ih zF (0 : Int32) (0 : Int32) m
theorem w_X12_levels_33 (d k : Nat) {o : zO} {G : Nat → Nat → zL → List zA → zM → Prop} (R : zRu (d + 1) tX12_levels 0 (z_hf []) o G) (c2 : Int32 → zM → Option (zM)) (hc2 : ∀ (x1 : Int32) (m : zM), zLK G (fun a => (.inl none, a) : zM → zO) o (c2 x1 m) some (k + 0) 2 [some (.inr (13, 0)), some (.inl (.int x1)), none, none, none] [] m) (x1 : Int32) (s1 : Int32) (s2 : Int32) (m : zM) : zLK G (fun a => (.inl none, a) : zM → zO) o (f_X12_levels_33 c2 x1 s1 s2 m) some (k + 0) 33 [some (.inr (13, 0)), some (.inl (.int x1)), none, none, none] [.inl (.int s2), .inl (.int s1), .inr (20, 59)] m := by
  unfold f_X12_levels_33
  refine zk_gd fun e1 => ?_
  refine zk_st R 3 2 [some (.inr (13, 0)), some (.inl (.int (x1 + (1 : Int32)))), none, none, none] [] (z_sI m 20 59 (Int32.toNatClampNeg s1) s2) rfl ⟨⟨(Nat.le_of_ble_eq_true rfl), z_inb_in e1⟩, trivial, trivial, trivial⟩ ?_
  refine zk_mask R [true, true, false, false, false] rfl ?_
  exact hc2 (x1 + (1 : Int32)) (z_sI m 20 59 (Int32.toNatClampNeg s1) s2)
theorem w_X12_levels_2 (d k : Nat) {o : zO} {G : Nat → Nat → zL → List zA → zM → Prop} (R : zRu (d + 1) tX12_levels 0 (z_hf []) o G) : ∀ (j : Nat) (x1 : Int32) (m : zM), zLK G (fun a => (.inl none, a) : zM → zO) o (f_X12_levels_2 j x1 m) some (k + 0) 2 [some (.inr (13, 0)), some (.inl (.int x1)), none, none, none] [] m := by
  intro j
  induction j with
  | zero =>
    intro _ _
    exact zk_none
  | succ j ih =>
    intro x1 m
    unfold f_X12_levels_2
    refine zk_st R 2 4 [some (.inr (13, 0)), some (.inl (.int x1)), none, none, none] [.inr (13, 0), .inl (.int x1)] m rfl ⟨trivial, trivial, trivial⟩ ?_
    refine zk_call R (fun b => some (.inl (.int b))) (fun _ => m) rfl (r_X12_cells (Nat.le_of_ble_eq_true rfl)) (fun b hb => w_X12_cells d 0 m b hb) (fun r1 => ?_)
    refine zk_br R rfl (fun _ => ?_) (fun _ => ?_)
    · refine zk_st R 2 42 [some (.inr (13, 0)), some (.inl (.int (1 : Int32))), none, none, none] [] m rfl ⟨trivial, trivial, trivial⟩ ?_
      refine zk_mask R [true, true, false, false, false] rfl ?_
      exact w_X12_levels_42 d k R zF (1 : Int32) m
    · refine zk_st R 5 17 [some (.inr (13, 0)), some (.inl (.int x1)), none, none, none] [.inl (.int x1), .inr (13, 0), .inl (.int x1), .inr (20, 59)] m rfl ⟨trivial, (Nat.le_of_ble_eq_true rfl), trivial, trivial, trivial, trivial⟩ ?_
      refine zk_call R (fun b => some (.inl (.int (z_bi b)))) (fun _ => m) rfl (r_X12_isOutlet (Nat.le_of_ble_eq_true rfl)) (fun b hb => w_X12_isOutlet d 0 x1 m b hb) (fun r3 => ?_)
      refine zk_br R rfl (fun _ => ?_) (fun _ => ?_)
      · refine zk_st R 1 33 [some (.inr (13, 0)), some (.inl (.int x1)), none, none, none] [.inl (.int (1000000 : Int32)), .inl (.int x1), .inr (20, 59)] m rfl ⟨trivial, trivial⟩ ?_
        refine zk_mask R [true, true, false, false, false] rfl ?_
        exact w_X12_levels_33 d k R (f_X12_levels_2 j) ih x1 x1 (1000000 : Int32) m
      · refine zk_st R 2 25 [some (.inr (13, 0)), some (.inl (.int x1)), none, none, none] [.inl (.int x1), .inr (13, 0), .inl (.int x1), .inr (20, 59)] m rfl ⟨trivial, trivial, trivial⟩ ?_
        refine zk_call R (fun b => some (.inl (.int b))) (fun _ => m) rfl (r_X12_height (Nat.le_of_ble_eq_true rfl)) (fun b hb => w_X12_height d 0 x1 m b hb) (fun r5 => ?_)
        refine zk_st R 1 33 [some (.inr (13, 0)), some (.inl (.int x1)), none, none, none] [.inl (.int r5), .inl (.int x1), .inr (20, 59)] m rfl ⟨trivial, trivial⟩ ?_
        refine zk_mask R [true, true, false, false, false] rfl ?_
        exact w_X12_levels_33 d k R (f_X12_levels_2 j) ih x1 x1 r5 m
theorem w_X12_levels (d k : Nat) (m : zM) (a : zM) (ha : f_X12_levels m = some a) : z_Ev z_MT zN zRf (d + 2) (k + 0) 178 [.inr (13, 0)] m ((fun a => (.inl none, a) : zM → zO) a) := by
  refine zk_top (I := (yX12_levels, cX12_levels, 5, none, [], tX12_levels, 13, 0, 13, 0, 0, 0)) (oc := (fun a => (.inl none, a) : zM → zO)) (a := a) rfl (Nat.le_of_ble_eq_true rfl) (fun G R => ?_) ha
  unfold f_X12_levels
  refine zk_st R 2 2 [some (.inr (13, 0)), some (.inl (.int (0 : Int32))), none, none, none] [] m rfl ⟨trivial, trivial, trivial⟩ ?_
  refine zk_mask R [true, true, false, false, false] rfl ?_
  exact w_X12_levels_2 d k R zF (0 : Int32) m
theorem r_X12_depth {i : Nat} {t : List zA} (h : i < zN 13) : z_rcv zN (zKD 179) (.inr (13, i) :: t) := by
  rw [show zKD 179 = 13 from rfl]
  exact ⟨rfl, h⟩
noncomputable def f_X12_depth (x1 : Int32) (m : zM) : Option (Int32) :=
  z_gd (z_inb x1 (z_alen 20)) <| Option.bind (f_X12_height x1 m) fun r2 =>
  some ((m.1 20 59 (Int32.toNatClampNeg x1)) - r2)
theorem w_X12_depth (d k : Nat) (x1 : Int32) (m : zM) (a : Int32) (ha : f_X12_depth x1 m = some a) : z_Ev z_MT zN zRf (d + 2) (k + 0) 179 [.inr (13, 0), .inl (.int x1)] m ((fun a => (z_cI a, m) : Int32 → zO) a) := by
  refine zk_top (I := (yX12_depth, cX12_depth, 2, (some .int), [], tX12_depth, 13, 1, 13, 0, 0, 0)) (oc := (fun a => (z_cI a, m) : Int32 → zO)) (a := a) rfl (Nat.le_of_ble_eq_true rfl) (fun G R => ?_) ha
  unfold f_X12_depth
  refine zk_gd fun e1 => ?_
  refine zk_st R 6 8 [some (.inr (13, 0)), some (.inl (.int x1))] [.inl (.int x1), .inr (13, 0), .inl (.int (m.1 20 59 (Int32.toNatClampNeg x1)))] m rfl ⟨trivial, (Nat.le_of_ble_eq_true rfl), trivial, ⟨(Nat.le_of_ble_eq_true rfl), z_inb_in e1⟩, trivial, trivial, trivial⟩ ?_
  refine zk_call R (fun b => some (.inl (.int b))) (fun _ => m) rfl (r_X12_height (Nat.le_of_ble_eq_true rfl)) (fun b hb => w_X12_height d 0 x1 m b hb) (fun r2 => ?_)
  refine zk_st R 1 12 [some (.inr (13, 0)), some (.inl (.int x1))] [.inl (.int ((m.1 20 59 (Int32.toNatClampNeg x1)) - r2))] m rfl ⟨trivial, trivial⟩ ?_
  exact zk_ret R rfl trivial rfl
