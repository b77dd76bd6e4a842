theorem r_X4_edge {i : Nat} {t : List zA} (h : i < zN 6) : z_rcv zN (zKD 29) (.inr (6, i) :: t) := by
  rw [show zKD 29 = 6 from rfl]
  exact ⟨rfl, h⟩
noncomputable def f_X4_edge (g0 : Nat) (m : zM) : Option (Int64) :=
  Option.bind (f_X4_all g0 m) fun r1 =>
  Option.bind (f_X4_all g0 m) fun r2 =>
  Option.bind (f_X4_all g0 m) fun r3 =>
  Option.bind (f_X4_column g0 (0 : Int32) m) fun r4 =>
  Option.bind (f_X4_column g0 ((m.1 6 g0 0) - (1 : Int32)) m) fun r5 =>
  some (r3 &&& (((r4 ||| r5) ||| ((z_shl r1 (m.1 6 g0 0)) ^^^ (-1 : Int64))) ||| ((z_ushr r2 (m.1 6 g0 0)) ^^^ (-1 : Int64))))
theorem w_X4_edge (d k : Nat) (g0 : Nat) (hg0 : g0 < zN 6) (m : zM) (a : Int64) (ha : f_X4_edge g0 m = some a) : z_Ev z_MT zN zRf (d + 3) (k + 0) 29 [.inr (6, g0)] m ((fun a => (z_cL a, m) : Int64 → zO) a) := by
  refine zk_top (I := (yX4_edge, cX4_edge, 5, (some .long), [], tX4_edge, 6, 0, 6, 0, 0, 0)) (oc := (fun a => (z_cL a, m) : Int64 → zO)) (a := a) rfl (Nat.le_of_ble_eq_true rfl) (fun G R => ?_) ha
  unfold f_X4_edge
  refine zk_st R 1 1 [some (.inr (6, g0)), none, none, none, none] [.inr (6, g0)] m rfl ⟨trivial, trivial⟩ ?_
  refine zk_call R (fun b => some (.inl (.long b))) (fun _ => m) rfl (r_X4_all hg0) (fun b hb => w_X4_all d 0 g0 hg0 m b hb) (fun r1 => ?_)
  refine zk_st R 5 11 [some (.inr (6, g0)), some (.inl (.long (z_shl r1 (m.1 6 g0 0)))), none, none, none] [.inr (6, g0)] m rfl ⟨trivial, hg0, trivial, trivial, trivial, trivial⟩ ?_
  refine zk_call R (fun b => some (.inl (.long b))) (fun _ => m) rfl (r_X4_all hg0) (fun b hb => w_X4_all d 0 g0 hg0 m b hb) (fun r2 => ?_)
  refine zk_st R 5 21 [some (.inr (6, g0)), some (.inl (.long (z_shl r1 (m.1 6 g0 0)))), none, some (.inl (.long (z_ushr r2 (m.1 6 g0 0)))), none] [.inr (6, g0)] m rfl ⟨trivial, hg0, trivial, trivial, trivial, trivial⟩ ?_
  refine zk_call R (fun b => some (.inl (.long b))) (fun _ => m) rfl (r_X4_all hg0) (fun b hb => w_X4_all d 0 g0 hg0 m b hb) (fun r3 => ?_)
  refine zk_st R 2 26 [some (.inr (6, g0)), some (.inl (.long (z_shl r1 (m.1 6 g0 0)))), none, some (.inl (.long (z_ushr r2 (m.1 6 g0 0)))), none] [.inl (.int (0 : Int32)), .inr (6, g0), .inl (.long r3)] m rfl ⟨trivial, trivial, trivial⟩ ?_
  refine zk_call R (fun b => some (.inl (.long b))) (fun _ => m) rfl (r_X4_column hg0) (fun b hb => w_X4_column (d + 1) 0 g0 hg0 (0 : Int32) m b hb) (fun r4 => ?_)
  refine zk_st R 5 36 [some (.inr (6, g0)), some (.inl (.long (z_shl r1 (m.1 6 g0 0)))), none, some (.inl (.long (z_ushr r2 (m.1 6 g0 0)))), none] [.inl (.int ((m.1 6 g0 0) - (1 : Int32))), .inr (6, g0), .inl (.long r4), .inl (.long r3)] m rfl ⟨trivial, trivial, hg0, trivial, trivial, trivial⟩ ?_
  refine zk_call R (fun b => some (.inl (.long b))) (fun _ => m) rfl (r_X4_column hg0) (fun b hb => w_X4_column (d + 1) 0 g0 hg0 ((m.1 6 g0 0) - (1 : Int32)) m b hb) (fun r5 => ?_)
  refine zk_st R 10 53 [some (.inr (6, g0)), some (.inl (.long (z_shl r1 (m.1 6 g0 0)))), none, some (.inl (.long (z_ushr r2 (m.1 6 g0 0)))), none] [.inl (.long (r3 &&& (((r4 ||| r5) ||| ((z_shl r1 (m.1 6 g0 0)) ^^^ (-1 : Int64))) ||| ((z_ushr r2 (m.1 6 g0 0)) ^^^ (-1 : Int64)))))] m rfl ⟨trivial, trivial, trivial, trivial, trivial, trivial, trivial, trivial, trivial, trivial, trivial⟩ ?_
  exact zk_ret R rfl trivial rfl
theorem r_X4_differentHeights {i : Nat} {t : List zA} (h : i < zN 6) : z_rcv zN (zKD 33) (.inr (6, i) :: t) := by
  rw [show zKD 33 = 6 from rfl]
  exact ⟨rfl, h⟩
noncomputable def f_X4_differentHeights_4 (g0 : Nat) (m : zM) : Nat → Int32 → Int32 → Option (Int32)
  | 0, _, _ => none
  | j + 1, x1, x2 =>
    if (99 : Int32) < x2 then
      some x1
    else
      Option.bind (f_X4_hasHeight g0 x2 m) fun r2 =>
      if (z_bi r2) = 0 then
        f_X4_differentHeights_4 g0 m j x1 (x2 + (1 : Int32))
      else
        f_X4_differentHeights_4 g0 m j (x1 + (1 : Int32)) (x2 + (1 : Int32))
noncomputable def f_X4_differentHeights (g0 : Nat) (m : zM) : Option (Int32) :=
  f_X4_differentHeights_4 g0 m zF (0 : Int32) (0 : Int32)
theorem w_X4_differentHeights_4 (d k : Nat) {o : zO} {G : Nat → Nat → zL → List zA → zM → Prop} (g0 : Nat) (hg0 : g0 < zN 6) (m : zM) (R : zRu (d + 2) tX4_differentHeights 0 (z_hf []) o G) : ∀ (j : Nat) (x1 : Int32) (x2 : Int32), zLK G (fun a => (z_cI a, m) : Int32 → zO) o (f_X4_differentHeights_4 g0 m j x1 x2) some (k + 0) 4 [some (.inr (6, g0)), some (.inl (.int x1)), some (.inl (.int x2))] [] m := by
  intro j
  induction j with
  | zero =>
    intro _ _
    exact zk_none
  | succ j ih =>
    intro x1 x2
    unfold f_X4_differentHeights_4
    refine zk_st R 2 7 [some (.inr (6, g0)), some (.inl (.int x1)), some (.inl (.int x2))] [.inl (.int (99 : Int32)), .inl (.int x2)] m rfl ⟨trivial, trivial, trivial⟩ ?_
    refine zk_br R rfl (fun _ => ?_) (fun _ => ?_)
    · refine zk_st R 1 28 [some (.inr (6, g0)), some (.inl (.int x1)), some (.inl (.int x2))] [.inl (.int x1)] m rfl ⟨trivial, trivial⟩ ?_
      exact zk_ret R rfl trivial rfl
    · refine zk_st R 2 12 [some (.inr (6, g0)), some (.inl (.int x1)), some (.inl (.int x2))] [.inl (.int x2), .inr (6, g0)] m rfl ⟨trivial, trivial, trivial⟩ ?_
      refine zk_call R (fun b => some (.inl (.int (z_bi b)))) (fun _ => m) rfl (r_X4_hasHeight hg0) (fun b hb => w_X4_hasHeight d 0 g0 hg0 x2 m b hb) (fun r2 => ?_)
      refine zk_br R rfl (fun _ => ?_) (fun _ => ?_)
      · refine zk_st R 2 4 [some (.inr (6, g0)), some (.inl (.int x1)), some (.inl (.int (x2 + (1 : Int32))))] [] m rfl ⟨trivial, trivial, trivial⟩ ?_
        refine zk_mask R [true, true, true] rfl ?_
        exact ih x1 (x2 + (1 : Int32))
      · refine zk_st R 3 4 [some (.inr (6, g0)), some (.inl (.int (x1 + (1 : Int32)))), some (.inl (.int (x2 + (1 : Int32))))] [] m rfl ⟨trivial, trivial, trivial, trivial⟩ ?_
        refine zk_mask R [true, true, true] rfl ?_
        exact ih (x1 + (1 : Int32)) (x2 + (1 : Int32))
theorem w_X4_differentHeights (d k : Nat) (g0 : Nat) (hg0 : g0 < zN 6) (m : zM) (a : Int32) (ha : f_X4_differentHeights g0 m = some a) : z_Ev z_MT zN zRf (d + 3) (k + 0) 33 [.inr (6, g0)] m ((fun a => (z_cI a, m) : Int32 → zO) a) := by
  refine zk_top (I := (yX4_differentHeights, cX4_differentHeights, 3, (some .int), [], tX4_differentHeights, 6, 0, 6, 0, 0, 0)) (oc := (fun a => (z_cI a, m) : Int32 → zO)) (a := a) rfl (Nat.le_of_ble_eq_true rfl) (fun G R => ?_) ha
  unfold f_X4_differentHeights
  refine zk_st R 4 4 [some (.inr (6, g0)), some (.inl (.int (0 : Int32))), some (.inl (.int (0 : Int32)))] [] m rfl ⟨trivial, trivial, trivial, trivial, trivial⟩ ?_
  refine zk_mask R [true, true, true] rfl ?_
  exact w_X4_differentHeights_4 d k g0 hg0 m R zF (0 : Int32) (0 : Int32)
theorem r_X4_lowestPlace {i : Nat} {t : List zA} (h : i < zN 6) : z_rcv zN (zKD 34) (.inr (6, i) :: t) := by
  rw [show zKD 34 = 6 from rfl]
  exact ⟨rfl, h⟩
noncomputable def f_X4_lowestPlace_14 (g0 : Nat) (m : zM) : Nat → Int64 → Int32 → Int32 → Int32 → Option (Int32)
  | 0, _, _, _, _ => none
  | j + 1, x1, x3, x4, x5 =>
    if x4 ≤ x5 then
      some x3
    else
      Option.bind (f_X7_has x1 x5 m) fun r2 =>
      if (z_bi r2) = 0 then
        f_X4_lowestPlace_14 g0 m j x1 x3 x4 (x5 + (1 : Int32))
      else
        Option.bind (f_X7_at 20 (3 * g0) x5 m) fun r4 =>
        Option.bind (f_X7_at 20 (3 * g0) x3 m) fun r5 =>
        if r5 ≤ r4 then
          f_X4_lowestPlace_14 g0 m j x1 x3 x4 (x5 + (1 : Int32))
        else
          f_X4_lowestPlace_14 g0 m j x1 x5 x4 (x5 + (1 : Int32))
noncomputable def f_X4_lowestPlace (g0 : Nat) (x1 : Int64) (m : zM) : Option (Int32) :=
  Option.bind (f_X7_lowest x1 m) fun r1 =>
  Option.bind (f_X4_size g0 m) fun r2 =>
  f_X4_lowestPlace_14 g0 m zF x1 r1 r2 (0 : Int32)
theorem w_X4_lowestPlace_14 (d k : Nat) {o : zO} {G : Nat → Nat → zL → List zA → zM → Prop} (g0 : Nat) (hg0 : g0 < zN 6) (m : zM) (R : zRu (d + 2) tX4_lowestPlace 0 (z_hf []) o G) : ∀ (j : Nat) (x1 : Int64) (x3 : Int32) (x4 : Int32) (x5 : Int32), zLK G (fun a => (z_cI a, m) : Int32 → zO) o (f_X4_lowestPlace_14 g0 m j x1 x3 x4 x5) some (k + 0) 14 [some (.inr (6, g0)), some (.inl (.long x1)), none, some (.inl (.int x3)), some (.inl (.int x4)), some (.inl (.int x5))] [] m := by
  intro j
  induction j with
  | zero =>
    intro _ _ _ _
    exact zk_none
  | succ j ih =>
    intro x1 x3 x4 x5
    unfold f_X4_lowestPlace_14
    refine zk_st R 2 18 [some (.inr (6, g0)), some (.inl (.long x1)), none, some (.inl (.int x3)), some (.inl (.int x4)), some (.inl (.int x5))] [.inl (.int x4), .inl (.int x5)] m rfl ⟨trivial, trivial, trivial⟩ ?_
    refine zk_br R rfl (fun _ => ?_) (fun _ => ?_)
    · refine zk_st R 1 60 [some (.inr (6, g0)), some (.inl (.long x1)), none, some (.inl (.int x3)), some (.inl (.int x4)), some (.inl (.int x5))] [.inl (.int x3)] m rfl ⟨trivial, trivial⟩ ?_
      exact zk_ret R rfl trivial rfl
    · refine zk_st R 2 24 [some (.inr (6, g0)), some (.inl (.long x1)), none, some (.inl (.int x3)), some (.inl (.int x4)), some (.inl (.int x5))] [.inl (.int x5), .inl (.long x1)] m rfl ⟨trivial, trivial, trivial⟩ ?_
      refine zk_call R (fun b => some (.inl (.int (z_bi b)))) (fun _ => m) rfl (r_X7_has) (fun b hb => w_X7_has (d + 1) 0 x1 x5 m b hb) (fun r2 => ?_)
      refine zk_br R rfl (fun _ => ?_) (fun _ => ?_)
      · refine zk_st R 2 14 [some (.inr (6, g0)), some (.inl (.long x1)), none, some (.inl (.int x3)), some (.inl (.int x4)), some (.inl (.int (x5 + (1 : Int32))))] [] m rfl ⟨trivial, trivial, trivial⟩ ?_
        refine zk_mask R [true, true, false, true, true, true] rfl ?_
        exact ih x1 x3 x4 (x5 + (1 : Int32))
      · refine zk_st R 3 36 [some (.inr (6, g0)), some (.inl (.long x1)), none, some (.inl (.int x3)), some (.inl (.int x4)), some (.inl (.int x5))] [.inl (.int x5), .inr (20, 3 * g0)] m rfl ⟨trivial, hg0, trivial, trivial⟩ ?_
        refine zk_call R (fun b => some (.inl (.int b))) (fun _ => m) rfl (r_X7_at) (fun b hb => w_X7_at_k20 (d + 1) 0 (3 * g0) (z_g0 hg0) x5 m b hb) (fun r4 => ?_)
        refine zk_st R 3 44 [some (.inr (6, g0)), some (.inl (.long x1)), none, some (.inl (.int x3)), some (.inl (.int x4)), some (.inl (.int x5))] [.inl (.int x3), .inr (20, 3 * g0), .inl (.int r4)] m rfl ⟨trivial, hg0, trivial, trivial⟩ ?_
        refine zk_call R (fun b => some (.inl (.int b))) (fun _ => m) rfl (r_X7_at) (fun b hb => w_X7_at_k20 (d + 1) 0 (3 * g0) (z_g0 hg0) x3 m b hb) (fun r5 => ?_)
        refine zk_br R rfl (fun _ => ?_) (fun _ => ?_)
        · refine zk_st R 2 14 [some (.inr (6, g0)), some (.inl (.long x1)), none, some (.inl (.int x3)), some (.inl (.int x4)), some (.inl (.int (x5 + (1 : Int32))))] [] m rfl ⟨trivial, trivial, trivial⟩ ?_
          refine zk_mask R [true, true, false, true, true, true] rfl ?_
          exact ih x1 x3 x4 (x5 + (1 : Int32))
        · refine zk_st R 4 14 [some (.inr (6, g0)), some (.inl (.long x1)), none, some (.inl (.int x5)), some (.inl (.int x4)), some (.inl (.int (x5 + (1 : Int32))))] [] m rfl ⟨trivial, trivial, trivial, trivial, trivial⟩ ?_
          refine zk_mask R [true, true, false, true, true, true] rfl ?_
          exact ih x1 x5 x4 (x5 + (1 : Int32))
theorem w_X4_lowestPlace (d k : Nat) (g0 : Nat) (hg0 : g0 < zN 6) (x1 : Int64) (m : zM) (a : Int32) (ha : f_X4_lowestPlace g0 x1 m = some a) : z_Ev z_MT zN zRf (d + 3) (k + 0) 34 [.inr (6, g0), .inl (.long x1)] m ((fun a => (z_cI a, m) : Int32 → zO) a) := by
  refine zk_top (I := (yX4_lowestPlace, cX4_lowestPlace, 6, (some .int), [], tX4_lowestPlace, 6, 1, 6, 0, 0, 0)) (oc := (fun a => (z_cI a, m) : Int32 → zO)) (a := a) rfl (Nat.le_of_ble_eq_true rfl) (fun G R => ?_) ha
  unfold f_X4_lowestPlace
  refine zk_st R 1 1 [some (.inr (6, g0)), some (.inl (.long x1)), none, none, none, none] [.inl (.long x1)] m rfl ⟨trivial, trivial⟩ ?_
  refine zk_call R (fun b => some (.inl (.int b))) (fun _ => m) rfl (r_X7_lowest) (fun b hb => w_X7_lowest d 0 x1 m b hb) (fun r1 => ?_)
  refine zk_st R 2 6 [some (.inr (6, g0)), some (.inl (.long x1)), none, some (.inl (.int r1)), none, none] [.inr (6, g0)] m rfl ⟨trivial, trivial, trivial⟩ ?_
  refine zk_call R (fun b => some (.inl (.int b))) (fun _ => m) rfl (r_X4_size hg0) (fun b hb => w_X4_size (d + 1) 0 g0 hg0 m b hb) (fun r2 => ?_)
  refine zk_st R 3 14 [some (.inr (6, g0)), some (.inl (.long x1)), none, some (.inl (.int r1)), some (.inl (.int r2)), some (.inl (.int (0 : Int32)))] [] m rfl ⟨trivial, trivial, trivial, trivial⟩ ?_
  refine zk_mask R [true, true, false, true, true, true] rfl ?_
  exact w_X4_lowestPlace_14 d k g0 hg0 m R zF x1 r1 r2 (0 : Int32)
theorem r_X4_poolCells {i : Nat} {t : List zA} (h : i < zN 6) : z_rcv zN (zKD 36) (.inr (6, i) :: t) := by
  rw [show zKD 36 = 6 from rfl]
  exact ⟨rfl, h⟩
noncomputable def f_X4_poolCells (g0 : Nat) (x1 : Int32) (m : zM) : Option (Int64) :=
  Option.bind (f_X4_atMost g0 x1 m) fun r1 =>
  Option.bind (f_X4_reachable g0 (m.2.1 6 g0 3) r1 m) fun r2 =>
  some (r1 &&& (r2 ^^^ (-1 : Int64)))
theorem w_X4_poolCells (d k : Nat) (g0 : Nat) (hg0 : g0 < zN 6) (x1 : Int32) (m : zM) (a : Int64) (ha : f_X4_poolCells g0 x1 m = some a) : z_Ev z_MT zN zRf (d + 3) (k + 0) 36 [.inr (6, g0), .inl (.int x1)] m ((fun a => (z_cL a, m) : Int64 → zO) a) := by
  refine zk_top (I := (yX4_poolCells, cX4_poolCells, 4, (some .long), [], tX4_poolCells, 6, 1, 6, 0, 0, 0)) (oc := (fun a => (z_cL a, m) : Int64 → zO)) (a := a) rfl (Nat.le_of_ble_eq_true rfl) (fun G R => ?_) ha
  unfold f_X4_poolCells
  refine zk_st R 2 2 [some (.inr (6, g0)), some (.inl (.int x1)), none, none] [.inl (.int x1), .inr (6, g0)] m rfl ⟨trivial, trivial, trivial⟩ ?_
  refine zk_call R (fun b => some (.inl (.long b))) (fun _ => m) rfl (r_X4_atMost hg0) (fun b hb => w_X4_atMost d 0 g0 hg0 x1 m b hb) (fun r1 => ?_)
  refine zk_st R 6 13 [some (.inr (6, g0)), some (.inl (.int x1)), some (.inl (.long r1)), none] [.inl (.long r1), .inl (.long (m.2.1 6 g0 3)), .inr (6, g0), .inl (.long r1)] m rfl ⟨trivial, trivial, trivial, trivial, hg0, trivial, trivial⟩ ?_
  refine zk_call R (fun b => some (.inl (.long b))) (fun _ => m) rfl (r_X4_reachable hg0) (fun b hb => w_X4_reachable d 0 g0 hg0 (m.2.1 6 g0 3) r1 m b hb) (fun r2 => ?_)
  refine zk_st R 3 21 [some (.inr (6, g0)), some (.inl (.int x1)), some (.inl (.long r1)), none] [.inl (.long (r1 &&& (r2 ^^^ (-1 : Int64))))] m rfl ⟨trivial, trivial, trivial, trivial⟩ ?_
  exact zk_ret R rfl trivial rfl
theorem r_X4_groups {i : Nat} {t : List zA} (h : i < zN 6) : z_rcv zN (zKD 37) (.inr (6, i) :: t) := by
  rw [show zKD 37 = 6 from rfl]
  exact ⟨rfl, h⟩
noncomputable def f_X4_groups_9 (g0 : Nat) (m : zM) : Nat → Int64 → Int32 → Int64 → Int32 → Option (Int32)
  | 0, _, _, _, _ => none
  | j + 1, x3, x5, x6, x8 =>
    if (64 : Int32) ≤ x8 then
      some x5
    else
      Option.bind (f_X7_has x6 x8 m) fun r2 =>
      if (z_bi r2) = 0 then
        f_X4_groups_9 g0 m j x3 x5 x6 (x8 + (1 : Int32))
      else
        Option.bind (f_X4_reachable g0 (z_shl (1 : Int64) x8) x6 m) fun r4 =>
        if (lg_cmp (r4 &&& x3) (0 : Int64)) = 0 then
          f_X4_groups_9 g0 m j x3 (x5 + (1 : Int32)) (x6 &&& (r4 ^^^ (-1 : Int64))) (x8 + (1 : Int32))
        else
          f_X4_groups_9 g0 m j x3 x5 (x6 &&& (r4 ^^^ (-1 : Int64))) (x8 + (1 : Int32))
noncomputable def f_X4_groups (g0 : Nat) (x1 : Int64) (x3 : Int64) (m : zM) : Option (Int32) :=
  f_X4_groups_9 g0 m zF x3 (0 : Int32) x1 (0 : Int32)
theorem w_X4_groups_9 (d k : Nat) {o : zO} {G : Nat → Nat → zL → List zA → zM → Prop} (g0 : Nat) (hg0 : g0 < zN 6) (m : zM) (R : zRu (d + 2) tX4_groups 0 (z_hf []) o G) : ∀ (j : Nat) (x3 : Int64) (x5 : Int32) (x6 : Int64) (x8 : Int32), zLK G (fun a => (z_cI a, m) : Int32 → zO) o (f_X4_groups_9 g0 m j x3 x5 x6 x8) some (k + 0) 9 [some (.inr (6, g0)), none, none, some (.inl (.long x3)), none, some (.inl (.int x5)), some (.inl (.long x6)), none, some (.inl (.int x8)), none, none] [] m := by
  intro j
  induction j with
  | zero =>
    intro _ _ _ _
    exact zk_none
  | succ j ih =>
    intro x3 x5 x6 x8
    unfold f_X4_groups_9
    refine zk_st R 2 13 [some (.inr (6, g0)), none, none, some (.inl (.long x3)), none, some (.inl (.int x5)), some (.inl (.long x6)), none, some (.inl (.int x8)), none, none] [.inl (.int (64 : Int32)), .inl (.int x8)] m rfl ⟨trivial, trivial, trivial⟩ ?_
    refine zk_br R rfl (fun _ => ?_) (fun _ => ?_)
    · refine zk_st R 1 69 [some (.inr (6, g0)), none, none, some (.inl (.long x3)), none, some (.inl (.int x5)), some (.inl (.long x6)), none, some (.inl (.int x8)), none, none] [.inl (.int x5)] m rfl ⟨trivial, trivial⟩ ?_
      exact zk_ret R rfl trivial rfl
    · refine zk_st R 2 20 [some (.inr (6, g0)), none, none, some (.inl (.long x3)), none, some (.inl (.int x5)), some (.inl (.long x6)), none, some (.inl (.int x8)), none, none] [.inl (.int x8), .inl (.long x6)] m rfl ⟨trivial, trivial, trivial⟩ ?_
      refine zk_call R (fun b => some (.inl (.int (z_bi b)))) (fun _ => m) rfl (r_X7_has) (fun b hb => w_X7_has (d + 1) 0 x6 x8 m b hb) (fun r2 => ?_)
      refine zk_br R rfl (fun _ => ?_) (fun _ => ?_)
      · refine zk_st R 2 9 [some (.inr (6, g0)), none, none, some (.inl (.long x3)), none, some (.inl (.int x5)), some (.inl (.long x6)), none, some (.inl (.int (x8 + (1 : Int32)))), none, none] [] m rfl ⟨trivial, trivial, trivial⟩ ?_
        refine zk_mask R [true, false, false, true, false, true, true, false, true, false, false] rfl ?_
        exact ih x3 x5 x6 (x8 + (1 : Int32))
      · refine zk_st R 5 33 [some (.inr (6, g0)), none, none, some (.inl (.long x3)), none, some (.inl (.int x5)), some (.inl (.long x6)), none, some (.inl (.int x8)), none, none] [.inl (.long x6), .inl (.long (z_shl (1 : Int64) x8)), .inr (6, g0)] m rfl ⟨trivial, trivial, trivial, trivial, trivial, trivial⟩ ?_
        refine zk_call R (fun b => some (.inl (.long b))) (fun _ => m) rfl (r_X4_reachable hg0) (fun b hb => w_X4_reachable d 0 g0 hg0 (z_shl (1 : Int64) x8) x6 m b hb) (fun r4 => ?_)
        refine zk_st R 12 55 [some (.inr (6, g0)), none, none, some (.inl (.long x3)), none, some (.inl (.int x5)), some (.inl (.long (x6 &&& (r4 ^^^ (-1 : Int64))))), none, some (.inl (.int x8)), some (.inl (.long r4)), none] [.inl (.int (lg_cmp (r4 &&& x3) (0 : Int64)))] m rfl ⟨trivial, trivial, trivial, trivial, trivial, trivial, trivial, trivial, trivial, trivial, trivial, trivial, trivial⟩ ?_
        refine zk_br R rfl (fun _ => ?_) (fun _ => ?_)
        · refine zk_st R 3 9 [some (.inr (6, g0)), none, none, some (.inl (.long x3)), none, some (.inl (.int (x5 + (1 : Int32)))), some (.inl (.long (x6 &&& (r4 ^^^ (-1 : Int64))))), none, some (.inl (.int (x8 + (1 : Int32)))), some (.inl (.long r4)), none] [] m rfl ⟨trivial, trivial, trivial, trivial⟩ ?_
          refine zk_mask R [true, false, false, true, false, true, true, false, true, false, false] rfl ?_
          exact ih x3 (x5 + (1 : Int32)) (x6 &&& (r4 ^^^ (-1 : Int64))) (x8 + (1 : Int32))
        · refine zk_st R 2 9 [some (.inr (6, g0)), none, none, some (.inl (.long x3)), none, some (.inl (.int x5)), some (.inl (.long (x6 &&& (r4 ^^^ (-1 : Int64))))), none, some (.inl (.int (x8 + (1 : Int32)))), some (.inl (.long r4)), none] [] m rfl ⟨trivial, trivial, trivial⟩ ?_
          refine zk_mask R [true, false, false, true, false, true, true, false, true, false, false] rfl ?_
          exact ih x3 x5 (x6 &&& (r4 ^^^ (-1 : Int64))) (x8 + (1 : Int32))
theorem w_X4_groups (d k : Nat) (g0 : Nat) (hg0 : g0 < zN 6) (x1 : Int64) (x3 : Int64) (m : zM) (a : Int32) (ha : f_X4_groups g0 x1 x3 m = some a) : z_Ev z_MT zN zRf (d + 3) (k + 0) 37 [.inr (6, g0), .inl (.long x1), .inl (.long x3)] m ((fun a => (z_cI a, m) : Int32 → zO) a) := by
  refine zk_top (I := (yX4_groups, cX4_groups, 11, (some .int), [], tX4_groups, 6, 2, 6, 0, 0, 0)) (oc := (fun a => (z_cI a, m) : Int32 → zO)) (a := a) rfl (Nat.le_of_ble_eq_true rfl) (fun G R => ?_) ha
  unfold f_X4_groups
  refine zk_st R 6 9 [some (.inr (6, g0)), some (.inl (.long x1)), none, some (.inl (.long x3)), none, some (.inl (.int (0 : Int32))), some (.inl (.long x1)), none, some (.inl (.int (0 : Int32))), none, none] [] m rfl ⟨trivial, trivial, trivial, trivial, trivial, trivial, trivial⟩ ?_
  refine zk_mask R [true, false, false, true, false, true, true, false, true, false, false] rfl ?_
  exact w_X4_groups_9 d k g0 hg0 m R zF x3 (0 : Int32) x1 (0 : Int32)
theorem r_X4_borders {i : Nat} {t : List zA} (h : i < zN 6) : z_rcv zN (zKD 38) (.inr (6, i) :: t) := by
  rw [show zKD 38 = 6 from rfl]
  exact ⟨rfl, h⟩
noncomputable def f_X4_borders_21 (g0 : Nat) (m : zM) (c11 : Int64 → Int32 → Int32 → Int32 → Option (Int32)) : Nat → Int64 → Int32 → Int32 → Int32 → Int32 → Option (Int32)
  | 0, _, _, _, _, _ => none
  | j + 1, x1, x3, x4, x5, x6 =>
    if (2 : Int32) < x6 then
      c11 x1 x3 x4 (x5 + (1 : Int32))
    else
      Option.bind (f_X4_neighbor g0 x5 x6 m) fun r2 =>
      if r2 = (-1 : Int32) then
        f_X4_borders_21 g0 m c11 j x1 x3 x4 x5 (x6 + (1 : Int32))
      else
        Option.bind (f_X7_has x1 x5 m) fun r4 =>
        Option.bind (f_X7_has x1 r2 m) fun r5 =>
        if (z_bi r4) = (z_bi r5) then
          f_X4_borders_21 g0 m c11 j x1 x3 x4 x5 (x6 + (1 : Int32))
        else
          f_X4_borders_21 g0 m c11 j x1 (x3 + (1 : Int32)) x4 x5 (x6 + (1 : Int32))
noncomputable def f_X4_borders_11 (g0 : Nat) (m : zM) : Nat → Int64 → Int32 → Int32 → Int32 → Option (Int32)
  | 0, _, _, _, _ => none
  | j + 1, x1, x3, x4, x5 =>
    if x4 ≤ x5 then
      some x3
    else
      f_X4_borders_21 g0 m (f_X4_borders_11 g0 m j) zF x1 x3 x4 x5 (1 : Int32)
noncomputable def f_X4_borders (g0 : Nat) (x1 : Int64) (m : zM) : Option (Int32) :=
  Option.bind (f_X4_size g0 m) fun r1 =>
  f_X4_borders_11 g0 m zF x1 (0 : Int32) r1 (0 : Int32)
theorem w_X4_borders_21 (d k : Nat) {o : zO} {G : Nat → Nat → zL → List zA → zM → Prop} (g0 : Nat) (hg0 : g0 < zN 6) (m : zM) (R : zRu (d + 2) tX4_borders 0 (z_hf []) o G) (c11 : Int64 → Int32 → Int32 → Int32 → Option (Int32)) (hc11 : ∀ (x1 : Int64) (x3 : Int32) (x4 : Int32) (x5 : Int32), zLK G (fun a => (z_cI a, m) : Int32 → zO) o (c11 x1 x3 x4 x5) some (k + 0) 11 [some (.inr (6, g0)), some (.inl (.long x1)), none, some (.inl (.int x3)), some (.inl (.int x4)), some (.inl (.int x5)), none, none] [] m) : ∀ (j : Nat) (x1 : Int64) (x3 : Int32) (x4 : Int32) (x5 : Int32) (x6 : Int32), zLK G (fun a => (z_cI a, m) : Int32 → zO) o (f_X4_borders_21 g0 m c11 j x1 x3 x4 x5 x6) some (k + 0) 21 [some (.inr (6, g0)), some (.inl (.long x1)), none, some (.inl (.int x3)), some (.inl (.int x4)), some (.inl (.int x5)), some (.inl (.int x6)), none] [] m := by
  intro j
  induction j with
  | zero =>
    intro _ _ _ _ _
    exact zk_none
  | succ j ih =>
    intro x1 x3 x4 x5 x6
    unfold f_X4_borders_21
    refine zk_st R 2 24 [some (.inr (6, g0)), some (.inl (.long x1)), none, some (.inl (.int x3)), some (.inl (.int x4)), some (.inl (.int x5)), some (.inl (.int x6)), none] [.inl (.int (2 : Int32)), .inl (.int x6)] m rfl ⟨trivial, trivial, trivial⟩ ?_
    refine zk_br R rfl (fun _ => ?_) (fun _ => ?_)
    · refine zk_st R 2 11 [some (.inr (6, g0)), some (.inl (.long x1)), none, some (.inl (.int x3)), some (.inl (.int x4)), some (.inl (.int (x5 + (1 : Int32)))), some (.inl (.int x6)), none] [] m rfl ⟨trivial, trivial, trivial⟩ ?_
      refine zk_mask R [true, true, false, true, true, true, false, false] rfl ?_
      exact hc11 x1 x3 x4 (x5 + (1 : Int32))
    · refine zk_st R 3 32 [some (.inr (6, g0)), some (.inl (.long x1)), none, some (.inl (.int x3)), some (.inl (.int x4)), some (.inl (.int x5)), some (.inl (.int x6)), none] [.inl (.int x6), .inl (.int x5), .inr (6, g0)] m rfl ⟨trivial, trivial, trivial, trivial⟩ ?_
      refine zk_call R (fun b => some (.inl (.int b))) (fun _ => m) rfl (r_X4_neighbor hg0) (fun b hb => w_X4_neighbor d 0 g0 hg0 x5 x6 m b hb) (fun r2 => ?_)
      refine zk_st R 3 40 [some (.inr (6, g0)), some (.inl (.long x1)), none, some (.inl (.int x3)), some (.inl (.int x4)), some (.inl (.int x5)), some (.inl (.int x6)), some (.inl (.int r2))] [.inl (.int (-1 : Int32)), .inl (.int r2)] m rfl ⟨trivial, trivial, trivial, trivial⟩ ?_
      refine zk_br R rfl (fun _ => ?_) (fun _ => ?_)
      · refine zk_st R 2 21 [some (.inr (6, g0)), some (.inl (.long x1)), none, some (.inl (.int x3)), some (.inl (.int x4)), some (.inl (.int x5)), some (.inl (.int (x6 + (1 : Int32)))), some (.inl (.int r2))] [] m rfl ⟨trivial, trivial, trivial⟩ ?_
        refine zk_mask R [true, true, false, true, true, true, true, false] rfl ?_
        exact ih x1 x3 x4 x5 (x6 + (1 : Int32))
      · refine zk_st R 2 46 [some (.inr (6, g0)), some (.inl (.long x1)), none, some (.inl (.int x3)), some (.inl (.int x4)), some (.inl (.int x5)), some (.inl (.int x6)), some (.inl (.int r2))] [.inl (.int x5), .inl (.long x1)] m rfl ⟨trivial, trivial, trivial⟩ ?_
        refine zk_call R (fun b => some (.inl (.int (z_bi b)))) (fun _ => m) rfl (r_X7_has) (fun b hb => w_X7_has (d + 1) 0 x1 x5 m b hb) (fun r4 => ?_)
        refine zk_st R 2 52 [some (.inr (6, g0)), some (.inl (.long x1)), none, some (.inl (.int x3)), some (.inl (.int x4)), some (.inl (.int x5)), some (.inl (.int x6)), some (.inl (.int r2))] [.inl (.int r2), .inl (.long x1), .inl (.int (z_bi r4))] m rfl ⟨trivial, trivial, trivial⟩ ?_
        refine zk_call R (fun b => some (.inl (.int (z_bi b)))) (fun _ => m) rfl (r_X7_has) (fun b hb => w_X7_has (d + 1) 0 x1 r2 m b hb) (fun r5 => ?_)
        refine zk_br R rfl (fun _ => ?_) (fun _ => ?_)
        · refine zk_st R 2 21 [some (.inr (6, g0)), some (.inl (.long x1)), none, some (.inl (.int x3)), some (.inl (.int x4)), some (.inl (.int x5)), some (.inl (.int (x6 + (1 : Int32)))), some (.inl (.int r2))] [] m rfl ⟨trivial, trivial, trivial⟩ ?_
          refine zk_mask R [true, true, false, true, true, true, true, false] rfl ?_
          exact ih x1 x3 x4 x5 (x6 + (1 : Int32))
        · refine zk_st R 3 21 [some (.inr (6, g0)), some (.inl (.long x1)), none, some (.inl (.int (x3 + (1 : Int32)))), some (.inl (.int x4)), some (.inl (.int x5)), some (.inl (.int (x6 + (1 : Int32)))), some (.inl (.int r2))] [] m rfl ⟨trivial, trivial, trivial, trivial⟩ ?_
          refine zk_mask R [true, true, false, true, true, true, true, false] rfl ?_
          exact ih x1 (x3 + (1 : Int32)) x4 x5 (x6 + (1 : Int32))
theorem w_X4_borders_11 (d k : Nat) {o : zO} {G : Nat → Nat → zL → List zA → zM → Prop} (g0 : Nat) (hg0 : g0 < zN 6) (m : zM) (R : zRu (d + 2) tX4_borders 0 (z_hf []) o G) : ∀ (j : Nat) (x1 : Int64) (x3 : Int32) (x4 : Int32) (x5 : Int32), zLK G (fun a => (z_cI a, m) : Int32 → zO) o (f_X4_borders_11 g0 m j x1 x3 x4 x5) some (k + 0) 11 [some (.inr (6, g0)), some (.inl (.long x1)), none, some (.inl (.int x3)), some (.inl (.int x4)), some (.inl (.int x5)), none, none] [] m := by
  intro j
  induction j with
  | zero =>
    intro _ _ _ _
    exact zk_none
  | succ j ih =>
    intro x1 x3 x4 x5
    unfold f_X4_borders_11
    refine zk_st R 2 15 [some (.inr (6, g0)), some (.inl (.long x1)), none, some (.inl (.int x3)), some (.inl (.int x4)), some (.inl (.int x5)), none, none] [.inl (.int x4), .inl (.int x5)] m rfl ⟨trivial, trivial, trivial⟩ ?_
    refine zk_br R rfl (fun _ => ?_) (fun _ => ?_)
    · refine zk_st R 1 74 [some (.inr (6, g0)), some (.inl (.long x1)), none, some (.inl (.int x3)), some (.inl (.int x4)), some (.inl (.int x5)), none, none] [.inl (.int x3)] m rfl ⟨trivial, trivial⟩ ?_
      exact zk_ret R rfl trivial rfl
    · refine zk_st R 2 21 [some (.inr (6, g0)), some (.inl (.long x1)), none, some (.inl (.int x3)), some (.inl (.int x4)), some (.inl (.int x5)), some (.inl (.int (1 : Int32))), none] [] m rfl ⟨trivial, trivial, trivial⟩ ?_
      refine zk_mask R [true, true, false, true, true, true, true, false] rfl ?_
      exact w_X4_borders_21 d k g0 hg0 m R (f_X4_borders_11 g0 m j) ih zF x1 x3 x4 x5 (1 : Int32)
theorem w_X4_borders (d k : Nat) (g0 : Nat) (hg0 : g0 < zN 6) (x1 : Int64) (m : zM) (a : Int32) (ha : f_X4_borders g0 x1 m = some a) : z_Ev z_MT zN zRf (d + 3) (k + 0) 38 [.inr (6, g0), .inl (.long x1)] m ((fun a => (z_cI a, m) : Int32 → zO) a) := by
  refine zk_top (I := (yX4_borders, cX4_borders, 8, (some .int), [], tX4_borders, 6, 1, 6, 0, 0, 0)) (oc := (fun a => (z_cI a, m) : Int32 → zO)) (a := a) rfl (Nat.le_of_ble_eq_true rfl) (fun G R => ?_) ha
  unfold f_X4_borders
  refine zk_st R 3 3 [some (.inr (6, g0)), some (.inl (.long x1)), none, some (.inl (.int (0 : Int32))), none, none, none, none] [.inr (6, g0)] m rfl ⟨trivial, trivial, trivial, trivial⟩ ?_
  refine zk_call R (fun b => some (.inl (.int b))) (fun _ => m) rfl (r_X4_size hg0) (fun b hb => w_X4_size (d + 1) 0 g0 hg0 m b hb) (fun r1 => ?_)
  refine zk_st R 3 11 [some (.inr (6, g0)), some (.inl (.long x1)), none, some (.inl (.int (0 : Int32))), some (.inl (.int r1)), some (.inl (.int (0 : Int32))), none, none] [] m rfl ⟨trivial, trivial, trivial, trivial⟩ ?_
  refine zk_mask R [true, true, false, true, true, true, false, false] rfl ?_
  exact w_X4_borders_11 d k g0 hg0 m R zF x1 (0 : Int32) r1 (0 : Int32)
theorem r_X0_improve {i : Nat} {t : List zA} (h : i < zN 2) : z_rcv zN (zKD 41) (.inr (2, i) :: t) := by
  rw [show zKD 41 = 2 from rfl]
  exact ⟨rfl, h⟩
noncomputable def f_X0_improve_63 (g1 : Nat) (x2 : Int32) (x4 : Int32) (s0 : Int32) (m : zM) : Option (Bool × zM) :=
  Option.bind (f_X7_put 20 57 x2 x4 m) fun r1 =>
  z_gd (z_b01 s0) <| some ((decide (s0 = 1)), r1)
noncomputable def f_X0_improve_13 (g1 : Nat) : Nat → Int32 → Int32 → Int32 → Int32 → zM → Option (Bool × zM)
  | 0, _, _, _, _, _ => none
  | j + 1, x2, x3, x4, x5, m =>
    if (4 : Int32) ≤ x5 then
      Option.bind (f_X7_at 20 57 x2 m) fun r2 =>
      if r2 ≤ x4 then
        f_X0_improve_63 g1 x2 x4 (0 : Int32) m
      else
        f_X0_improve_63 g1 x2 x4 (1 : Int32) m
    else
      Option.bind (f_X4_neighbor g1 x2 x5 m) fun r4 =>
      Option.bind (f_X0_stepValue g1 r4 x3 m) fun r5 =>
      Option.bind (f_J9_min_7cf53 x4 r5 m) fun r6 =>
      f_X0_improve_13 g1 j x2 x3 r6 (x5 + (1 : Int32)) m
noncomputable def f_X0_improve (g1 : Nat) (x2 : Int32) (x3 : Int32) (m : zM) : Option (Bool × zM) :=
  Option.bind (f_X7_at 20 57 x2 m) fun r1 =>
  f_X0_improve_13 g1 zF x2 x3 r1 (0 : Int32) m
theorem w_X0_improve_63 (d k : Nat) {o : zO} {G : Nat → Nat → zL → List zA → zM → Prop} (g1 : Nat) (hg1 : g1 < zN 6) (R : zRu (d + 2) tX0_improve 1 (z_hf []) o G) (x2 : Int32) (x4 : Int32) (s0 : Int32) (m : zM) : zLK G (fun a => (z_cB a.1, a.2) : Bool × zM → zO) o (f_X0_improve_63 g1 x2 x4 s0 m) some (k + 0) 63 [some (.inr (2, 0)), none, some (.inl (.int x2)), none, some (.inl (.int x4)), none] [.inl (.int s0)] m := by
  unfold f_X0_improve_63
  refine zk_st R 5 72 [some (.inr (2, 0)), none, some (.inl (.int x2)), none, some (.inl (.int x4)), some (.inl (.int s0))] [.inl (.int x4), .inl (.int x2), .inr (20, 57)] m rfl ⟨trivial, trivial, (Nat.le_of_ble_eq_true rfl), trivial, trivial, trivial⟩ ?_
  refine zk_call R (fun _ => none) id rfl (r_X7_put) (fun b hb => w_X7_put_k20 (d + 1) 0 57 (Nat.le_of_ble_eq_true rfl) x2 x4 m b hb) (fun r1 => ?_)
  refine zk_gd fun e2 => ?_
  refine zk_st R 1 77 [some (.inr (2, 0)), none, some (.inl (.int x2)), none, some (.inl (.int x4)), some (.inl (.int s0))] [.inl (.int s0)] r1 rfl ⟨trivial, trivial⟩ ?_
  exact zk_retb R e2 rfl (z_b01_of e2) rfl
theorem w_X0_improve_13 (d k : Nat) {o : zO} {G : Nat → Nat → zL → List zA → zM → Prop} (g1 : Nat) (hg1 : g1 < zN 6) (R : zRu (d + 2) tX0_improve 1 (z_hf []) o G) : ∀ (j : Nat) (x2 : Int32) (x3 : Int32) (x4 : Int32) (x5 : Int32) (m : zM), zLK G (fun a => (z_cB a.1, a.2) : Bool × zM → zO) o (f_X0_improve_13 g1 j x2 x3 x4 x5 m) some (k + 0) 13 [some (.inr (2, 0)), some (.inr (6, g1)), some (.inl (.int x2)), some (.inl (.int x3)), some (.inl (.int x4)), some (.inl (.int x5))] [] m := by
  intro j
  induction j with
  | zero =>
    intro _ _ _ _ _
    exact zk_none
  | succ j ih =>
    intro x2 x3 x4 x5 m
    unfold f_X0_improve_13
    refine zk_st R 2 16 [some (.inr (2, 0)), some (.inr (6, g1)), some (.inl (.int x2)), some (.inl (.int x3)), some (.inl (.int x4)), some (.inl (.int x5))] [.inl (.int (4 : Int32)), .inl (.int x5)] m rfl ⟨trivial, trivial, trivial⟩ ?_
    refine zk_br R rfl (fun _ => ?_) (fun _ => ?_)
    · refine zk_st R 4 52 [some (.inr (2, 0)), some (.inr (6, g1)), some (.inl (.int x2)), some (.inl (.int x3)), some (.inl (.int x4)), some (.inl (.int x5))] [.inl (.int x2), .inr (20, 57), .inl (.int x4)] m rfl ⟨trivial, trivial, (Nat.le_of_ble_eq_true rfl), trivial, trivial⟩ ?_
      refine zk_call R (fun b => some (.inl (.int b))) (fun _ => m) rfl (r_X7_at) (fun b hb => w_X7_at_k20 (d + 1) 0 57 (Nat.le_of_ble_eq_true rfl) x2 m b hb) (fun r2 => ?_)
      refine zk_br R rfl (fun _ => ?_) (fun _ => ?_)
      · refine zk_st R 1 63 [some (.inr (2, 0)), some (.inr (6, g1)), some (.inl (.int x2)), some (.inl (.int x3)), some (.inl (.int x4)), some (.inl (.int x5))] [.inl (.int (0 : Int32))] m rfl ⟨trivial, trivial⟩ ?_
        refine zk_mask R [true, false, true, false, true, false] rfl ?_
        exact w_X0_improve_63 d k g1 hg1 R x2 x4 (0 : Int32) m
      · refine zk_st R 2 63 [some (.inr (2, 0)), some (.inr (6, g1)), some (.inl (.int x2)), some (.inl (.int x3)), some (.inl (.int x4)), some (.inl (.int x5))] [.inl (.int (1 : Int32))] m rfl ⟨trivial, trivial, trivial⟩ ?_
        refine zk_mask R [true, false, true, false, true, false] rfl ?_
        exact w_X0_improve_63 d k g1 hg1 R x2 x4 (1 : Int32) m
    · refine zk_st R 6 27 [some (.inr (2, 0)), some (.inr (6, g1)), some (.inl (.int x2)), some (.inl (.int x3)), some (.inl (.int x4)), some (.inl (.int x5))] [.inl (.int x5), .inl (.int x2), .inr (6, g1), .inr (6, g1), .inr (2, 0), .inl (.int x4)] m rfl ⟨trivial, trivial, trivial, trivial, trivial, trivial, trivial⟩ ?_
      refine zk_call R (fun b => some (.inl (.int b))) (fun _ => m) rfl (r_X4_neighbor hg1) (fun b hb => w_X4_neighbor d 0 g1 hg1 x2 x5 m b hb) (fun r4 => ?_)
      refine zk_st R 1 31 [some (.inr (2, 0)), some (.inr (6, g1)), some (.inl (.int x2)), some (.inl (.int x3)), some (.inl (.int x4)), some (.inl (.int x5))] [.inl (.int x3), .inl (.int r4), .inr (6, g1), .inr (2, 0), .inl (.int x4)] m rfl ⟨trivial, trivial⟩ ?_
      refine zk_call R (fun b => some (.inl (.int b))) (fun _ => m) rfl (r_X0_stepValue (Nat.le_of_ble_eq_true rfl)) (fun b hb => w_X0_stepValue d 0 g1 hg1 r4 x3 m b hb) (fun r5 => ?_)
      refine zk_call R (fun b => some (.inl (.int b))) (fun _ => m) rfl (r_J9_min_7cf53) (fun b hb => w_J9_min_7cf53 (d + 1) 0 x4 r5 m b hb) (fun r6 => ?_)
      refine zk_st R 3 13 [some (.inr (2, 0)), some (.inr (6, g1)), some (.inl (.int x2)), some (.inl (.int x3)), some (.inl (.int r6)), some (.inl (.int (x5 + (1 : Int32))))] [] m rfl ⟨trivial, trivial, trivial, trivial⟩ ?_
      refine zk_mask R [true, true, true, true, true, true] rfl ?_
      exact ih x2 x3 r6 (x5 + (1 : Int32)) m
theorem w_X0_improve (d k : Nat) (g1 : Nat) (hg1 : g1 < zN 6) (x2 : Int32) (x3 : Int32) (m : zM) (a : Bool × zM) (ha : f_X0_improve g1 x2 x3 m = some a) : z_Ev z_MT zN zRf (d + 3) (k + 0) 41 [.inr (2, 0), .inr (6, g1), .inl (.int x2), .inl (.int x3)] m ((fun a => (z_cB a.1, a.2) : Bool × zM → zO) a) := by
  refine zk_top (I := (yX0_improve, cX0_improve, 6, (some .boolean), [], tX0_improve, 2, 3, 2, 0, 0, 0)) (oc := (fun a => (z_cB a.1, a.2) : Bool × zM → zO)) (a := a) rfl (Nat.le_of_ble_eq_true rfl) (fun G R => ?_) ha
  unfold f_X0_improve
  refine zk_st R 3 5 [some (.inr (2, 0)), some (.inr (6, g1)), some (.inl (.int x2)), some (.inl (.int x3)), none, none] [.inl (.int x2), .inr (20, 57)] m rfl ⟨trivial, (Nat.le_of_ble_eq_true rfl), trivial, trivial⟩ ?_
  refine zk_call R (fun b => some (.inl (.int b))) (fun _ => m) rfl (r_X7_at) (fun b hb => w_X7_at_k20 (d + 1) 0 57 (Nat.le_of_ble_eq_true rfl) x2 m b hb) (fun r1 => ?_)
  refine zk_st R 3 13 [some (.inr (2, 0)), some (.inr (6, g1)), some (.inl (.int x2)), some (.inl (.int x3)), some (.inl (.int r1)), some (.inl (.int (0 : Int32)))] [] m rfl ⟨trivial, trivial, trivial, trivial⟩ ?_
  refine zk_mask R [true, true, true, true, true, true] rfl ?_
  exact w_X0_improve_13 d k g1 hg1 R zF x2 x3 r1 (0 : Int32) m
theorem r_X0_bestStep {i : Nat} {t : List zA} (h : i < zN 2) : z_rcv zN (zKD 44) (.inr (2, i) :: t) := by
  rw [show zKD 44 = 2 from rfl]
  exact ⟨rfl, h⟩
noncomputable def f_X0_bestStep_3 (g1 : Nat) (m : zM) : Nat → Int32 → Int32 → Int32 → Option (Int32)
  | 0, _, _, _ => none
  | j + 1, x2, x3, x4 =>
    if (4 : Int32) ≤ x4 then
      some (-1 : Int32)
    else
      Option.bind (f_X4_neighbor g1 x2 x4 m) fun r2 =>
      Option.bind (f_X0_stepValue g1 r2 x3 m) fun r3 =>
      Option.bind (f_X7_at 20 57 x2 m) fun r4 =>
      if r3 = r4 then
        some r2
      else
        f_X0_bestStep_3 g1 m j x2 x3 (x4 + (1 : Int32))
noncomputable def f_X0_bestStep (g1 : Nat) (x2 : Int32) (x3 : Int32) (m : zM) : Option (Int32) :=
  f_X0_bestStep_3 g1 m zF x2 x3 (0 : Int32)
theorem w_X0_bestStep_3 (d k : Nat) {o : zO} {G : Nat → Nat → zL → List zA → zM → Prop} (g1 : Nat) (hg1 : g1 < zN 6) (m : zM) (R : zRu (d + 2) tX0_bestStep 0 (z_hf []) o G) : ∀ (j : Nat) (x2 : Int32) (x3 : Int32) (x4 : Int32), zLK G (fun a => (z_cI a, m) : Int32 → zO) o (f_X0_bestStep_3 g1 m j x2 x3 x4) some (k + 0) 3 [some (.inr (2, 0)), some (.inr (6, g1)), some (.inl (.int x2)), some (.inl (.int x3)), some (.inl (.int x4)), none] [] m := by
  intro j
  induction j with
  | zero =>
    intro _ _ _
    exact zk_none
  | succ j ih =>
    intro x2 x3 x4
    unfold f_X0_bestStep_3
    refine zk_st R 2 6 [some (.inr (2, 0)), some (.inr (6, g1)), some (.inl (.int x2)), some (.inl (.int x3)), some (.inl (.int x4)), none] [.inl (.int (4 : Int32)), .inl (.int x4)] m rfl ⟨trivial, trivial, trivial⟩ ?_
    refine zk_br R rfl (fun _ => ?_) (fun _ => ?_)
    · refine zk_st R 1 47 [some (.inr (2, 0)), some (.inr (6, g1)), some (.inl (.int x2)), some (.inl (.int x3)), some (.inl (.int x4)), none] [.inl (.int (-1 : Int32))] m rfl ⟨trivial, trivial⟩ ?_
      exact zk_ret R rfl trivial rfl
    · refine zk_st R 3 13 [some (.inr (2, 0)), some (.inr (6, g1)), some (.inl (.int x2)), some (.inl (.int x3)), some (.inl (.int x4)), none] [.inl (.int x4), .inl (.int x2), .inr (6, g1)] m rfl ⟨trivial, trivial, trivial, trivial⟩ ?_
      refine zk_call R (fun b => some (.inl (.int b))) (fun _ => m) rfl (r_X4_neighbor hg1) (fun b hb => w_X4_neighbor d 0 g1 hg1 x2 x4 m b hb) (fun r2 => ?_)
      refine zk_st R 5 23 [some (.inr (2, 0)), some (.inr (6, g1)), some (.inl (.int x2)), some (.inl (.int x3)), some (.inl (.int x4)), some (.inl (.int r2))] [.inl (.int x3), .inl (.int r2), .inr (6, g1), .inr (2, 0)] m rfl ⟨trivial, trivial, trivial, trivial, trivial, trivial⟩ ?_
      refine zk_call R (fun b => some (.inl (.int b))) (fun _ => m) rfl (r_X0_stepValue (Nat.le_of_ble_eq_true rfl)) (fun b hb => w_X0_stepValue d 0 g1 hg1 r2 x3 m b hb) (fun r3 => ?_)
      refine zk_st R 3 31 [some (.inr (2, 0)), some (.inr (6, g1)), some (.inl (.int x2)), some (.inl (.int x3)), some (.inl (.int x4)), some (.inl (.int r2))] [.inl (.int x2), .inr (20, 57), .inl (.int r3)] m rfl ⟨trivial, (Nat.le_of_ble_eq_true rfl), trivial, trivial⟩ ?_
      refine zk_call R (fun b => some (.inl (.int b))) (fun _ => m) rfl (r_X7_at) (fun b hb => w_X7_at_k20 (d + 1) 0 57 (Nat.le_of_ble_eq_true rfl) x2 m b hb) (fun r4 => ?_)
      refine zk_br R rfl (fun _ => ?_) (fun _ => ?_)
      · refine zk_st R 1 39 [some (.inr (2, 0)), some (.inr (6, g1)), some (.inl (.int x2)), some (.inl (.int x3)), some (.inl (.int x4)), some (.inl (.int r2))] [.inl (.int r2)] m rfl ⟨trivial, trivial⟩ ?_
        exact zk_ret R rfl trivial rfl
      · refine zk_st R 2 3 [some (.inr (2, 0)), some (.inr (6, g1)), some (.inl (.int x2)), some (.inl (.int x3)), some (.inl (.int (x4 + (1 : Int32)))), some (.inl (.int r2))] [] m rfl ⟨trivial, trivial, trivial⟩ ?_
        refine zk_mask R [true, true, true, true, true, false] rfl ?_
        exact ih x2 x3 (x4 + (1 : Int32))
theorem w_X0_bestStep (d k : Nat) (g1 : Nat) (hg1 : g1 < zN 6) (x2 : Int32) (x3 : Int32) (m : zM) (a : Int32) (ha : f_X0_bestStep g1 x2 x3 m = some a) : z_Ev z_MT zN zRf (d + 3) (k + 0) 44 [.inr (2, 0), .inr (6, g1), .inl (.int x2), .inl (.int x3)] m ((fun a => (z_cI a, m) : Int32 → zO) a) := by
  refine zk_top (I := (yX0_bestStep, cX0_bestStep, 6, (some .int), [], tX0_bestStep, 2, 3, 2, 0, 0, 0)) (oc := (fun a => (z_cI a, m) : Int32 → zO)) (a := a) rfl (Nat.le_of_ble_eq_true rfl) (fun G R => ?_) ha
  unfold f_X0_bestStep
  refine zk_st R 2 3 [some (.inr (2, 0)), some (.inr (6, g1)), some (.inl (.int x2)), some (.inl (.int x3)), some (.inl (.int (0 : Int32))), none] [] m rfl ⟨trivial, trivial, trivial⟩ ?_
  refine zk_mask R [true, true, true, true, true, false] rfl ?_
  exact w_X0_bestStep_3 d k g1 hg1 m R zF x2 x3 (0 : Int32)
theorem r_X1_place {i : Nat} {t : List zA} (h : i < zN 3) : z_rcv zN (zKD 47) (.inr (3, i) :: t) := by
  rw [show zKD 47 = 3 from rfl]
  exact ⟨rfl, h⟩
noncomputable def f_X1_place_84 : Nat → Int64 → Int32 → Int32 → zM → Option (zM)
  | 0, _, _, _, _ => none
  | j + 1, x1, x3, x6, m =>
    if (m.1 3 0 0) ≤ x6 then
      Option.bind (f_X1_begin x1 x3 m) fun r2 =>
      some r2
    else
      Option.bind (f_X1_isWithin x6 x1 x3 m) fun r3 =>
      if (z_bi r3) = 0 then
        f_X1_place_84 j x1 x3 (x6 + (1 : Int32)) m
      else
        Option.bind (f_X7_put 21 2 x6 (m.1 3 0 0) m) fun r5 =>
        f_X1_place_84 j x1 x3 (x6 + (1 : Int32)) r5
noncomputable def f_X1_place_9 : Nat → Int64 → Int32 → Int32 → Int32 → Int32 → zM → Option (zM)
  | 0, _, _, _, _, _, _ => none
  | j + 1, x1, x3, x4, x5, x6, m =>
    if (m.1 3 0 0) ≤ x6 then
      if x4 = (1 : Int32) then
        Option.bind (f_X7_put 21 1 x5 x3 m) fun r3 =>
        Option.bind (f_X7_put_ 31 1 x5 x1 r3) fun r4 =>
        some r4
      else
        if (128 : Int32) ≤ (m.1 3 0 0) then
          some m
        else
          f_X1_place_84 zF x1 x3 (0 : Int32) m
    else
      Option.bind (f_X1_isWithin x6 x1 x3 m) fun r6 =>
      if (z_bi r6) = 0 then
        f_X1_place_9 j x1 x3 x4 x5 (x6 + (1 : Int32)) m
      else
        f_X1_place_9 j x1 x3 (x4 + (1 : Int32)) x6 (x6 + (1 : Int32)) m
noncomputable def f_X1_place (x1 : Int64) (x3 : Int32) (m : zM) : Option (zM) :=
  f_X1_place_9 zF x1 x3 (0 : Int32) (-1 : Int32) (0 : Int32) m
theorem w_X1_place_84 (d k : Nat) {o : zO} {G : Nat → Nat → zL → List zA → zM → Prop} (R : zRu (d + 2) tX1_place 0 (z_hf []) o G) : ∀ (j : Nat) (x1 : Int64) (x3 : Int32) (x6 : Int32) (m : zM), zLK G (fun a => (.inl none, a) : zM → zO) o (f_X1_place_84 j x1 x3 x6 m) some (k + 0) 84 [some (.inr (3, 0)), some (.inl (.long x1)), none, some (.inl (.int x3)), none, none, some (.inl (.int x6))] [] m := by
  intro j
  induction j with
  | zero =>
    intro _ _ _ _
    exact zk_none
  | succ j ih =>
    intro x1 x3 x6 m
    unfold f_X1_place_84
    refine zk_st R 3 90 [some (.inr (3, 0)), some (.inl (.long x1)), none, some (.inl (.int x3)), none, none, some (.inl (.int x6))] [.inl (.int (m.1 3 0 0)), .inl (.int x6)] m rfl ⟨trivial, trivial, (Nat.le_of_ble_eq_true rfl), trivial⟩ ?_
    refine zk_br R rfl (fun _ => ?_) (fun _ => ?_)
    · refine zk_st R 3 126 [some (.inr (3, 0)), some (.inl (.long x1)), none, some (.inl (.int x3)), none, none, some (.inl (.int x6))] [.inl (.int x3), .inl (.long x1), .inr (3, 0)] m rfl ⟨trivial, trivial, trivial, trivial⟩ ?_
      refine zk_call R (fun _ => none) id rfl (r_X1_begin (Nat.le_of_ble_eq_true rfl)) (fun b hb => w_X1_begin d 0 x1 x3 m b hb) (fun r2 => ?_)
      exact zk_ret R rfl trivial rfl
    · refine zk_st R 4 98 [some (.inr (3, 0)), some (.inl (.long x1)), none, some (.inl (.int x3)), none, none, some (.inl (.int x6))] [.inl (.int x3), .inl (.long x1), .inl (.int x6), .inr (3, 0)] m rfl ⟨trivial, trivial, trivial, trivial, trivial⟩ ?_
      refine zk_call R (fun b => some (.inl (.int (z_bi b)))) (fun _ => m) rfl (r_X1_isWithin (Nat.le_of_ble_eq_true rfl)) (fun b hb => w_X1_isWithin d 0 x6 x1 x3 m b hb) (fun r3 => ?_)
      refine zk_br R rfl (fun _ => ?_) (fun _ => ?_)
      · refine zk_st R 2 84 [some (.inr (3, 0)), some (.inl (.long x1)), none, some (.inl (.int x3)), none, none, some (.inl (.int (x6 + (1 : Int32))))] [] m rfl ⟨trivial, trivial, trivial⟩ ?_
        refine zk_mask R [true, true, false, true, false, false, true] rfl ?_
        exact ih x1 x3 (x6 + (1 : Int32)) m
      · refine zk_st R 5 114 [some (.inr (3, 0)), some (.inl (.long x1)), none, some (.inl (.int x3)), none, none, some (.inl (.int x6))] [.inl (.int (m.1 3 0 0)), .inl (.int x6), .inr (21, 2)] m rfl ⟨trivial, (Nat.le_of_ble_eq_true rfl), trivial, trivial, (Nat.le_of_ble_eq_true rfl), trivial⟩ ?_
        refine zk_call R (fun _ => none) id rfl (r_X7_put) (fun b hb => w_X7_put_k21 (d + 1) 0 2 (Nat.le_of_ble_eq_true rfl) x6 (m.1 3 0 0) m b hb) (fun r5 => ?_)
        refine zk_st R 2 84 [some (.inr (3, 0)), some (.inl (.long x1)), none, some (.inl (.int x3)), none, none, some (.inl (.int (x6 + (1 : Int32))))] [] r5 rfl ⟨trivial, trivial, trivial⟩ ?_
        refine zk_mask R [true, true, false, true, false, false, true] rfl ?_
        exact ih x1 x3 (x6 + (1 : Int32)) r5
theorem w_X1_place_9 (d k : Nat) {o : zO} {G : Nat → Nat → zL → List zA → zM → Prop} (R : zRu (d + 2) tX1_place 0 (z_hf []) o G) : ∀ (j : Nat) (x1 : Int64) (x3 : Int32) (x4 : Int32) (x5 : Int32) (x6 : Int32) (m : zM), zLK G (fun a => (.inl none, a) : zM → zO) o (f_X1_place_9 j x1 x3 x4 x5 x6 m) some (k + 0) 9 [some (.inr (3, 0)), some (.inl (.long x1)), none, some (.inl (.int x3)), some (.inl (.int x4)), some (.inl (.int x5)), some (.inl (.int x6))] [] m := by
  intro j
  induction j with
  | zero =>
    intro _ _ _ _ _ _
    exact zk_none
  | succ j ih =>
    intro x1 x3 x4 x5 x6 m
    unfold f_X1_place_9
    refine zk_st R 3 15 [some (.inr (3, 0)), some (.inl (.long x1)), none, some (.inl (.int x3)), some (.inl (.int x4)), some (.inl (.int x5)), some (.inl (.int x6))] [.inl (.int (m.1 3 0 0)), .inl (.int x6)] m rfl ⟨trivial, trivial, (Nat.le_of_ble_eq_true rfl), trivial⟩ ?_
    refine zk_br R rfl (fun _ => ?_) (fun _ => ?_)
    · refine zk_st R 2 45 [some (.inr (3, 0)), some (.inl (.long x1)), none, some (.inl (.int x3)), some (.inl (.int x4)), some (.inl (.int x5)), some (.inl (.int x6))] [.inl (.int (1 : Int32)), .inl (.int x4)] m rfl ⟨trivial, trivial, trivial⟩ ?_
      refine zk_br R rfl (fun _ => ?_) (fun _ => ?_)
      · refine zk_st R 4 55 [some (.inr (3, 0)), some (.inl (.long x1)), none, some (.inl (.int x3)), some (.inl (.int x4)), some (.inl (.int x5)), some (.inl (.int x6))] [.inl (.int x3), .inl (.int x5), .inr (21, 1)] m rfl ⟨trivial, (Nat.le_of_ble_eq_true rfl), trivial, trivial, trivial⟩ ?_
        refine zk_call R (fun _ => none) id rfl (r_X7_put) (fun b hb => w_X7_put_k21 (d + 1) 0 1 (Nat.le_of_ble_eq_true rfl) x5 x3 m b hb) (fun r3 => ?_)
        refine zk_st R 4 65 [some (.inr (3, 0)), some (.inl (.long x1)), none, some (.inl (.int x3)), some (.inl (.int x4)), some (.inl (.int x5)), some (.inl (.int x6))] [.inl (.long x1), .inl (.int x5), .inr (31, 1)] r3 rfl ⟨trivial, (Nat.le_of_ble_eq_true rfl), trivial, trivial, trivial⟩ ?_
        refine zk_call R (fun _ => none) id rfl (r_X7_put_) (fun b hb => w_X7_put__k31 (d + 1) 0 1 (Nat.le_of_ble_eq_true rfl) x5 x1 r3 b hb) (fun r4 => ?_)
        refine zk_st R 1 129 [some (.inr (3, 0)), some (.inl (.long x1)), none, some (.inl (.int x3)), some (.inl (.int x4)), some (.inl (.int x5)), some (.inl (.int x6))] [] r4 rfl ⟨trivial, trivial⟩ ?_
        exact zk_ret R rfl trivial rfl
      · refine zk_st R 3 78 [some (.inr (3, 0)), some (.inl (.long x1)), none, some (.inl (.int x3)), some (.inl (.int x4)), some (.inl (.int x5)), some (.inl (.int x6))] [.inl (.int (128 : Int32)), .inl (.int (m.1 3 0 0))] m rfl ⟨trivial, (Nat.le_of_ble_eq_true rfl), trivial, trivial⟩ ?_
        refine zk_br R rfl (fun _ => ?_) (fun _ => ?_)
        · exact zk_ret R rfl trivial rfl
        · refine zk_st R 2 84 [some (.inr (3, 0)), some (.inl (.long x1)), none, some (.inl (.int x3)), some (.inl (.int x4)), some (.inl (.int x5)), some (.inl (.int (0 : Int32)))] [] m rfl ⟨trivial, trivial, trivial⟩ ?_
          refine zk_mask R [true, true, false, true, false, false, true] rfl ?_
          exact w_X1_place_84 d k R zF x1 x3 (0 : Int32) m
    · refine zk_st R 4 23 [some (.inr (3, 0)), some (.inl (.long x1)), none, some (.inl (.int x3)), some (.inl (.int x4)), some (.inl (.int x5)), some (.inl (.int x6))] [.inl (.int x3), .inl (.long x1), .inl (.int x6), .inr (3, 0)] m rfl ⟨trivial, trivial, trivial, trivial, trivial⟩ ?_
      refine zk_call R (fun b => some (.inl (.int (z_bi b)))) (fun _ => m) rfl (r_X1_isWithin (Nat.le_of_ble_eq_true rfl)) (fun b hb => w_X1_isWithin d 0 x6 x1 x3 m b hb) (fun r6 => ?_)
      refine zk_br R rfl (fun _ => ?_) (fun _ => ?_)
      · refine zk_st R 2 9 [some (.inr (3, 0)), some (.inl (.long x1)), none, some (.inl (.int x3)), some (.inl (.int x4)), some (.inl (.int x5)), some (.inl (.int (x6 + (1 : Int32))))] [] m rfl ⟨trivial, trivial, trivial⟩ ?_
        refine zk_mask R [true, true, false, true, true, true, true] rfl ?_
        exact ih x1 x3 x4 x5 (x6 + (1 : Int32)) m
      · refine zk_st R 5 9 [some (.inr (3, 0)), some (.inl (.long x1)), none, some (.inl (.int x3)), some (.inl (.int (x4 + (1 : Int32)))), some (.inl (.int x6)), some (.inl (.int (x6 + (1 : Int32))))] [] m rfl ⟨trivial, trivial, trivial, trivial, trivial, trivial⟩ ?_
        refine zk_mask R [true, true, false, true, true, true, true] rfl ?_
        exact ih x1 x3 (x4 + (1 : Int32)) x6 (x6 + (1 : Int32)) m
theorem w_X1_place (d k : Nat) (x1 : Int64) (x3 : Int32) (m : zM) (a : zM) (ha : f_X1_place x1 x3 m = some a) : z_Ev z_MT zN zRf (d + 3) (k + 0) 47 [.inr (3, 0), .inl (.long x1), .inl (.int x3)] m ((fun a => (.inl none, a) : zM → zO) a) := by
  refine zk_top (I := (yX1_place, cX1_place, 7, none, [], tX1_place, 3, 2, 3, 0, 0, 0)) (oc := (fun a => (.inl none, a) : zM → zO)) (a := a) rfl (Nat.le_of_ble_eq_true rfl) (fun G R => ?_) ha
  unfold f_X1_place
  refine zk_st R 6 9 [some (.inr (3, 0)), some (.inl (.long x1)), none, some (.inl (.int x3)), some (.inl (.int (0 : Int32))), some (.inl (.int (-1 : Int32))), some (.inl (.int (0 : Int32)))] [] m rfl ⟨trivial, trivial, trivial, trivial, trivial, trivial, trivial⟩ ?_
  refine zk_mask R [true, true, false, true, true, true, true] rfl ?_
  exact w_X1_place_9 d k R zF x1 x3 (0 : Int32) (-1 : Int32) (0 : Int32) m
theorem r_X1_capacity {i : Nat} {t : List zA} (h : i < zN 3) : z_rcv zN (zKD 51) (.inr (3, i) :: t) := by
  rw [show zKD 51 = 3 from rfl]
  exact ⟨rfl, h⟩
noncomputable def f_X1_capacity (g1 : Nat) (x2 : Int32) (m : zM) : Option (Int32) :=
  Option.bind (f_X7_at_ 31 1 x2 m) fun r1 =>
  Option.bind (f_X1_rim x2 m) fun r2 =>
  Option.bind (f_J13_bitCount_95d88 r1 m) fun r3 =>
  Option.bind (f_X7_sum 20 (3 * g1) r1 m) fun r4 =>
  some ((r2 * r3) - r4)
theorem w_X1_capacity (d k : Nat) (g1 : Nat) (hg1 : g1 < zN 6) (x2 : Int32) (m : zM) (a : Int32) (ha : f_X1_capacity g1 x2 m = some a) : z_Ev z_MT zN zRf (d + 3) (k + 0) 51 [.inr (3, 0), .inr (6, g1), .inl (.int x2)] m ((fun a => (z_cI a, m) : Int32 → zO) a) := by
  refine zk_top (I := (yX1_capacity, cX1_capacity, 5, (some .int), [], tX1_capacity, 3, 2, 3, 0, 0, 0)) (oc := (fun a => (z_cI a, m) : Int32 → zO)) (a := a) rfl (Nat.le_of_ble_eq_true rfl) (fun G R => ?_) ha
  unfold f_X1_capacity
  refine zk_st R 3 5 [some (.inr (3, 0)), some (.inr (6, g1)), some (.inl (.int x2)), none, none] [.inl (.int x2), .inr (31, 1)] m rfl ⟨trivial, (Nat.le_of_ble_eq_true rfl), trivial, trivial⟩ ?_
  refine zk_call R (fun b => some (.inl (.long b))) (fun _ => m) rfl (r_X7_at_) (fun b hb => w_X7_at__k31 (d + 1) 0 1 (Nat.le_of_ble_eq_true rfl) x2 m b hb) (fun r1 => ?_)
  refine zk_st R 3 11 [some (.inr (3, 0)), some (.inr (6, g1)), some (.inl (.int x2)), some (.inl (.long r1)), none] [.inl (.int x2), .inr (3, 0)] m rfl ⟨trivial, trivial, trivial, trivial⟩ ?_
  refine zk_call R (fun b => some (.inl (.int b))) (fun _ => m) rfl (r_X1_rim (Nat.le_of_ble_eq_true rfl)) (fun b hb => w_X1_rim d 0 x2 m b hb) (fun r2 => ?_)
  refine zk_st R 1 15 [some (.inr (3, 0)), some (.inr (6, g1)), some (.inl (.int x2)), some (.inl (.long r1)), none] [.inl (.long r1), .inl (.int r2)] m rfl ⟨trivial, trivial⟩ ?_
  refine zk_call R (fun b => some (.inl (.int b))) (fun _ => m) rfl (r_J13_bitCount_95d88) (fun b hb => w_J13_bitCount_95d88 (d + 1) 0 r1 m b hb) (fun r3 => ?_)
  refine zk_st R 4 24 [some (.inr (3, 0)), some (.inr (6, g1)), some (.inl (.int x2)), some (.inl (.long r1)), none] [.inl (.long r1), .inr (20, 3 * g1), .inl (.int (r2 * r3))] m rfl ⟨trivial, trivial, hg1, trivial, trivial⟩ ?_
  refine zk_call R (fun b => some (.inl (.int b))) (fun _ => m) rfl (r_X7_sum) (fun b hb => w_X7_sum_k20 d 0 (3 * g1) (z_g0 hg1) r1 m b hb) (fun r4 => ?_)
  refine zk_st R 1 28 [some (.inr (3, 0)), some (.inr (6, g1)), some (.inl (.int x2)), some (.inl (.long r1)), none] [.inl (.int ((r2 * r3) - r4))] m rfl ⟨trivial, trivial⟩ ?_
  exact zk_ret R rfl trivial rfl
theorem r_X2_findLevels {i : Nat} {t : List zA} (h : i < zN 4) : z_rcv zN (zKD 57) (.inr (4, i) :: t) := by
  rw [show zKD 57 = 4 from rfl]
  exact ⟨rfl, h⟩
noncomputable def f_X2_findLevels_40 (g1 : Nat) (c10 : Int32 → Int64 → Int32 → zM → Option (zM)) : Nat → Int32 → Int64 → Int32 → Int64 → Int32 → zM → Option (zM)
  | 0, _, _, _, _, _, _ => none
  | j + 1, x2, x3, x5, x6, x8, m =>
    if x2 ≤ x8 then
      c10 x2 x3 (x5 + (1 : Int32)) m
    else
      if (lg_cmp x3 x6) = 0 then
        c10 x2 x3 (x5 + (1 : Int32)) m
      else
        Option.bind (f_X7_has (x3 &&& (x6 ^^^ (-1 : Int64))) x8 m) fun r3 =>
        if (z_bi r3) = 0 then
          f_X2_findLevels_40 g1 c10 j x2 x3 x5 x6 (x8 + (1 : Int32)) m
        else
          Option.bind (f_X7_put 20 33 x8 x5 m) fun r5 =>
          f_X2_findLevels_40 g1 c10 j x2 x3 x5 x6 (x8 + (1 : Int32)) r5
noncomputable def f_X2_findLevels_10 (g1 : Nat) : Nat → Int32 → Int64 → Int32 → zM → Option (zM)
  | 0, _, _, _, _ => none
  | j + 1, x2, x3, x5, m =>
    if (99 : Int32) < x5 then
      some m
    else
      Option.bind (f_X4_atMost g1 x5 m) fun r2 =>
      Option.bind (f_X4_reachable g1 (x3 ||| (m.2.1 6 g1 3)) r2 m) fun r3 =>
      f_X2_findLevels_40 g1 (f_X2_findLevels_10 g1 j) zF x2 r3 x5 x3 (0 : Int32) m
noncomputable def f_X2_findLevels (g1 : Nat) (m : zM) : Option (zM) :=
  Option.bind (f_X4_size g1 m) fun r1 =>
  f_X2_findLevels_10 g1 zF r1 (0 : Int64) (0 : Int32) m
theorem w_X2_findLevels_40 (d k : Nat) {o : zO} {G : Nat → Nat → zL → List zA → zM → Prop} (g1 : Nat) (hg1 : g1 < zN 6) (R : zRu (d + 2) tX2_findLevels 0 (z_hf []) o G) (c10 : Int32 → Int64 → Int32 → zM → Option (zM)) (hc10 : ∀ (x2 : Int32) (x3 : Int64) (x5 : Int32) (m : zM), zLK G (fun a => (.inl none, a) : zM → zO) o (c10 x2 x3 x5 m) some (k + 0) 10 [some (.inr (4, 0)), some (.inr (6, g1)), some (.inl (.int x2)), some (.inl (.long x3)), none, some (.inl (.int x5)), none, none, none] [] m) : ∀ (j : Nat) (x2 : Int32) (x3 : Int64) (x5 : Int32) (x6 : Int64) (x8 : Int32) (m : zM), zLK G (fun a => (.inl none, a) : zM → zO) o (f_X2_findLevels_40 g1 c10 j x2 x3 x5 x6 x8 m) some (k + 0) 40 [some (.inr (4, 0)), some (.inr (6, g1)), some (.inl (.int x2)), some (.inl (.long x3)), none, some (.inl (.int x5)), some (.inl (.long x6)), none, some (.inl (.int x8))] [] m := by
  intro j
  induction j with
  | zero =>
    intro _ _ _ _ _ _
    exact zk_none
  | succ j ih =>
    intro x2 x3 x5 x6 x8 m
    unfold f_X2_findLevels_40
    refine zk_st R 2 43 [some (.inr (4, 0)), some (.inr (6, g1)), some (.inl (.int x2)), some (.inl (.long x3)), none, some (.inl (.int x5)), some (.inl (.long x6)), none, some (.inl (.int x8))] [.inl (.int x2), .inl (.int x8)] m rfl ⟨trivial, trivial, trivial⟩ ?_
    refine zk_br R rfl (fun _ => ?_) (fun _ => ?_)
    · refine zk_st R 2 10 [some (.inr (4, 0)), some (.inr (6, g1)), some (.inl (.int x2)), some (.inl (.long x3)), none, some (.inl (.int (x5 + (1 : Int32)))), some (.inl (.long x6)), none, some (.inl (.int x8))] [] m rfl ⟨trivial, trivial, trivial⟩ ?_
      refine zk_mask R [true, true, true, true, false, true, false, false, false] rfl ?_
      exact hc10 x2 x3 (x5 + (1 : Int32)) m
    · refine zk_st R 3 50 [some (.inr (4, 0)), some (.inr (6, g1)), some (.inl (.int x2)), some (.inl (.long x3)), none, some (.inl (.int x5)), some (.inl (.long x6)), none, some (.inl (.int x8))] [.inl (.int (lg_cmp x3 x6))] m rfl ⟨trivial, trivial, trivial, trivial⟩ ?_
      refine zk_br R rfl (fun _ => ?_) (fun _ => ?_)
      · refine zk_st R 2 10 [some (.inr (4, 0)), some (.inr (6, g1)), some (.inl (.int x2)), some (.inl (.long x3)), none, some (.inl (.int (x5 + (1 : Int32)))), some (.inl (.long x6)), none, some (.inl (.int x8))] [] m rfl ⟨trivial, trivial, trivial⟩ ?_
        refine zk_mask R [true, true, true, true, false, true, false, false, false] rfl ?_
        exact hc10 x2 x3 (x5 + (1 : Int32)) m
      · refine zk_st R 6 63 [some (.inr (4, 0)), some (.inr (6, g1)), some (.inl (.int x2)), some (.inl (.long x3)), none, some (.inl (.int x5)), some (.inl (.long x6)), none, some (.inl (.int x8))] [.inl (.int x8), .inl (.long (x3 &&& (x6 ^^^ (-1 : Int64))))] m rfl ⟨trivial, trivial, trivial, trivial, trivial, trivial, trivial⟩ ?_
        refine zk_call R (fun b => some (.inl (.int (z_bi b)))) (fun _ => m) rfl (r_X7_has) (fun b hb => w_X7_has (d + 1) 0 (x3 &&& (x6 ^^^ (-1 : Int64))) x8 m b hb) (fun r3 => ?_)
        refine zk_br R rfl (fun _ => ?_) (fun _ => ?_)
        · refine zk_st R 2 40 [some (.inr (4, 0)), some (.inr (6, g1)), some (.inl (.int x2)), some (.inl (.long x3)), none, some (.inl (.int x5)), some (.inl (.long x6)), none, some (.inl (.int (x8 + (1 : Int32))))] [] m rfl ⟨trivial, trivial, trivial⟩ ?_
          refine zk_mask R [true, true, true, true, false, true, true, false, true] rfl ?_
          exact ih x2 x3 x5 x6 (x8 + (1 : Int32)) m
        · refine zk_st R 4 77 [some (.inr (4, 0)), some (.inr (6, g1)), some (.inl (.int x2)), some (.inl (.long x3)), none, some (.inl (.int x5)), some (.inl (.long x6)), none, some (.inl (.int x8))] [.inl (.int x5), .inl (.int x8), .inr (20, 33)] m rfl ⟨trivial, (Nat.le_of_ble_eq_true rfl), trivial, trivial, trivial⟩ ?_
          refine zk_call R (fun _ => none) id rfl (r_X7_put) (fun b hb => w_X7_put_k20 (d + 1) 0 33 (Nat.le_of_ble_eq_true rfl) x8 x5 m b hb) (fun r5 => ?_)
          refine zk_st R 2 40 [some (.inr (4, 0)), some (.inr (6, g1)), some (.inl (.int x2)), some (.inl (.long x3)), none, some (.inl (.int x5)), some (.inl (.long x6)), none, some (.inl (.int (x8 + (1 : Int32))))] [] r5 rfl ⟨trivial, trivial, trivial⟩ ?_
          refine zk_mask R [true, true, true, true, false, true, true, false, true] rfl ?_
          exact ih x2 x3 x5 x6 (x8 + (1 : Int32)) r5
theorem w_X2_findLevels_10 (d k : Nat) {o : zO} {G : Nat → Nat → zL → List zA → zM → Prop} (g1 : Nat) (hg1 : g1 < zN 6) (R : zRu (d + 2) tX2_findLevels 0 (z_hf []) o G) : ∀ (j : Nat) (x2 : Int32) (x3 : Int64) (x5 : Int32) (m : zM), zLK G (fun a => (.inl none, a) : zM → zO) o (f_X2_findLevels_10 g1 j x2 x3 x5 m) some (k + 0) 10 [some (.inr (4, 0)), some (.inr (6, g1)), some (.inl (.int x2)), some (.inl (.long x3)), none, some (.inl (.int x5)), none, none, none] [] m := by
  intro j
  induction j with
  | zero =>
    intro _ _ _ _
    exact zk_none
  | succ j ih =>
    intro x2 x3 x5 m
    unfold f_X2_findLevels_10
    refine zk_st R 2 14 [some (.inr (4, 0)), some (.inr (6, g1)), some (.inl (.int x2)), some (.inl (.long x3)), none, some (.inl (.int x5)), none, none, none] [.inl (.int (99 : Int32)), .inl (.int x5)] m rfl ⟨trivial, trivial, trivial⟩ ?_
    refine zk_br R rfl (fun _ => ?_) (fun _ => ?_)
    · exact zk_ret R rfl trivial rfl
    · refine zk_st R 9 30 [some (.inr (4, 0)), some (.inr (6, g1)), some (.inl (.int x2)), some (.inl (.long x3)), none, some (.inl (.int x5)), some (.inl (.long x3)), none, none] [.inl (.int x5), .inr (6, g1), .inl (.long (x3 ||| (m.2.1 6 g1 3))), .inr (6, g1)] m rfl ⟨trivial, trivial, trivial, trivial, trivial, hg1, trivial, trivial, trivial, trivial⟩ ?_
      refine zk_call R (fun b => some (.inl (.long b))) (fun _ => m) rfl (r_X4_atMost hg1) (fun b hb => w_X4_atMost d 0 g1 hg1 x5 m b hb) (fun r2 => ?_)
      refine zk_call R (fun b => some (.inl (.long b))) (fun _ => m) rfl (r_X4_reachable hg1) (fun b hb => w_X4_reachable d 0 g1 hg1 (x3 ||| (m.2.1 6 g1 3)) r2 m b hb) (fun r3 => ?_)
      refine zk_st R 3 40 [some (.inr (4, 0)), some (.inr (6, g1)), some (.inl (.int x2)), some (.inl (.long r3)), none, some (.inl (.int x5)), some (.inl (.long x3)), none, some (.inl (.int (0 : Int32)))] [] m rfl ⟨trivial, trivial, trivial, trivial⟩ ?_
      refine zk_mask R [true, true, true, true, false, true, true, false, true] rfl ?_
      exact w_X2_findLevels_40 d k g1 hg1 R (f_X2_findLevels_10 g1 j) ih zF x2 r3 x5 x3 (0 : Int32) m
theorem w_X2_findLevels (d k : Nat) (g1 : Nat) (hg1 : g1 < zN 6) (m : zM) (a : zM) (ha : f_X2_findLevels g1 m = some a) : z_Ev z_MT zN zRf (d + 3) (k + 0) 57 [.inr (4, 0), .inr (6, g1)] m ((fun a => (.inl none, a) : zM → zO) a) := by
  refine zk_top (I := (yX2_findLevels, cX2_findLevels, 9, none, [], tX2_findLevels, 4, 1, 4, 0, 0, 0)) (oc := (fun a => (.inl none, a) : zM → zO)) (a := a) rfl (Nat.le_of_ble_eq_true rfl) (fun G R => ?_) ha
  unfold f_X2_findLevels
  refine zk_st R 1 1 [some (.inr (4, 0)), some (.inr (6, g1)), none, none, none, none, none, none, none] [.inr (6, g1)] m rfl ⟨trivial, trivial⟩ ?_
  refine zk_call R (fun b => some (.inl (.int b))) (fun _ => m) rfl (r_X4_size hg1) (fun b hb => w_X4_size (d + 1) 0 g1 hg1 m b hb) (fun r1 => ?_)
  refine zk_st R 5 10 [some (.inr (4, 0)), some (.inr (6, g1)), some (.inl (.int r1)), some (.inl (.long (0 : Int64))), none, some (.inl (.int (0 : Int32))), none, none, none] [] m rfl ⟨trivial, trivial, trivial, trivial, trivial, trivial⟩ ?_
  refine zk_mask R [true, true, true, true, false, true, false, false, false] rfl ?_
  exact w_X2_findLevels_10 d k g1 hg1 R zF r1 (0 : Int64) (0 : Int32) m
theorem r_X2_findLakes {i : Nat} {t : List zA} (h : i < zN 4) : z_rcv zN (zKD 59) (.inr (4, i) :: t) := by
  rw [show zKD 59 = 4 from rfl]
  exact ⟨rfl, h⟩
noncomputable def f_X2_findLakes_20 (g1 : Nat) : Nat → Int32 → Int32 → zM → Option (zM)
  | 0, _, _, _ => none
  | j + 1, x2, x3, m =>
    if x2 ≤ x3 then
      some m
    else
      Option.bind (f_X7_has (m.2.1 4 0 5) x3 m) fun r2 =>
      if (z_bi r2) = 0 then
        f_X2_findLakes_20 g1 j x2 (x3 + (1 : Int32)) m
      else
        Option.bind (f_X7_at 20 35 x3 m) fun r4 =>
        if r4 = (-1 : Int32) then
          Option.bind (f_X7_at 20 33 x3 m) fun r6 =>
          Option.bind (f_X2_wetAtLevel r6 m) fun r7 =>
          Option.bind (f_X4_reachable g1 (z_shl (1 : Int64) x3) r7 m) fun r8 =>
          Option.bind (f_X7_put_ 30 0 (m.1 4 0 4) r8 m) fun r9 =>
          Option.bind (f_X2_numberLake r8 r9) fun r10 =>
          f_X2_findLakes_20 g1 j x2 (x3 + (1 : Int32)) (z_sI r10 4 0 4 ((r10.1 4 0 4) + (1 : Int32)))
        else
          f_X2_findLakes_20 g1 j x2 (x3 + (1 : Int32)) m
noncomputable def f_X2_findLakes (g1 : Nat) (m : zM) : Option (zM) :=
  Option.bind (f_J7_fill_53178 20 35 (-1 : Int32) m) fun r1 =>
  Option.bind (f_X4_size g1 (z_sI r1 4 0 4 (0 : Int32))) fun r2 =>
  f_X2_findLakes_20 g1 zF r2 (0 : Int32) (z_sI r1 4 0 4 (0 : Int32))
theorem w_X2_findLakes_20 (d k : Nat) {o : zO} {G : Nat → Nat → zL → List zA → zM → Prop} (g1 : Nat) (hg1 : g1 < zN 6) (R : zRu (d + 2) tX2_findLakes 0 (z_hf []) o G) : ∀ (j : Nat) (x2 : Int32) (x3 : Int32) (m : zM), zLK G (fun a => (.inl none, a) : zM → zO) o (f_X2_findLakes_20 g1 j x2 x3 m) some (k + 0) 20 [some (.inr (4, 0)), some (.inr (6, g1)), some (.inl (.int x2)), some (.inl (.int x3)), none, none] [] m := by
  intro j
  induction j with
  | zero =>
    intro _ _ _
    exact zk_none
  | succ j ih =>
    intro x2 x3 m
    unfold f_X2_findLakes_20
    refine zk_st R 2 22 [some (.inr (4, 0)), some (.inr (6, g1)), some (.inl (.int x2)), some (.inl (.int x3)), none, none] [.inl (.int x2), .inl (.int x3)] m rfl ⟨trivial, trivial, trivial⟩ ?_
    refine zk_br R rfl (fun _ => ?_) (fun _ => ?_)
    · exact zk_ret R rfl trivial rfl
    · refine zk_st R 3 30 [some (.inr (4, 0)), some (.inr (6, g1)), some (.inl (.int x2)), some (.inl (.int x3)), none, none] [.inl (.int x3), .inl (.long (m.2.1 4 0 5))] m rfl ⟨trivial, (Nat.le_of_ble_eq_true rfl), trivial, trivial⟩ ?_
      refine zk_call R (fun b => some (.inl (.int (z_bi b)))) (fun _ => m) rfl (r_X7_has) (fun b hb => w_X7_has (d + 1) 0 (m.2.1 4 0 5) x3 m b hb) (fun r2 => ?_)
      refine zk_br R rfl (fun _ => ?_) (fun _ => ?_)
      · refine zk_st R 2 20 [some (.inr (4, 0)), some (.inr (6, g1)), some (.inl (.int x2)), some (.inl (.int (x3 + (1 : Int32)))), none, none] [] m rfl ⟨trivial, trivial, trivial⟩ ?_
        refine zk_mask R [true, true, true, true, false, false] rfl ?_
        exact ih x2 (x3 + (1 : Int32)) m
      · refine zk_st R 3 41 [some (.inr (4, 0)), some (.inr (6, g1)), some (.inl (.int x2)), some (.inl (.int x3)), none, none] [.inl (.int x3), .inr (20, 35)] m rfl ⟨trivial, (Nat.le_of_ble_eq_true rfl), trivial, trivial⟩ ?_
        refine zk_call R (fun b => some (.inl (.int b))) (fun _ => m) rfl (r_X7_at) (fun b hb => w_X7_at_k20 (d + 1) 0 35 (Nat.le_of_ble_eq_true rfl) x3 m b hb) (fun r4 => ?_)
        refine zk_st R 1 45 [some (.inr (4, 0)), some (.inr (6, g1)), some (.inl (.int x2)), some (.inl (.int x3)), none, none] [.inl (.int (-1 : Int32)), .inl (.int r4)] m rfl ⟨trivial, trivial⟩ ?_
        refine zk_br R rfl (fun _ => ?_) (fun _ => ?_)
        · refine zk_st R 8 58 [some (.inr (4, 0)), some (.inr (6, g1)), some (.inl (.int x2)), some (.inl (.int x3)), none, none] [.inl (.int x3), .inr (20, 33), .inr (4, 0), .inl (.long (z_shl (1 : Int64) x3)), .inr (6, g1)] m rfl ⟨trivial, trivial, trivial, trivial, trivial, trivial, (Nat.le_of_ble_eq_true rfl), trivial, trivial⟩ ?_
          refine zk_call R (fun b => some (.inl (.int b))) (fun _ => m) rfl (r_X7_at) (fun b hb => w_X7_at_k20 (d + 1) 0 33 (Nat.le_of_ble_eq_true rfl) x3 m b hb) (fun r6 => ?_)
          refine zk_call R (fun b => some (.inl (.long b))) (fun _ => m) rfl (r_X2_wetAtLevel (Nat.le_of_ble_eq_true rfl)) (fun b hb => w_X2_wetAtLevel d 0 r6 m b hb) (fun r7 => ?_)
          refine zk_call R (fun b => some (.inl (.long b))) (fun _ => m) rfl (r_X4_reachable hg1) (fun b hb => w_X4_reachable d 0 g1 hg1 (z_shl (1 : Int64) x3) r7 m b hb) (fun r8 => ?_)
          refine zk_st R 6 79 [some (.inr (4, 0)), some (.inr (6, g1)), some (.inl (.int x2)), some (.inl (.int x3)), some (.inl (.long r8)), none] [.inl (.long r8), .inl (.int (m.1 4 0 4)), .inr (30, 0)] m rfl ⟨trivial, trivial, (Nat.le_of_ble_eq_true rfl), trivial, (Nat.le_of_ble_eq_true rfl), trivial, trivial⟩ ?_
          refine zk_call R (fun _ => none) id rfl (r_X7_put_) (fun b hb => w_X7_put__k30 (d + 1) 0 0 (Nat.le_of_ble_eq_true rfl) (m.1 4 0 4) r8 m b hb) (fun r9 => ?_)
          refine zk_st R 2 85 [some (.inr (4, 0)), some (.inr (6, g1)), some (.inl (.int x2)), some (.inl (.int x3)), some (.inl (.long r8)), none] [.inl (.long r8), .inr (4, 0)] r9 rfl ⟨trivial, trivial, trivial⟩ ?_
          refine zk_call R (fun _ => none) id rfl (r_X2_numberLake (Nat.le_of_ble_eq_true rfl)) (fun b hb => w_X2_numberLake d 0 r8 r9 b hb) (fun r10 => ?_)
          refine zk_st R 8 20 [some (.inr (4, 0)), some (.inr (6, g1)), some (.inl (.int x2)), some (.inl (.int (x3 + (1 : Int32)))), some (.inl (.long r8)), none] [] (z_sI r10 4 0 4 ((r10.1 4 0 4) + (1 : Int32))) rfl ⟨trivial, trivial, (Nat.le_of_ble_eq_true rfl), trivial, trivial, (Nat.le_of_ble_eq_true rfl), trivial, trivial, trivial⟩ ?_
          refine zk_mask R [true, true, true, true, false, false] rfl ?_
          exact ih x2 (x3 + (1 : Int32)) (z_sI r10 4 0 4 ((r10.1 4 0 4) + (1 : Int32)))
        · refine zk_st R 2 20 [some (.inr (4, 0)), some (.inr (6, g1)), some (.inl (.int x2)), some (.inl (.int (x3 + (1 : Int32)))), none, none] [] m rfl ⟨trivial, trivial, trivial⟩ ?_
          refine zk_mask R [true, true, true, true, false, false] rfl ?_
          exact ih x2 (x3 + (1 : Int32)) m
theorem w_X2_findLakes (d k : Nat) (g1 : Nat) (hg1 : g1 < zN 6) (m : zM) (a : zM) (ha : f_X2_findLakes g1 m = some a) : z_Ev z_MT zN zRf (d + 3) (k + 0) 59 [.inr (4, 0), .inr (6, g1)] m ((fun a => (.inl none, a) : zM → zO) a) := by
  refine zk_top (I := (yX2_findLakes, cX2_findLakes, 6, none, [], tX2_findLakes, 4, 1, 4, 0, 0, 0)) (oc := (fun a => (.inl none, a) : zM → zO)) (a := a) rfl (Nat.le_of_ble_eq_true rfl) (fun G R => ?_) ha
  unfold f_X2_findLakes
  refine zk_st R 3 5 [some (.inr (4, 0)), some (.inr (6, g1)), none, none, none, none] [.inl (.int (-1 : Int32)), .inr (20, 35)] m rfl ⟨trivial, (Nat.le_of_ble_eq_true rfl), trivial, trivial⟩ ?_
  refine zk_call R (fun _ => none) id rfl (r_J7_fill_53178) (fun b hb => w_J7_fill_53178_k20 (d + 1) 0 35 (Nat.le_of_ble_eq_true rfl) (-1 : Int32) m b hb) (fun r1 => ?_)
  refine zk_st R 4 14 [some (.inr (4, 0)), some (.inr (6, g1)), none, none, none, none] [.inr (6, g1)] (z_sI r1 4 0 4 (0 : Int32)) rfl ⟨trivial, trivial, (Nat.le_of_ble_eq_true rfl), trivial, trivial⟩ ?_
  refine zk_call R (fun b => some (.inl (.int b))) (fun _ => (z_sI r1 4 0 4 (0 : Int32))) rfl (r_X4_size hg1) (fun b hb => w_X4_size (d + 1) 0 g1 hg1 (z_sI r1 4 0 4 (0 : Int32)) b hb) (fun r2 => ?_)
  refine zk_st R 3 20 [some (.inr (4, 0)), some (.inr (6, g1)), some (.inl (.int r2)), some (.inl (.int (0 : Int32))), none, none] [] (z_sI r1 4 0 4 (0 : Int32)) rfl ⟨trivial, trivial, trivial, trivial⟩ ?_
  refine zk_mask R [true, true, true, true, false, false] rfl ?_
  exact w_X2_findLakes_20 d k g1 hg1 R zF r2 (0 : Int32) (z_sI r1 4 0 4 (0 : Int32))
