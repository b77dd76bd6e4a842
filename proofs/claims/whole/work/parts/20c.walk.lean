theorem r_X4_reachable {i : Nat} {t : List zA} (h : i < zN 6) : z_rcv zN (zKD 30) (.inr (6, i) :: t) := by
  rw [show zKD 30 = 6 from rfl]
  exact ⟨rfl, h⟩
noncomputable def f_X4_reachable_105 (g0 : Nat) (m : zM) (c38 : Int64 → Int64 → Int64 → Int64 → Int32 → Int32 → Option (Int64)) (x3 : Int64) (x5 : Int64) (x7 : Int64) (x12 : Int32) (x15 : Int64) (s0 : Int32) : Option (Int64) :=
  c38 x3 x5 x7 x15 s0 (x12 + (1 : Int32))
noncomputable def f_X4_reachable_38 (g0 : Nat) (m : zM) : Nat → Int64 → Int64 → Int64 → Int64 → Int32 → Int32 → Option (Int64)
  | 0, _, _, _, _, _, _ => none
  | j + 1, x3, x5, x7, x9, x11, x12 =>
    if (64 : Int32) ≤ x12 then
      some x9
    else
      if x11 = 0 then
        some x9
      else
        if (lg_cmp ((((x9 ||| ((z_ushr (x9 &&& x5) (1 : Int32)) ||| (z_shl (x9 &&& x7) (1 : Int32)))) ||| (z_ushr x9 (m.1 6 g0 0))) ||| (z_shl x9 (m.1 6 g0 0))) &&& x3) x9) = 0 then
          f_X4_reachable_105 g0 m (f_X4_reachable_38 g0 m j) x3 x5 x7 x12 ((((x9 ||| ((z_ushr (x9 &&& x5) (1 : Int32)) ||| (z_shl (x9 &&& x7) (1 : Int32)))) ||| (z_ushr x9 (m.1 6 g0 0))) ||| (z_shl x9 (m.1 6 g0 0))) &&& x3) (0 : Int32)
        else
          f_X4_reachable_105 g0 m (f_X4_reachable_38 g0 m j) x3 x5 x7 x12 ((((x9 ||| ((z_ushr (x9 &&& x5) (1 : Int32)) ||| (z_shl (x9 &&& x7) (1 : Int32)))) ||| (z_ushr x9 (m.1 6 g0 0))) ||| (z_shl x9 (m.1 6 g0 0))) &&& x3) (1 : Int32)
noncomputable def f_X4_reachable (g0 : Nat) (x1 : Int64) (x3 : Int64) (m : zM) : Option (Int64) :=
  Option.bind (f_X4_column g0 (0 : Int32) m) fun r1 =>
  Option.bind (f_X4_column g0 ((m.1 6 g0 0) - (1 : Int32)) m) fun r2 =>
  f_X4_reachable_38 g0 m zF x3 (r1 ^^^ (-1 : Int64)) (r2 ^^^ (-1 : Int64)) (x1 &&& x3) (1 : Int32) (0 : Int32)
theorem w_X4_reachable_105 (d k : Nat) {o : zO} {G : Nat → Nat → zL → List zA → zM → Prop} (g0 : Nat) (hg0 : g0 < zN 6) (m : zM) (R : zRu (d + 1) tX4_reachable 0 (z_hf []) o G) (c38 : Int64 → Int64 → Int64 → Int64 → Int32 → Int32 → Option (Int64)) (hc38 : ∀ (x3 : Int64) (x5 : Int64) (x7 : Int64) (x9 : Int64) (x11 : Int32) (x12 : Int32), zLK G (fun a => (z_cL a, m) : Int64 → zO) o (c38 x3 x5 x7 x9 x11 x12) some (k + 0) 38 [some (.inr (6, g0)), none, none, some (.inl (.long x3)), none, some (.inl (.long x5)), none, some (.inl (.long x7)), none, some (.inl (.long x9)), none, some (.inl (.int x11)), some (.inl (.int x12)), none, none, none, none] [] m) (x3 : Int64) (x5 : Int64) (x7 : Int64) (x12 : Int32) (x15 : Int64) (s0 : Int32) : zLK G (fun a => (z_cL a, m) : Int64 → zO) o (f_X4_reachable_105 g0 m c38 x3 x5 x7 x12 x15 s0) some (k + 0) 105 [some (.inr (6, g0)), none, none, some (.inl (.long x3)), none, some (.inl (.long x5)), none, some (.inl (.long x7)), none, none, none, none, some (.inl (.int x12)), none, none, some (.inl (.long x15)), none] [.inl (.int s0)] m := by
  unfold f_X4_reachable_105
  refine zk_st R 5 38 [some (.inr (6, g0)), none, none, some (.inl (.long x3)), none, some (.inl (.long x5)), none, some (.inl (.long x7)), none, some (.inl (.long x15)), none, some (.inl (.int s0)), some (.inl (.int (x12 + (1 : Int32)))), none, none, some (.inl (.long x15)), none] [] m rfl ⟨trivial, trivial, trivial, trivial, trivial, trivial⟩ ?_
  refine zk_mask R [true, false, false, true, false, true, false, true, false, true, false, true, true, false, false, false, false] rfl ?_
  exact hc38 x3 x5 x7 x15 s0 (x12 + (1 : Int32))
theorem w_X4_reachable_38 (d k : Nat) {o : zO} {G : Nat → Nat → zL → List zA → zM → Prop} (g0 : Nat) (hg0 : g0 < zN 6) (m : zM) (R : zRu (d + 1) tX4_reachable 0 (z_hf []) o G) : ∀ (j : Nat) (x3 : Int64) (x5 : Int64) (x7 : Int64) (x9 : Int64) (x11 : Int32) (x12 : Int32), zLK G (fun a => (z_cL a, m) : Int64 → zO) o (f_X4_reachable_38 g0 m j x3 x5 x7 x9 x11 x12) some (k + 0) 38 [some (.inr (6, g0)), none, none, some (.inl (.long x3)), none, some (.inl (.long x5)), none, some (.inl (.long x7)), none, some (.inl (.long x9)), none, some (.inl (.int x11)), some (.inl (.int x12)), none, none, none, none] [] m := by
  intro j
  induction j with
  | zero =>
    intro _ _ _ _ _ _
    exact zk_none
  | succ j ih =>
    intro x3 x5 x7 x9 x11 x12
    unfold f_X4_reachable_38
    refine zk_st R 2 42 [some (.inr (6, g0)), none, none, some (.inl (.long x3)), none, some (.inl (.long x5)), none, some (.inl (.long x7)), none, some (.inl (.long x9)), none, some (.inl (.int x11)), some (.inl (.int x12)), none, none, none, none] [.inl (.int (64 : Int32)), .inl (.int x12)] m rfl ⟨trivial, trivial, trivial⟩ ?_
    refine zk_br R rfl (fun _ => ?_) (fun _ => ?_)
    · refine zk_st R 1 119 [some (.inr (6, g0)), none, none, some (.inl (.long x3)), none, some (.inl (.long x5)), none, some (.inl (.long x7)), none, some (.inl (.long x9)), none, some (.inl (.int x11)), some (.inl (.int x12)), none, none, none, none] [.inl (.long x9)] m rfl ⟨trivial, trivial⟩ ?_
      exact zk_ret R rfl trivial rfl
    · refine zk_st R 1 47 [some (.inr (6, g0)), none, none, some (.inl (.long x3)), none, some (.inl (.long x5)), none, some (.inl (.long x7)), none, some (.inl (.long x9)), none, some (.inl (.int x11)), some (.inl (.int x12)), none, none, none, none] [.inl (.int x11)] m rfl ⟨trivial, trivial⟩ ?_
      refine zk_br R rfl (fun _ => ?_) (fun _ => ?_)
      · refine zk_st R 1 119 [some (.inr (6, g0)), none, none, some (.inl (.long x3)), none, some (.inl (.long x5)), none, some (.inl (.long x7)), none, some (.inl (.long x9)), none, some (.inl (.int x11)), some (.inl (.int x12)), none, none, none, none] [.inl (.long x9)] m rfl ⟨trivial, trivial⟩ ?_
        exact zk_ret R rfl trivial rfl
      · refine zk_st R 31 97 [some (.inr (6, g0)), none, none, some (.inl (.long x3)), none, some (.inl (.long x5)), none, some (.inl (.long x7)), none, some (.inl (.long x9)), none, some (.inl (.int x11)), some (.inl (.int x12)), some (.inl (.long ((z_ushr (x9 &&& x5) (1 : Int32)) ||| (z_shl (x9 &&& x7) (1 : Int32))))), none, some (.inl (.long ((((x9 ||| ((z_ushr (x9 &&& x5) (1 : Int32)) ||| (z_shl (x9 &&& x7) (1 : Int32)))) ||| (z_ushr x9 (m.1 6 g0 0))) ||| (z_shl x9 (m.1 6 g0 0))) &&& x3))), none] [.inl (.int (lg_cmp ((((x9 ||| ((z_ushr (x9 &&& x5) (1 : Int32)) ||| (z_shl (x9 &&& x7) (1 : Int32)))) ||| (z_ushr x9 (m.1 6 g0 0))) ||| (z_shl x9 (m.1 6 g0 0))) &&& x3) x9))] m rfl ⟨trivial, trivial, trivial, trivial, trivial, trivial, trivial, trivial, trivial, trivial, trivial, trivial, trivial, trivial, trivial, trivial, trivial, hg0, trivial, trivial, trivial, trivial, hg0, trivial, trivial, trivial, trivial, trivial, trivial, trivial, trivial, trivial⟩ ?_
        refine zk_br R rfl (fun _ => ?_) (fun _ => ?_)
        · refine zk_st R 1 105 [some (.inr (6, g0)), none, none, some (.inl (.long x3)), none, some (.inl (.long x5)), none, some (.inl (.long x7)), none, some (.inl (.long x9)), none, some (.inl (.int x11)), some (.inl (.int x12)), some (.inl (.long ((z_ushr (x9 &&& x5) (1 : Int32)) ||| (z_shl (x9 &&& x7) (1 : Int32))))), none, some (.inl (.long ((((x9 ||| ((z_ushr (x9 &&& x5) (1 : Int32)) ||| (z_shl (x9 &&& x7) (1 : Int32)))) ||| (z_ushr x9 (m.1 6 g0 0))) ||| (z_shl x9 (m.1 6 g0 0))) &&& x3))), none] [.inl (.int (0 : Int32))] m rfl ⟨trivial, trivial⟩ ?_
          refine zk_mask R [true, false, false, true, false, true, false, true, false, false, false, false, true, false, false, true, false] rfl ?_
          exact w_X4_reachable_105 d k g0 hg0 m R (f_X4_reachable_38 g0 m j) ih x3 x5 x7 x12 ((((x9 ||| ((z_ushr (x9 &&& x5) (1 : Int32)) ||| (z_shl (x9 &&& x7) (1 : Int32)))) ||| (z_ushr x9 (m.1 6 g0 0))) ||| (z_shl x9 (m.1 6 g0 0))) &&& x3) (0 : Int32)
        · refine zk_st R 2 105 [some (.inr (6, g0)), none, none, some (.inl (.long x3)), none, some (.inl (.long x5)), none, some (.inl (.long x7)), none, some (.inl (.long x9)), none, some (.inl (.int x11)), some (.inl (.int x12)), some (.inl (.long ((z_ushr (x9 &&& x5) (1 : Int32)) ||| (z_shl (x9 &&& x7) (1 : Int32))))), none, some (.inl (.long ((((x9 ||| ((z_ushr (x9 &&& x5) (1 : Int32)) ||| (z_shl (x9 &&& x7) (1 : Int32)))) ||| (z_ushr x9 (m.1 6 g0 0))) ||| (z_shl x9 (m.1 6 g0 0))) &&& x3))), none] [.inl (.int (1 : Int32))] m rfl ⟨trivial, trivial, trivial⟩ ?_
          refine zk_mask R [true, false, false, true, false, true, false, true, false, false, false, false, true, false, false, true, false] rfl ?_
          exact w_X4_reachable_105 d k g0 hg0 m R (f_X4_reachable_38 g0 m j) ih x3 x5 x7 x12 ((((x9 ||| ((z_ushr (x9 &&& x5) (1 : Int32)) ||| (z_shl (x9 &&& x7) (1 : Int32)))) ||| (z_ushr x9 (m.1 6 g0 0))) ||| (z_shl x9 (m.1 6 g0 0))) &&& x3) (1 : Int32)
theorem w_X4_reachable (d k : Nat) (g0 : Nat) (hg0 : g0 < zN 6) (x1 : Int64) (x3 : Int64) (m : zM) (a : Int64) (ha : f_X4_reachable g0 x1 x3 m = some a) : z_Ev z_MT zN zRf (d + 2) (k + 0) 30 [.inr (6, g0), .inl (.long x1), .inl (.long x3)] m ((fun a => (z_cL a, m) : Int64 → zO) a) := by
  refine zk_top (I := (yX4_reachable, cX4_reachable, 17, (some .long), [], tX4_reachable, 6, 2, 6, 0, 0, 0)) (oc := (fun a => (z_cL a, m) : Int64 → zO)) (a := a) rfl (Nat.le_of_ble_eq_true rfl) (fun G R => ?_) ha
  unfold f_X4_reachable
  refine zk_st R 2 2 [some (.inr (6, g0)), some (.inl (.long x1)), none, some (.inl (.long x3)), none, none, none, none, none, none, none, none, none, none, none, none, none] [.inl (.int (0 : Int32)), .inr (6, g0)] m rfl ⟨trivial, trivial, trivial⟩ ?_
  refine zk_call R (fun b => some (.inl (.long b))) (fun _ => m) rfl (r_X4_column hg0) (fun b hb => w_X4_column d 0 g0 hg0 (0 : Int32) m b hb) (fun r1 => ?_)
  refine zk_st R 8 18 [some (.inr (6, g0)), some (.inl (.long x1)), none, some (.inl (.long x3)), none, some (.inl (.long (r1 ^^^ (-1 : Int64)))), none, none, none, none, none, none, none, none, none, none, none] [.inl (.int ((m.1 6 g0 0) - (1 : Int32))), .inr (6, g0)] m rfl ⟨trivial, trivial, trivial, trivial, trivial, hg0, trivial, trivial, trivial⟩ ?_
  refine zk_call R (fun b => some (.inl (.long b))) (fun _ => m) rfl (r_X4_column hg0) (fun b hb => w_X4_column d 0 g0 hg0 ((m.1 6 g0 0) - (1 : Int32)) m b hb) (fun r2 => ?_)
  refine zk_st R 11 38 [some (.inr (6, g0)), some (.inl (.long x1)), none, some (.inl (.long x3)), none, some (.inl (.long (r1 ^^^ (-1 : Int64)))), none, some (.inl (.long (r2 ^^^ (-1 : Int64)))), none, some (.inl (.long (x1 &&& x3))), none, some (.inl (.int (1 : Int32))), some (.inl (.int (0 : Int32))), none, none, none, none] [] m rfl ⟨trivial, trivial, trivial, trivial, trivial, trivial, trivial, trivial, trivial, trivial, trivial, trivial⟩ ?_
  refine zk_mask R [true, false, false, true, false, true, false, true, false, true, false, true, true, false, false, false, false] rfl ?_
  exact w_X4_reachable_38 d k g0 hg0 m R zF x3 (r1 ^^^ (-1 : Int64)) (r2 ^^^ (-1 : Int64)) (x1 &&& x3) (1 : Int32) (0 : Int32)
theorem r_X4_atMost {i : Nat} {t : List zA} (h : i < zN 6) : z_rcv zN (zKD 31) (.inr (6, i) :: t) := by
  rw [show zKD 31 = 6 from rfl]
  exact ⟨rfl, h⟩
noncomputable def f_X4_atMost_11 (g0 : Nat) (m : zM) : Nat → Int32 → Int64 → Int32 → Int32 → Option (Int64)
  | 0, _, _, _, _ => none
  | j + 1, x1, x2, x4, x5 =>
    if x4 ≤ x5 then
      some x2
    else
      Option.bind (f_X7_at 20 (3 * g0) x5 m) fun r2 =>
      if x1 < r2 then
        f_X4_atMost_11 g0 m j x1 x2 x4 (x5 + (1 : Int32))
      else
        f_X4_atMost_11 g0 m j x1 (x2 ||| (z_shl (1 : Int64) x5)) x4 (x5 + (1 : Int32))
noncomputable def f_X4_atMost (g0 : Nat) (x1 : Int32) (m : zM) : Option (Int64) :=
  Option.bind (f_X4_size g0 m) fun r1 =>
  f_X4_atMost_11 g0 m zF x1 (0 : Int64) r1 (0 : Int32)
theorem w_X4_atMost_11 (d k : Nat) {o : zO} {G : Nat → Nat → zL → List zA → zM → Prop} (g0 : Nat) (hg0 : g0 < zN 6) (m : zM) (R : zRu (d + 1) tX4_atMost 0 (z_hf []) o G) : ∀ (j : Nat) (x1 : Int32) (x2 : Int64) (x4 : Int32) (x5 : Int32), zLK G (fun a => (z_cL a, m) : Int64 → zO) o (f_X4_atMost_11 g0 m j x1 x2 x4 x5) some (k + 0) 11 [some (.inr (6, g0)), some (.inl (.int x1)), some (.inl (.long x2)), none, some (.inl (.int x4)), some (.inl (.int x5))] [] m := by
  intro j
  induction j with
  | zero =>
    intro _ _ _ _
    exact zk_none
  | succ j ih =>
    intro x1 x2 x4 x5
    unfold f_X4_atMost_11
    refine zk_st R 2 15 [some (.inr (6, g0)), some (.inl (.int x1)), some (.inl (.long x2)), none, some (.inl (.int x4)), some (.inl (.int x5))] [.inl (.int x4), .inl (.int x5)] m rfl ⟨trivial, trivial, trivial⟩ ?_
    refine zk_br R rfl (fun _ => ?_) (fun _ => ?_)
    · refine zk_st R 1 45 [some (.inr (6, g0)), some (.inl (.int x1)), some (.inl (.long x2)), none, some (.inl (.int x4)), some (.inl (.int x5))] [.inl (.long x2)] m rfl ⟨trivial, trivial⟩ ?_
      exact zk_ret R rfl trivial rfl
    · refine zk_st R 3 24 [some (.inr (6, g0)), some (.inl (.int x1)), some (.inl (.long x2)), none, some (.inl (.int x4)), some (.inl (.int x5))] [.inl (.int x5), .inr (20, 3 * g0)] m rfl ⟨trivial, hg0, trivial, trivial⟩ ?_
      refine zk_call R (fun b => some (.inl (.int b))) (fun _ => m) rfl (r_X7_at) (fun b hb => w_X7_at_k20 d 0 (3 * g0) (z_g0 hg0) x5 m b hb) (fun r2 => ?_)
      refine zk_st R 1 28 [some (.inr (6, g0)), some (.inl (.int x1)), some (.inl (.long x2)), none, some (.inl (.int x4)), some (.inl (.int x5))] [.inl (.int x1), .inl (.int r2)] m rfl ⟨trivial, trivial⟩ ?_
      refine zk_br R rfl (fun _ => ?_) (fun _ => ?_)
      · refine zk_st R 2 11 [some (.inr (6, g0)), some (.inl (.int x1)), some (.inl (.long x2)), none, some (.inl (.int x4)), some (.inl (.int (x5 + (1 : Int32))))] [] m rfl ⟨trivial, trivial, trivial⟩ ?_
        refine zk_mask R [true, true, true, false, true, true] rfl ?_
        exact ih x1 x2 x4 (x5 + (1 : Int32))
      · refine zk_st R 8 11 [some (.inr (6, g0)), some (.inl (.int x1)), some (.inl (.long (x2 ||| (z_shl (1 : Int64) x5)))), none, some (.inl (.int x4)), some (.inl (.int (x5 + (1 : Int32))))] [] m rfl ⟨trivial, trivial, trivial, trivial, trivial, trivial, trivial, trivial, trivial⟩ ?_
        refine zk_mask R [true, true, true, false, true, true] rfl ?_
        exact ih x1 (x2 ||| (z_shl (1 : Int64) x5)) x4 (x5 + (1 : Int32))
theorem w_X4_atMost (d k : Nat) (g0 : Nat) (hg0 : g0 < zN 6) (x1 : Int32) (m : zM) (a : Int64) (ha : f_X4_atMost g0 x1 m = some a) : z_Ev z_MT zN zRf (d + 2) (k + 0) 31 [.inr (6, g0), .inl (.int x1)] m ((fun a => (z_cL a, m) : Int64 → zO) a) := by
  refine zk_top (I := (yX4_atMost, cX4_atMost, 6, (some .long), [], tX4_atMost, 6, 1, 6, 0, 0, 0)) (oc := (fun a => (z_cL a, m) : Int64 → zO)) (a := a) rfl (Nat.le_of_ble_eq_true rfl) (fun G R => ?_) ha
  unfold f_X4_atMost
  refine zk_st R 3 3 [some (.inr (6, g0)), some (.inl (.int x1)), some (.inl (.long (0 : Int64))), none, none, none] [.inr (6, g0)] m rfl ⟨trivial, trivial, trivial, trivial⟩ ?_
  refine zk_call R (fun b => some (.inl (.int b))) (fun _ => m) rfl (r_X4_size hg0) (fun b hb => w_X4_size d 0 g0 hg0 m b hb) (fun r1 => ?_)
  refine zk_st R 3 11 [some (.inr (6, g0)), some (.inl (.int x1)), some (.inl (.long (0 : Int64))), none, some (.inl (.int r1)), some (.inl (.int (0 : Int32)))] [] m rfl ⟨trivial, trivial, trivial, trivial⟩ ?_
  refine zk_mask R [true, true, true, false, true, true] rfl ?_
  exact w_X4_atMost_11 d k g0 hg0 m R zF x1 (0 : Int64) r1 (0 : Int32)
theorem r_X4_hasHeight {i : Nat} {t : List zA} (h : i < zN 6) : z_rcv zN (zKD 32) (.inr (6, i) :: t) := by
  rw [show zKD 32 = 6 from rfl]
  exact ⟨rfl, h⟩
noncomputable def f_X4_hasHeight_7 (g0 : Nat) (m : zM) : Nat → Int32 → Int32 → Int32 → Option (Bool)
  | 0, _, _, _ => none
  | j + 1, x1, x2, x3 =>
    if x2 ≤ x3 then
      some false
    else
      Option.bind (f_X7_at 20 (3 * g0) x3 m) fun r2 =>
      if r2 = x1 then
        some true
      else
        f_X4_hasHeight_7 g0 m j x1 x2 (x3 + (1 : Int32))
noncomputable def f_X4_hasHeight (g0 : Nat) (x1 : Int32) (m : zM) : Option (Bool) :=
  Option.bind (f_X4_size g0 m) fun r1 =>
  f_X4_hasHeight_7 g0 m zF x1 r1 (0 : Int32)
theorem w_X4_hasHeight_7 (d k : Nat) {o : zO} {G : Nat → Nat → zL → List zA → zM → Prop} (g0 : Nat) (hg0 : g0 < zN 6) (m : zM) (R : zRu (d + 1) tX4_hasHeight 1 (z_hf []) o G) : ∀ (j : Nat) (x1 : Int32) (x2 : Int32) (x3 : Int32), zLK G (fun a => (z_cB a, m) : Bool → zO) o (f_X4_hasHeight_7 g0 m j x1 x2 x3) some (k + 0) 7 [some (.inr (6, g0)), some (.inl (.int x1)), some (.inl (.int x2)), some (.inl (.int x3))] [] m := by
  intro j
  induction j with
  | zero =>
    intro _ _ _
    exact zk_none
  | succ j ih =>
    intro x1 x2 x3
    unfold f_X4_hasHeight_7
    refine zk_st R 2 9 [some (.inr (6, g0)), some (.inl (.int x1)), some (.inl (.int x2)), some (.inl (.int x3))] [.inl (.int x2), .inl (.int x3)] m rfl ⟨trivial, trivial, trivial⟩ ?_
    refine zk_br R rfl (fun _ => ?_) (fun _ => ?_)
    · refine zk_st R 1 33 [some (.inr (6, g0)), some (.inl (.int x1)), some (.inl (.int x2)), some (.inl (.int x3))] [.inl (.int (0 : Int32))] m rfl ⟨trivial, trivial⟩ ?_
      exact zk_ret R rfl (Or.inl rfl) rfl
    · refine zk_st R 3 17 [some (.inr (6, g0)), some (.inl (.int x1)), some (.inl (.int x2)), some (.inl (.int x3))] [.inl (.int x3), .inr (20, 3 * g0)] m rfl ⟨trivial, hg0, trivial, trivial⟩ ?_
      refine zk_call R (fun b => some (.inl (.int b))) (fun _ => m) rfl (r_X7_at) (fun b hb => w_X7_at_k20 d 0 (3 * g0) (z_g0 hg0) x3 m b hb) (fun r2 => ?_)
      refine zk_st R 1 21 [some (.inr (6, g0)), some (.inl (.int x1)), some (.inl (.int x2)), some (.inl (.int x3))] [.inl (.int x1), .inl (.int r2)] m rfl ⟨trivial, trivial⟩ ?_
      refine zk_br R rfl (fun _ => ?_) (fun _ => ?_)
      · refine zk_st R 1 25 [some (.inr (6, g0)), some (.inl (.int x1)), some (.inl (.int x2)), some (.inl (.int x3))] [.inl (.int (1 : Int32))] m rfl ⟨trivial, trivial⟩ ?_
        exact zk_ret R rfl (Or.inr rfl) rfl
      · refine zk_st R 2 7 [some (.inr (6, g0)), some (.inl (.int x1)), some (.inl (.int x2)), some (.inl (.int (x3 + (1 : Int32))))] [] m rfl ⟨trivial, trivial, trivial⟩ ?_
        refine zk_mask R [true, true, true, true] rfl ?_
        exact ih x1 x2 (x3 + (1 : Int32))
theorem w_X4_hasHeight (d k : Nat) (g0 : Nat) (hg0 : g0 < zN 6) (x1 : Int32) (m : zM) (a : Bool) (ha : f_X4_hasHeight g0 x1 m = some a) : z_Ev z_MT zN zRf (d + 2) (k + 0) 32 [.inr (6, g0), .inl (.int x1)] m ((fun a => (z_cB a, m) : Bool → zO) a) := by
  refine zk_top (I := (yX4_hasHeight, cX4_hasHeight, 4, (some .boolean), [], tX4_hasHeight, 6, 1, 6, 0, 0, 0)) (oc := (fun a => (z_cB a, m) : Bool → zO)) (a := a) rfl (Nat.le_of_ble_eq_true rfl) (fun G R => ?_) ha
  unfold f_X4_hasHeight
  refine zk_st R 1 1 [some (.inr (6, g0)), some (.inl (.int x1)), none, none] [.inr (6, g0)] m rfl ⟨trivial, trivial⟩ ?_
  refine zk_call R (fun b => some (.inl (.int b))) (fun _ => m) rfl (r_X4_size hg0) (fun b hb => w_X4_size d 0 g0 hg0 m b hb) (fun r1 => ?_)
  refine zk_st R 3 7 [some (.inr (6, g0)), some (.inl (.int x1)), some (.inl (.int r1)), some (.inl (.int (0 : Int32)))] [] m rfl ⟨trivial, trivial, trivial, trivial⟩ ?_
  refine zk_mask R [true, true, true, true] rfl ?_
  exact w_X4_hasHeight_7 d k g0 hg0 m R zF x1 r1 (0 : Int32)
theorem r_X4_raiseRectangle {i : Nat} {t : List zA} (h : i < zN 6) : z_rcv zN (zKD 35) (.inr (6, i) :: t) := by
  rw [show zKD 35 = 6 from rfl]
  exact ⟨rfl, h⟩
noncomputable def f_X4_raiseRectangle_78 (g0 : Nat) (c67 : Int32 → Int32 → Int32 → Int32 → Int32 → Int32 → zM → Option (Int32 × zM)) : Nat → Int32 → Int32 → Int32 → Int32 → Int32 → Int32 → Int32 → zM → Option (Int32 × zM)
  | 0, _, _, _, _, _, _, _, _ => none
  | j + 1, x3, x4, x5, x7, x8, x9, x10, m =>
    if x5 < x10 then
      c67 x3 x4 x5 x7 x8 (x9 + (1 : Int32)) m
    else
      Option.bind (f_X7_at 20 (3 * g0) ((x9 * (m.1 6 g0 0)) + x10) m) fun r2 =>
      Option.bind (f_J9_min_7cf53 (99 : Int32) (r2 + x3) m) fun r3 =>
      Option.bind (f_J9_max_7cf53 (0 : Int32) r3 m) fun r4 =>
      Option.bind (f_X7_put 20 (3 * g0) ((x9 * (m.1 6 g0 0)) + x10) r4 m) fun r5 =>
      if r4 = r2 then
        f_X4_raiseRectangle_78 g0 c67 j x3 x4 x5 x7 x8 x9 (x10 + (1 : Int32)) r5
      else
        f_X4_raiseRectangle_78 g0 c67 j x3 x4 x5 x7 (x8 + (1 : Int32)) x9 (x10 + (1 : Int32)) r5
noncomputable def f_X4_raiseRectangle_67 (g0 : Nat) : Nat → Int32 → Int32 → Int32 → Int32 → Int32 → Int32 → zM → Option (Int32 × zM)
  | 0, _, _, _, _, _, _, _ => none
  | j + 1, x3, x4, x5, x7, x8, x9, m =>
    if x7 < x9 then
      some (x8, m)
    else
      f_X4_raiseRectangle_78 g0 (f_X4_raiseRectangle_67 g0 j) zF x3 x4 x5 x7 x8 x9 x4 m
noncomputable def f_X4_raiseRectangle (g0 : Nat) (x1 : Int32) (x2 : Int32) (x3 : Int32) (m : zM) : Option (Int32 × zM) :=
  Option.bind (f_X4_columnOf g0 x1 m) fun r1 =>
  Option.bind (f_X4_columnOf g0 x2 m) fun r2 =>
  Option.bind (f_J9_min_7cf53 r1 r2 m) fun r3 =>
  Option.bind (f_X4_columnOf g0 x1 m) fun r4 =>
  Option.bind (f_X4_columnOf g0 x2 m) fun r5 =>
  Option.bind (f_J9_max_7cf53 r4 r5 m) fun r6 =>
  Option.bind (f_X4_rowOf g0 x1 m) fun r7 =>
  Option.bind (f_X4_rowOf g0 x2 m) fun r8 =>
  Option.bind (f_J9_min_7cf53 r7 r8 m) fun r9 =>
  Option.bind (f_X4_rowOf g0 x1 m) fun r10 =>
  Option.bind (f_X4_rowOf g0 x2 m) fun r11 =>
  Option.bind (f_J9_max_7cf53 r10 r11 m) fun r12 =>
  f_X4_raiseRectangle_67 g0 zF x3 r3 r6 r12 (0 : Int32) r9 m
theorem w_X4_raiseRectangle_78 (d k : Nat) {o : zO} {G : Nat → Nat → zL → List zA → zM → Prop} (g0 : Nat) (hg0 : g0 < zN 6) (R : zRu (d + 1) tX4_raiseRectangle 0 (z_hf []) o G) (c67 : Int32 → Int32 → Int32 → Int32 → Int32 → Int32 → zM → Option (Int32 × zM)) (hc67 : ∀ (x3 : Int32) (x4 : Int32) (x5 : Int32) (x7 : Int32) (x8 : Int32) (x9 : Int32) (m : zM), zLK G (fun a => (z_cI a.1, a.2) : Int32 × zM → zO) o (c67 x3 x4 x5 x7 x8 x9 m) some (k + 0) 67 [some (.inr (6, g0)), none, none, some (.inl (.int x3)), some (.inl (.int x4)), some (.inl (.int x5)), none, some (.inl (.int x7)), some (.inl (.int x8)), some (.inl (.int x9)), none, none, none, none] [] m) : ∀ (j : Nat) (x3 : Int32) (x4 : Int32) (x5 : Int32) (x7 : Int32) (x8 : Int32) (x9 : Int32) (x10 : Int32) (m : zM), zLK G (fun a => (z_cI a.1, a.2) : Int32 × zM → zO) o (f_X4_raiseRectangle_78 g0 c67 j x3 x4 x5 x7 x8 x9 x10 m) some (k + 0) 78 [some (.inr (6, g0)), none, none, some (.inl (.int x3)), some (.inl (.int x4)), some (.inl (.int x5)), none, some (.inl (.int x7)), some (.inl (.int x8)), some (.inl (.int x9)), some (.inl (.int x10)), none, none, none] [] m := by
  intro j
  induction j with
  | zero =>
    intro _ _ _ _ _ _ _ _
    exact zk_none
  | succ j ih =>
    intro x3 x4 x5 x7 x8 x9 x10 m
    unfold f_X4_raiseRectangle_78
    refine zk_st R 2 82 [some (.inr (6, g0)), none, none, some (.inl (.int x3)), some (.inl (.int x4)), some (.inl (.int x5)), none, some (.inl (.int x7)), some (.inl (.int x8)), some (.inl (.int x9)), some (.inl (.int x10)), none, none, none] [.inl (.int x5), .inl (.int x10)] m rfl ⟨trivial, trivial, trivial⟩ ?_
    refine zk_br R rfl (fun _ => ?_) (fun _ => ?_)
    · refine zk_st R 2 67 [some (.inr (6, g0)), none, none, some (.inl (.int x3)), some (.inl (.int x4)), some (.inl (.int x5)), none, some (.inl (.int x7)), some (.inl (.int x8)), some (.inl (.int (x9 + (1 : Int32)))), some (.inl (.int x10)), none, none, none] [] m rfl ⟨trivial, trivial, trivial⟩ ?_
      refine zk_mask R [true, false, false, true, true, true, false, true, true, true, false, false, false, false] rfl ?_
      exact hc67 x3 x4 x5 x7 x8 (x9 + (1 : Int32)) m
    · refine zk_st R 10 103 [some (.inr (6, g0)), none, none, some (.inl (.int x3)), some (.inl (.int x4)), some (.inl (.int x5)), none, some (.inl (.int x7)), some (.inl (.int x8)), some (.inl (.int x9)), some (.inl (.int x10)), some (.inl (.int ((x9 * (m.1 6 g0 0)) + x10))), none, none] [.inl (.int ((x9 * (m.1 6 g0 0)) + x10)), .inr (20, 3 * g0)] m rfl ⟨trivial, trivial, hg0, trivial, trivial, trivial, trivial, trivial, hg0, trivial, trivial⟩ ?_
      refine zk_call R (fun b => some (.inl (.int b))) (fun _ => m) rfl (r_X7_at) (fun b hb => w_X7_at_k20 d 0 (3 * g0) (z_g0 hg0) ((x9 * (m.1 6 g0 0)) + x10) m b hb) (fun r2 => ?_)
      refine zk_st R 6 115 [some (.inr (6, g0)), none, none, some (.inl (.int x3)), some (.inl (.int x4)), some (.inl (.int x5)), none, some (.inl (.int x7)), some (.inl (.int x8)), some (.inl (.int x9)), some (.inl (.int x10)), some (.inl (.int ((x9 * (m.1 6 g0 0)) + x10))), some (.inl (.int r2)), none] [.inl (.int (r2 + x3)), .inl (.int (99 : Int32)), .inl (.int (0 : Int32))] m rfl ⟨trivial, trivial, trivial, trivial, trivial, trivial, trivial⟩ ?_
      refine zk_call R (fun b => some (.inl (.int b))) (fun _ => m) rfl (r_J9_min_7cf53) (fun b hb => w_J9_min_7cf53 d 0 (99 : Int32) (r2 + x3) m b hb) (fun r3 => ?_)
      refine zk_call R (fun b => some (.inl (.int b))) (fun _ => m) rfl (r_J9_max_7cf53) (fun b hb => w_J9_max_7cf53 d 0 (0 : Int32) r3 m b hb) (fun r4 => ?_)
      refine zk_st R 5 131 [some (.inr (6, g0)), none, none, some (.inl (.int x3)), some (.inl (.int x4)), some (.inl (.int x5)), none, some (.inl (.int x7)), some (.inl (.int x8)), some (.inl (.int x9)), some (.inl (.int x10)), some (.inl (.int ((x9 * (m.1 6 g0 0)) + x10))), some (.inl (.int r2)), some (.inl (.int r4))] [.inl (.int r4), .inl (.int ((x9 * (m.1 6 g0 0)) + x10)), .inr (20, 3 * g0)] m rfl ⟨trivial, trivial, hg0, trivial, trivial, trivial⟩ ?_
      refine zk_call R (fun _ => none) id rfl (r_X7_put) (fun b hb => w_X7_put_k20 d 0 (3 * g0) (z_g0 hg0) ((x9 * (m.1 6 g0 0)) + x10) r4 m b hb) (fun r5 => ?_)
      refine zk_st R 2 138 [some (.inr (6, g0)), none, none, some (.inl (.int x3)), some (.inl (.int x4)), some (.inl (.int x5)), none, some (.inl (.int x7)), some (.inl (.int x8)), some (.inl (.int x9)), some (.inl (.int x10)), some (.inl (.int ((x9 * (m.1 6 g0 0)) + x10))), some (.inl (.int r2)), some (.inl (.int r4))] [.inl (.int r2), .inl (.int r4)] r5 rfl ⟨trivial, trivial, trivial⟩ ?_
      refine zk_br R rfl (fun _ => ?_) (fun _ => ?_)
      · refine zk_st R 2 78 [some (.inr (6, g0)), none, none, some (.inl (.int x3)), some (.inl (.int x4)), some (.inl (.int x5)), none, some (.inl (.int x7)), some (.inl (.int x8)), some (.inl (.int x9)), some (.inl (.int (x10 + (1 : Int32)))), some (.inl (.int ((x9 * (m.1 6 g0 0)) + x10))), some (.inl (.int r2)), some (.inl (.int r4))] [] r5 rfl ⟨trivial, trivial, trivial⟩ ?_
        refine zk_mask R [true, false, false, true, true, true, false, true, true, true, true, false, false, false] rfl ?_
        exact ih x3 x4 x5 x7 x8 x9 (x10 + (1 : Int32)) r5
      · refine zk_st R 3 78 [some (.inr (6, g0)), none, none, some (.inl (.int x3)), some (.inl (.int x4)), some (.inl (.int x5)), none, some (.inl (.int x7)), some (.inl (.int (x8 + (1 : Int32)))), some (.inl (.int x9)), some (.inl (.int (x10 + (1 : Int32)))), some (.inl (.int ((x9 * (m.1 6 g0 0)) + x10))), some (.inl (.int r2)), some (.inl (.int r4))] [] r5 rfl ⟨trivial, trivial, trivial, trivial⟩ ?_
        refine zk_mask R [true, false, false, true, true, true, false, true, true, true, true, false, false, false] rfl ?_
        exact ih x3 x4 x5 x7 (x8 + (1 : Int32)) x9 (x10 + (1 : Int32)) r5
theorem w_X4_raiseRectangle_67 (d k : Nat) {o : zO} {G : Nat → Nat → zL → List zA → zM → Prop} (g0 : Nat) (hg0 : g0 < zN 6) (R : zRu (d + 1) tX4_raiseRectangle 0 (z_hf []) o G) : ∀ (j : Nat) (x3 : Int32) (x4 : Int32) (x5 : Int32) (x7 : Int32) (x8 : Int32) (x9 : Int32) (m : zM), zLK G (fun a => (z_cI a.1, a.2) : Int32 × zM → zO) o (f_X4_raiseRectangle_67 g0 j x3 x4 x5 x7 x8 x9 m) some (k + 0) 67 [some (.inr (6, g0)), none, none, some (.inl (.int x3)), some (.inl (.int x4)), some (.inl (.int x5)), none, some (.inl (.int x7)), some (.inl (.int x8)), some (.inl (.int x9)), none, none, none, none] [] m := by
  intro j
  induction j with
  | zero =>
    intro _ _ _ _ _ _ _
    exact zk_none
  | succ j ih =>
    intro x3 x4 x5 x7 x8 x9 m
    unfold f_X4_raiseRectangle_67
    refine zk_st R 2 71 [some (.inr (6, g0)), none, none, some (.inl (.int x3)), some (.inl (.int x4)), some (.inl (.int x5)), none, some (.inl (.int x7)), some (.inl (.int x8)), some (.inl (.int x9)), none, none, none, none] [.inl (.int x7), .inl (.int x9)] m rfl ⟨trivial, trivial, trivial⟩ ?_
    refine zk_br R rfl (fun _ => ?_) (fun _ => ?_)
    · refine zk_st R 1 158 [some (.inr (6, g0)), none, none, some (.inl (.int x3)), some (.inl (.int x4)), some (.inl (.int x5)), none, some (.inl (.int x7)), some (.inl (.int x8)), some (.inl (.int x9)), none, none, none, none] [.inl (.int x8)] m rfl ⟨trivial, trivial⟩ ?_
      exact zk_ret R rfl trivial rfl
    · refine zk_st R 2 78 [some (.inr (6, g0)), none, none, some (.inl (.int x3)), some (.inl (.int x4)), some (.inl (.int x5)), none, some (.inl (.int x7)), some (.inl (.int x8)), some (.inl (.int x9)), some (.inl (.int x4)), none, none, none] [] m rfl ⟨trivial, trivial, trivial⟩ ?_
      refine zk_mask R [true, false, false, true, true, true, false, true, true, true, true, false, false, false] rfl ?_
      exact w_X4_raiseRectangle_78 d k g0 hg0 R (f_X4_raiseRectangle_67 g0 j) ih zF x3 x4 x5 x7 x8 x9 x4 m
theorem w_X4_raiseRectangle (d k : Nat) (g0 : Nat) (hg0 : g0 < zN 6) (x1 : Int32) (x2 : Int32) (x3 : Int32) (m : zM) (a : Int32 × zM) (ha : f_X4_raiseRectangle g0 x1 x2 x3 m = some a) : z_Ev z_MT zN zRf (d + 2) (k + 0) 35 [.inr (6, g0), .inl (.int x1), .inl (.int x2), .inl (.int x3)] m ((fun a => (z_cI a.1, a.2) : Int32 × zM → zO) a) := by
  refine zk_top (I := (yX4_raiseRectangle, cX4_raiseRectangle, 14, (some .int), [], tX4_raiseRectangle, 6, 3, 6, 0, 0, 0)) (oc := (fun a => (z_cI a.1, a.2) : Int32 × zM → zO)) (a := a) rfl (Nat.le_of_ble_eq_true rfl) (fun G R => ?_) ha
  unfold f_X4_raiseRectangle
  refine zk_st R 2 2 [some (.inr (6, g0)), some (.inl (.int x1)), some (.inl (.int x2)), some (.inl (.int x3)), none, none, none, none, none, none, none, none, none, none] [.inl (.int x1), .inr (6, g0)] m rfl ⟨trivial, trivial, trivial⟩ ?_
  refine zk_call R (fun b => some (.inl (.int b))) (fun _ => m) rfl (r_X4_columnOf hg0) (fun b hb => w_X4_columnOf d 0 g0 hg0 x1 m b hb) (fun r1 => ?_)
  refine zk_st R 2 7 [some (.inr (6, g0)), some (.inl (.int x1)), some (.inl (.int x2)), some (.inl (.int x3)), none, none, none, none, none, none, none, none, none, none] [.inl (.int x2), .inr (6, g0), .inl (.int r1)] m rfl ⟨trivial, trivial, trivial⟩ ?_
  refine zk_call R (fun b => some (.inl (.int b))) (fun _ => m) rfl (r_X4_columnOf hg0) (fun b hb => w_X4_columnOf d 0 g0 hg0 x2 m b hb) (fun r2 => ?_)
  refine zk_call R (fun b => some (.inl (.int b))) (fun _ => m) rfl (r_J9_min_7cf53) (fun b hb => w_J9_min_7cf53 d 0 r1 r2 m b hb) (fun r3 => ?_)
  refine zk_st R 3 17 [some (.inr (6, g0)), some (.inl (.int x1)), some (.inl (.int x2)), some (.inl (.int x3)), some (.inl (.int r3)), none, none, none, none, none, none, none, none, none] [.inl (.int x1), .inr (6, g0)] m rfl ⟨trivial, trivial, trivial, trivial⟩ ?_
  refine zk_call R (fun b => some (.inl (.int b))) (fun _ => m) rfl (r_X4_columnOf hg0) (fun b hb => w_X4_columnOf d 0 g0 hg0 x1 m b hb) (fun r4 => ?_)
  refine zk_st R 2 22 [some (.inr (6, g0)), some (.inl (.int x1)), some (.inl (.int x2)), some (.inl (.int x3)), some (.inl (.int r3)), none, none, none, none, none, none, none, none, none] [.inl (.int x2), .inr (6, g0), .inl (.int r4)] m rfl ⟨trivial, trivial, trivial⟩ ?_
  refine zk_call R (fun b => some (.inl (.int b))) (fun _ => m) rfl (r_X4_columnOf hg0) (fun b hb => w_X4_columnOf d 0 g0 hg0 x2 m b hb) (fun r5 => ?_)
  refine zk_call R (fun b => some (.inl (.int b))) (fun _ => m) rfl (r_J9_max_7cf53) (fun b hb => w_J9_max_7cf53 d 0 r4 r5 m b hb) (fun r6 => ?_)
  refine zk_st R 3 32 [some (.inr (6, g0)), some (.inl (.int x1)), some (.inl (.int x2)), some (.inl (.int x3)), some (.inl (.int r3)), some (.inl (.int r6)), none, none, none, none, none, none, none, none] [.inl (.int x1), .inr (6, g0)] m rfl ⟨trivial, trivial, trivial, trivial⟩ ?_
  refine zk_call R (fun b => some (.inl (.int b))) (fun _ => m) rfl (r_X4_rowOf hg0) (fun b hb => w_X4_rowOf d 0 g0 hg0 x1 m b hb) (fun r7 => ?_)
  refine zk_st R 2 37 [some (.inr (6, g0)), some (.inl (.int x1)), some (.inl (.int x2)), some (.inl (.int x3)), some (.inl (.int r3)), some (.inl (.int r6)), none, none, none, none, none, none, none, none] [.inl (.int x2), .inr (6, g0), .inl (.int r7)] m rfl ⟨trivial, trivial, trivial⟩ ?_
  refine zk_call R (fun b => some (.inl (.int b))) (fun _ => m) rfl (r_X4_rowOf hg0) (fun b hb => w_X4_rowOf d 0 g0 hg0 x2 m b hb) (fun r8 => ?_)
  refine zk_call R (fun b => some (.inl (.int b))) (fun _ => m) rfl (r_J9_min_7cf53) (fun b hb => w_J9_min_7cf53 d 0 r7 r8 m b hb) (fun r9 => ?_)
  refine zk_st R 3 47 [some (.inr (6, g0)), some (.inl (.int x1)), some (.inl (.int x2)), some (.inl (.int x3)), some (.inl (.int r3)), some (.inl (.int r6)), some (.inl (.int r9)), none, none, none, none, none, none, none] [.inl (.int x1), .inr (6, g0)] m rfl ⟨trivial, trivial, trivial, trivial⟩ ?_
  refine zk_call R (fun b => some (.inl (.int b))) (fun _ => m) rfl (r_X4_rowOf hg0) (fun b hb => w_X4_rowOf d 0 g0 hg0 x1 m b hb) (fun r10 => ?_)
  refine zk_st R 2 52 [some (.inr (6, g0)), some (.inl (.int x1)), some (.inl (.int x2)), some (.inl (.int x3)), some (.inl (.int r3)), some (.inl (.int r6)), some (.inl (.int r9)), none, none, none, none, none, none, none] [.inl (.int x2), .inr (6, g0), .inl (.int r10)] m rfl ⟨trivial, trivial, trivial⟩ ?_
  refine zk_call R (fun b => some (.inl (.int b))) (fun _ => m) rfl (r_X4_rowOf hg0) (fun b hb => w_X4_rowOf d 0 g0 hg0 x2 m b hb) (fun r11 => ?_)
  refine zk_call R (fun b => some (.inl (.int b))) (fun _ => m) rfl (r_J9_max_7cf53) (fun b hb => w_J9_max_7cf53 d 0 r10 r11 m b hb) (fun r12 => ?_)
  refine zk_st R 5 67 [some (.inr (6, g0)), some (.inl (.int x1)), some (.inl (.int x2)), some (.inl (.int x3)), some (.inl (.int r3)), some (.inl (.int r6)), some (.inl (.int r9)), some (.inl (.int r12)), some (.inl (.int (0 : Int32))), some (.inl (.int r9)), none, none, none, none] [] m rfl ⟨trivial, trivial, trivial, trivial, trivial, trivial⟩ ?_
  refine zk_mask R [true, false, false, true, true, true, false, true, true, true, false, false, false, false] rfl ?_
  exact w_X4_raiseRectangle_67 d k g0 hg0 R zF x3 r3 r6 r12 (0 : Int32) r9 m
theorem r_X0_stepValue {i : Nat} {t : List zA} (h : i < zN 2) : z_rcv zN (zKD 42) (.inr (2, i) :: t) := by
  rw [show zKD 42 = 2 from rfl]
  exact ⟨rfl, h⟩
noncomputable def f_X0_stepValue (g1 : Nat) (x2 : Int32) (x3 : Int32) (m : zM) : Option (Int32) :=
  if x2 = (-1 : Int32) then
    some (1000000000 : Int32)
  else
    Option.bind (f_X7_at 20 (3 * g1) x2 m) fun r2 =>
    if 0 ≤ (r2 - x3) then
      Option.bind (f_X7_at 20 57 x2 m) fun r4 =>
      some ((r4 + ((r2 - x3) * (1000 : Int32))) + (1 : Int32))
    else
      Option.bind (f_X7_at 20 56 x2 m) fun r5 =>
      some (r5 + (1 : Int32))
theorem w_X0_stepValue (d k : Nat) (g1 : Nat) (hg1 : g1 < zN 6) (x2 : Int32) (x3 : Int32) (m : zM) (a : Int32) (ha : f_X0_stepValue g1 x2 x3 m = some a) : z_Ev z_MT zN zRf (d + 2) (k + 0) 42 [.inr (2, 0), .inr (6, g1), .inl (.int x2), .inl (.int x3)] m ((fun a => (z_cI a, m) : Int32 → zO) a) := by
  refine zk_top (I := (yX0_stepValue, cX0_stepValue, 5, (some .int), [], tX0_stepValue, 2, 3, 2, 0, 0, 0)) (oc := (fun a => (z_cI a, m) : Int32 → zO)) (a := a) rfl (Nat.le_of_ble_eq_true rfl) (fun G R => ?_) ha
  unfold f_X0_stepValue
  refine zk_st R 2 2 [some (.inr (2, 0)), some (.inr (6, g1)), some (.inl (.int x2)), some (.inl (.int x3)), none] [.inl (.int (-1 : Int32)), .inl (.int x2)] m rfl ⟨trivial, trivial, trivial⟩ ?_
  refine zk_br R rfl (fun _ => ?_) (fun _ => ?_)
  · refine zk_st R 1 7 [some (.inr (2, 0)), some (.inr (6, g1)), some (.inl (.int x2)), some (.inl (.int x3)), none] [.inl (.int (1000000000 : Int32))] m rfl ⟨trivial, trivial⟩ ?_
    exact zk_ret R rfl trivial rfl
  · refine zk_st R 3 13 [some (.inr (2, 0)), some (.inr (6, g1)), some (.inl (.int x2)), some (.inl (.int x3)), none] [.inl (.int x2), .inr (20, 3 * g1)] m rfl ⟨trivial, hg1, trivial, trivial⟩ ?_
    refine zk_call R (fun b => some (.inl (.int b))) (fun _ => m) rfl (r_X7_at) (fun b hb => w_X7_at_k20 d 0 (3 * g1) (z_g0 hg1) x2 m b hb) (fun r2 => ?_)
    refine zk_st R 4 22 [some (.inr (2, 0)), some (.inr (6, g1)), some (.inl (.int x2)), some (.inl (.int x3)), some (.inl (.int (r2 - x3)))] [.inl (.int (r2 - x3))] m rfl ⟨trivial, trivial, trivial, trivial, trivial⟩ ?_
    refine zk_br R rfl (fun _ => ?_) (fun _ => ?_)
    · refine zk_st R 3 43 [some (.inr (2, 0)), some (.inr (6, g1)), some (.inl (.int x2)), some (.inl (.int x3)), some (.inl (.int (r2 - x3)))] [.inl (.int x2), .inr (20, 57)] m rfl ⟨trivial, (Nat.le_of_ble_eq_true rfl), trivial, trivial⟩ ?_
      refine zk_call R (fun b => some (.inl (.int b))) (fun _ => m) rfl (r_X7_at) (fun b hb => w_X7_at_k20 d 0 57 (Nat.le_of_ble_eq_true rfl) x2 m b hb) (fun r4 => ?_)
      refine zk_st R 6 55 [some (.inr (2, 0)), some (.inr (6, g1)), some (.inl (.int x2)), some (.inl (.int x3)), some (.inl (.int (r2 - x3)))] [.inl (.int ((r4 + ((r2 - x3) * (1000 : Int32))) + (1 : Int32)))] m rfl ⟨trivial, trivial, trivial, trivial, trivial, trivial, trivial⟩ ?_
      exact zk_ret R rfl trivial rfl
    · refine zk_st R 3 30 [some (.inr (2, 0)), some (.inr (6, g1)), some (.inl (.int x2)), some (.inl (.int x3)), some (.inl (.int (r2 - x3)))] [.inl (.int x2), .inr (20, 56)] m rfl ⟨trivial, (Nat.le_of_ble_eq_true rfl), trivial, trivial⟩ ?_
      refine zk_call R (fun b => some (.inl (.int b))) (fun _ => m) rfl (r_X7_at) (fun b hb => w_X7_at_k20 d 0 56 (Nat.le_of_ble_eq_true rfl) x2 m b hb) (fun r5 => ?_)
      refine zk_st R 3 55 [some (.inr (2, 0)), some (.inr (6, g1)), some (.inl (.int x2)), some (.inl (.int x3)), some (.inl (.int (r2 - x3)))] [.inl (.int (r5 + (1 : Int32)))] m rfl ⟨trivial, trivial, trivial, trivial⟩ ?_
      exact zk_ret R rfl trivial rfl
theorem r_X0_keepOwn {i : Nat} {t : List zA} (h : i < zN 2) : z_rcv zN (zKD 43) (.inr (2, i) :: t) := by
  rw [show zKD 43 = 2 from rfl]
  exact ⟨rfl, h⟩
noncomputable def f_X0_keepOwn_8 (g1 : Nat) : Nat → Int32 → Int32 → Int32 → zM → Option (zM)
  | 0, _, _, _, _ => none
  | j + 1, x2, x3, x4, m =>
    if x3 ≤ x4 then
      some m
    else
      Option.bind (f_X7_at 20 (3 * g1) x4 m) fun r2 =>
      if r2 = x2 then
        Option.bind (f_X7_at 20 57 x4 m) fun r4 =>
        Option.bind (f_X7_put 20 56 x4 r4 m) fun r5 =>
        f_X0_keepOwn_8 g1 j x2 x3 (x4 + (1 : Int32)) r5
      else
        f_X0_keepOwn_8 g1 j x2 x3 (x4 + (1 : Int32)) m
noncomputable def f_X0_keepOwn (g1 : Nat) (x2 : Int32) (m : zM) : Option (zM) :=
  Option.bind (f_X4_size g1 m) fun r1 =>
  f_X0_keepOwn_8 g1 zF x2 r1 (0 : Int32) m
theorem w_X0_keepOwn_8 (d k : Nat) {o : zO} {G : Nat → Nat → zL → List zA → zM → Prop} (g1 : Nat) (hg1 : g1 < zN 6) (R : zRu (d + 1) tX0_keepOwn 0 (z_hf []) o G) : ∀ (j : Nat) (x2 : Int32) (x3 : Int32) (x4 : Int32) (m : zM), zLK G (fun a => (.inl none, a) : zM → zO) o (f_X0_keepOwn_8 g1 j x2 x3 x4 m) some (k + 0) 8 [some (.inr (2, 0)), some (.inr (6, g1)), some (.inl (.int x2)), some (.inl (.int x3)), some (.inl (.int x4))] [] m := by
  intro j
  induction j with
  | zero =>
    intro _ _ _ _
    exact zk_none
  | succ j ih =>
    intro x2 x3 x4 m
    unfold f_X0_keepOwn_8
    refine zk_st R 2 11 [some (.inr (2, 0)), some (.inr (6, g1)), some (.inl (.int x2)), some (.inl (.int x3)), some (.inl (.int x4))] [.inl (.int x3), .inl (.int x4)] m rfl ⟨trivial, trivial, trivial⟩ ?_
    refine zk_br R rfl (fun _ => ?_) (fun _ => ?_)
    · exact zk_ret R rfl trivial rfl
    · refine zk_st R 3 20 [some (.inr (2, 0)), some (.inr (6, g1)), some (.inl (.int x2)), some (.inl (.int x3)), some (.inl (.int x4))] [.inl (.int x4), .inr (20, 3 * g1)] m rfl ⟨trivial, hg1, trivial, trivial⟩ ?_
      refine zk_call R (fun b => some (.inl (.int b))) (fun _ => m) rfl (r_X7_at) (fun b hb => w_X7_at_k20 d 0 (3 * g1) (z_g0 hg1) x4 m b hb) (fun r2 => ?_)
      refine zk_st R 1 24 [some (.inr (2, 0)), some (.inr (6, g1)), some (.inl (.int x2)), some (.inl (.int x3)), some (.inl (.int x4))] [.inl (.int x2), .inl (.int r2)] m rfl ⟨trivial, trivial⟩ ?_
      refine zk_br R rfl (fun _ => ?_) (fun _ => ?_)
      · refine zk_st R 6 39 [some (.inr (2, 0)), some (.inr (6, g1)), some (.inl (.int x2)), some (.inl (.int x3)), some (.inl (.int x4))] [.inl (.int x4), .inr (20, 57), .inl (.int x4), .inr (20, 56)] m rfl ⟨trivial, (Nat.le_of_ble_eq_true rfl), trivial, trivial, (Nat.le_of_ble_eq_true rfl), trivial, trivial⟩ ?_
        refine zk_call R (fun b => some (.inl (.int b))) (fun _ => m) rfl (r_X7_at) (fun b hb => w_X7_at_k20 d 0 57 (Nat.le_of_ble_eq_true rfl) x4 m b hb) (fun r4 => ?_)
        refine zk_call R (fun _ => none) id rfl (r_X7_put) (fun b hb => w_X7_put_k20 d 0 56 (Nat.le_of_ble_eq_true rfl) x4 r4 m b hb) (fun r5 => ?_)
        refine zk_st R 2 8 [some (.inr (2, 0)), some (.inr (6, g1)), some (.inl (.int x2)), some (.inl (.int x3)), some (.inl (.int (x4 + (1 : Int32))))] [] r5 rfl ⟨trivial, trivial, trivial⟩ ?_
        refine zk_mask R [true, true, true, true, true] rfl ?_
        exact ih x2 x3 (x4 + (1 : Int32)) r5
      · refine zk_st R 2 8 [some (.inr (2, 0)), some (.inr (6, g1)), some (.inl (.int x2)), some (.inl (.int x3)), some (.inl (.int (x4 + (1 : Int32))))] [] m rfl ⟨trivial, trivial, trivial⟩ ?_
        refine zk_mask R [true, true, true, true, true] rfl ?_
        exact ih x2 x3 (x4 + (1 : Int32)) m
theorem w_X0_keepOwn (d k : Nat) (g1 : Nat) (hg1 : g1 < zN 6) (x2 : Int32) (m : zM) (a : zM) (ha : f_X0_keepOwn g1 x2 m = some a) : z_Ev z_MT zN zRf (d + 2) (k + 0) 43 [.inr (2, 0), .inr (6, g1), .inl (.int x2)] m ((fun a => (.inl none, a) : zM → zO) a) := by
  refine zk_top (I := (yX0_keepOwn, cX0_keepOwn, 5, none, [], tX0_keepOwn, 2, 2, 2, 0, 0, 0)) (oc := (fun a => (.inl none, a) : zM → zO)) (a := a) rfl (Nat.le_of_ble_eq_true rfl) (fun G R => ?_) ha
  unfold f_X0_keepOwn
  refine zk_st R 1 1 [some (.inr (2, 0)), some (.inr (6, g1)), some (.inl (.int x2)), none, none] [.inr (6, g1)] m rfl ⟨trivial, trivial⟩ ?_
  refine zk_call R (fun b => some (.inl (.int b))) (fun _ => m) rfl (r_X4_size hg1) (fun b hb => w_X4_size d 0 g1 hg1 m b hb) (fun r1 => ?_)
  refine zk_st R 3 8 [some (.inr (2, 0)), some (.inr (6, g1)), some (.inl (.int x2)), some (.inl (.int r1)), some (.inl (.int (0 : Int32)))] [] m rfl ⟨trivial, trivial, trivial, trivial⟩ ?_
  refine zk_mask R [true, true, true, true, true] rfl ?_
  exact w_X0_keepOwn_8 d k g1 hg1 R zF x2 r1 (0 : Int32) m
theorem r_X0_carve {i : Nat} {t : List zA} (h : i < zN 2) : z_rcv zN (zKD 45) (.inr (2, i) :: t) := by
  rw [show zKD 45 = 2 from rfl]
  exact ⟨rfl, h⟩
noncomputable def f_X0_carve_21 (g1 : Nat) : Nat → Int32 → Int32 → Int32 → zM → Option (Int32 × zM)
  | 0, _, _, _, _ => none
  | j + 1, x2, x3, x4, m =>
    if (m.1 2 0 3) ≤ x4 then
      some (x2, m)
    else
      Option.bind (f_X7_at 20 58 x4 m) fun r2 =>
      Option.bind (f_X7_at 20 (3 * g1) r2 m) fun r3 =>
      Option.bind (f_J9_min_7cf53 x3 r3 m) fun r4 =>
      Option.bind (f_X7_put 20 (3 * g1) r2 r4 m) fun r5 =>
      if r4 = r3 then
        f_X0_carve_21 g1 j x2 r4 (x4 + (1 : Int32)) r5
      else
        f_X0_carve_21 g1 j (x2 + (1 : Int32)) r4 (x4 + (1 : Int32)) r5
noncomputable def f_X0_carve (g1 : Nat) (m : zM) : Option (Int32 × zM) :=
  Option.bind (f_X7_at 20 58 (0 : Int32) m) fun r1 =>
  Option.bind (f_X7_at 20 (3 * g1) r1 m) fun r2 =>
  f_X0_carve_21 g1 zF (0 : Int32) r2 (1 : Int32) m
theorem w_X0_carve_21 (d k : Nat) {o : zO} {G : Nat → Nat → zL → List zA → zM → Prop} (g1 : Nat) (hg1 : g1 < zN 6) (R : zRu (d + 1) tX0_carve 0 (z_hf []) o G) : ∀ (j : Nat) (x2 : Int32) (x3 : Int32) (x4 : Int32) (m : zM), zLK G (fun a => (z_cI a.1, a.2) : Int32 × zM → zO) o (f_X0_carve_21 g1 j x2 x3 x4 m) some (k + 0) 21 [some (.inr (2, 0)), some (.inr (6, g1)), some (.inl (.int x2)), some (.inl (.int x3)), some (.inl (.int x4)), none, none] [] m := by
  intro j
  induction j with
  | zero =>
    intro _ _ _ _
    exact zk_none
  | succ j ih =>
    intro x2 x3 x4 m
    unfold f_X0_carve_21
    refine zk_st R 3 27 [some (.inr (2, 0)), some (.inr (6, g1)), some (.inl (.int x2)), some (.inl (.int x3)), some (.inl (.int x4)), none, none] [.inl (.int (m.1 2 0 3)), .inl (.int x4)] m rfl ⟨trivial, trivial, (Nat.le_of_ble_eq_true rfl), trivial⟩ ?_
    refine zk_br R rfl (fun _ => ?_) (fun _ => ?_)
    · refine zk_st R 1 85 [some (.inr (2, 0)), some (.inr (6, g1)), some (.inl (.int x2)), some (.inl (.int x3)), some (.inl (.int x4)), none, none] [.inl (.int x2)] m rfl ⟨trivial, trivial⟩ ?_
      exact zk_ret R rfl trivial rfl
    · refine zk_st R 3 36 [some (.inr (2, 0)), some (.inr (6, g1)), some (.inl (.int x2)), some (.inl (.int x3)), some (.inl (.int x4)), none, none] [.inl (.int x4), .inr (20, 58)] m rfl ⟨trivial, (Nat.le_of_ble_eq_true rfl), trivial, trivial⟩ ?_
      refine zk_call R (fun b => some (.inl (.int b))) (fun _ => m) rfl (r_X7_at) (fun b hb => w_X7_at_k20 d 0 58 (Nat.le_of_ble_eq_true rfl) x4 m b hb) (fun r2 => ?_)
      refine zk_st R 4 47 [some (.inr (2, 0)), some (.inr (6, g1)), some (.inl (.int x2)), some (.inl (.int x3)), some (.inl (.int x4)), some (.inl (.int r2)), none] [.inl (.int r2), .inr (20, 3 * g1)] m rfl ⟨trivial, trivial, hg1, trivial, trivial⟩ ?_
      refine zk_call R (fun b => some (.inl (.int b))) (fun _ => m) rfl (r_X7_at) (fun b hb => w_X7_at_k20 d 0 (3 * g1) (z_g0 hg1) r2 m b hb) (fun r3 => ?_)
      refine zk_st R 3 55 [some (.inr (2, 0)), some (.inr (6, g1)), some (.inl (.int x2)), some (.inl (.int x3)), some (.inl (.int x4)), some (.inl (.int r2)), some (.inl (.int r3))] [.inl (.int r3), .inl (.int x3)] m rfl ⟨trivial, trivial, trivial, trivial⟩ ?_
      refine zk_call R (fun b => some (.inl (.int b))) (fun _ => m) rfl (r_J9_min_7cf53) (fun b hb => w_J9_min_7cf53 d 0 x3 r3 m b hb) (fun r4 => ?_)
      refine zk_st R 5 66 [some (.inr (2, 0)), some (.inr (6, g1)), some (.inl (.int x2)), some (.inl (.int r4)), some (.inl (.int x4)), some (.inl (.int r2)), some (.inl (.int r3))] [.inl (.int r4), .inl (.int r2), .inr (20, 3 * g1)] m rfl ⟨trivial, trivial, hg1, trivial, trivial, trivial⟩ ?_
      refine zk_call R (fun _ => none) id rfl (r_X7_put) (fun b hb => w_X7_put_k20 d 0 (3 * g1) (z_g0 hg1) r2 r4 m b hb) (fun r5 => ?_)
      refine zk_st R 2 72 [some (.inr (2, 0)), some (.inr (6, g1)), some (.inl (.int x2)), some (.inl (.int r4)), some (.inl (.int x4)), some (.inl (.int r2)), some (.inl (.int r3))] [.inl (.int r3), .inl (.int r4)] r5 rfl ⟨trivial, trivial, trivial⟩ ?_
      refine zk_br R rfl (fun _ => ?_) (fun _ => ?_)
      · refine zk_st R 2 21 [some (.inr (2, 0)), some (.inr (6, g1)), some (.inl (.int x2)), some (.inl (.int r4)), some (.inl (.int (x4 + (1 : Int32)))), some (.inl (.int r2)), some (.inl (.int r3))] [] r5 rfl ⟨trivial, trivial, trivial⟩ ?_
        refine zk_mask R [true, true, true, true, true, false, false] rfl ?_
        exact ih x2 r4 (x4 + (1 : Int32)) r5
      · refine zk_st R 3 21 [some (.inr (2, 0)), some (.inr (6, g1)), some (.inl (.int (x2 + (1 : Int32)))), some (.inl (.int r4)), some (.inl (.int (x4 + (1 : Int32)))), some (.inl (.int r2)), some (.inl (.int r3))] [] r5 rfl ⟨trivial, trivial, trivial, trivial⟩ ?_
        refine zk_mask R [true, true, true, true, true, false, false] rfl ?_
        exact ih (x2 + (1 : Int32)) r4 (x4 + (1 : Int32)) r5
theorem w_X0_carve (d k : Nat) (g1 : Nat) (hg1 : g1 < zN 6) (m : zM) (a : Int32 × zM) (ha : f_X0_carve g1 m = some a) : z_Ev z_MT zN zRf (d + 2) (k + 0) 45 [.inr (2, 0), .inr (6, g1)] m ((fun a => (z_cI a.1, a.2) : Int32 × zM → zO) a) := by
  refine zk_top (I := (yX0_carve, cX0_carve, 7, (some .int), [], tX0_carve, 2, 1, 2, 0, 0, 0)) (oc := (fun a => (z_cI a.1, a.2) : Int32 × zM → zO)) (a := a) rfl (Nat.le_of_ble_eq_true rfl) (fun G R => ?_) ha
  unfold f_X0_carve
  refine zk_st R 7 11 [some (.inr (2, 0)), some (.inr (6, g1)), some (.inl (.int (0 : Int32))), none, none, none, none] [.inl (.int (0 : Int32)), .inr (20, 58), .inr (20, 3 * g1)] m rfl ⟨trivial, trivial, trivial, hg1, trivial, (Nat.le_of_ble_eq_true rfl), trivial, trivial⟩ ?_
  refine zk_call R (fun b => some (.inl (.int b))) (fun _ => m) rfl (r_X7_at) (fun b hb => w_X7_at_k20 d 0 58 (Nat.le_of_ble_eq_true rfl) (0 : Int32) m b hb) (fun r1 => ?_)
  refine zk_call R (fun b => some (.inl (.int b))) (fun _ => m) rfl (r_X7_at) (fun b hb => w_X7_at_k20 d 0 (3 * g1) (z_g0 hg1) r1 m b hb) (fun r2 => ?_)
  refine zk_st R 3 21 [some (.inr (2, 0)), some (.inr (6, g1)), some (.inl (.int (0 : Int32))), some (.inl (.int r2)), some (.inl (.int (1 : Int32))), none, none] [] m rfl ⟨trivial, trivial, trivial, trivial⟩ ?_
  refine zk_mask R [true, true, true, true, true, false, false] rfl ?_
  exact w_X0_carve_21 d k g1 hg1 R zF (0 : Int32) r2 (1 : Int32) m
theorem r_X1_isWithin {i : Nat} {t : List zA} (h : i < zN 3) : z_rcv zN (zKD 48) (.inr (3, i) :: t) := by
  rw [show zKD 48 = 3 from rfl]
  exact ⟨rfl, h⟩
noncomputable def f_X1_isWithin (x1 : Int32) (x2 : Int64) (x4 : Int32) (m : zM) : Option (Bool) :=
  Option.bind (f_X7_at 21 1 x1 m) fun r1 =>
  if r1 = (x4 - (1 : Int32)) then
    Option.bind (f_X7_at_ 31 1 x1 m) fun r3 =>
    if (lg_cmp (r3 &&& x2) (0 : Int64)) = 0 then
      some false
    else
      some true
  else
    some false
theorem w_X1_isWithin (d k : Nat) (x1 : Int32) (x2 : Int64) (x4 : Int32) (m : zM) (a : Bool) (ha : f_X1_isWithin x1 x2 x4 m = some a) : z_Ev z_MT zN zRf (d + 2) (k + 0) 48 [.inr (3, 0), .inl (.int x1), .inl (.long x2), .inl (.int x4)] m ((fun a => (z_cB a, m) : Bool → zO) a) := by
  refine zk_top (I := (yX1_isWithin, cX1_isWithin, 5, (some .boolean), [], tX1_isWithin, 3, 3, 3, 0, 0, 0)) (oc := (fun a => (z_cB a, m) : Bool → zO)) (a := a) rfl (Nat.le_of_ble_eq_true rfl) (fun G R => ?_) ha
  unfold f_X1_isWithin
  refine zk_st R 3 5 [some (.inr (3, 0)), some (.inl (.int x1)), some (.inl (.long x2)), none, some (.inl (.int x4))] [.inl (.int x1), .inr (21, 1)] m rfl ⟨trivial, (Nat.le_of_ble_eq_true rfl), trivial, trivial⟩ ?_
  refine zk_call R (fun b => some (.inl (.int b))) (fun _ => m) rfl (r_X7_at) (fun b hb => w_X7_at_k21 d 0 1 (Nat.le_of_ble_eq_true rfl) x1 m b hb) (fun r1 => ?_)
  refine zk_st R 3 12 [some (.inr (3, 0)), some (.inl (.int x1)), some (.inl (.long x2)), none, some (.inl (.int x4))] [.inl (.int (x4 - (1 : Int32))), .inl (.int r1)] m rfl ⟨trivial, trivial, trivial, trivial⟩ ?_
  refine zk_br R rfl (fun _ => ?_) (fun _ => ?_)
  · refine zk_st R 3 20 [some (.inr (3, 0)), some (.inl (.int x1)), some (.inl (.long x2)), none, some (.inl (.int x4))] [.inl (.int x1), .inr (31, 1)] m rfl ⟨trivial, (Nat.le_of_ble_eq_true rfl), trivial, trivial⟩ ?_
    refine zk_call R (fun b => some (.inl (.long b))) (fun _ => m) rfl (r_X7_at_) (fun b hb => w_X7_at__k31 d 0 1 (Nat.le_of_ble_eq_true rfl) x1 m b hb) (fun r3 => ?_)
    refine zk_st R 4 27 [some (.inr (3, 0)), some (.inl (.int x1)), some (.inl (.long x2)), none, some (.inl (.int x4))] [.inl (.int (lg_cmp (r3 &&& x2) (0 : Int64)))] m rfl ⟨trivial, trivial, trivial, trivial, trivial⟩ ?_
    refine zk_br R rfl (fun _ => ?_) (fun _ => ?_)
    · refine zk_st R 1 35 [some (.inr (3, 0)), some (.inl (.int x1)), some (.inl (.long x2)), none, some (.inl (.int x4))] [.inl (.int (0 : Int32))] m rfl ⟨trivial, trivial⟩ ?_
      exact zk_ret R rfl (Or.inl rfl) rfl
    · refine zk_st R 2 35 [some (.inr (3, 0)), some (.inl (.int x1)), some (.inl (.long x2)), none, some (.inl (.int x4))] [.inl (.int (1 : Int32))] m rfl ⟨trivial, trivial, trivial⟩ ?_
      exact zk_ret R rfl (Or.inr rfl) rfl
  · refine zk_st R 1 35 [some (.inr (3, 0)), some (.inl (.int x1)), some (.inl (.long x2)), none, some (.inl (.int x4))] [.inl (.int (0 : Int32))] m rfl ⟨trivial, trivial⟩ ?_
    exact zk_ret R rfl (Or.inl rfl) rfl
theorem r_X1_begin {i : Nat} {t : List zA} (h : i < zN 3) : z_rcv zN (zKD 49) (.inr (3, i) :: t) := by
  rw [show zKD 49 = 3 from rfl]
  exact ⟨rfl, h⟩
noncomputable def f_X1_begin (x1 : Int64) (x3 : Int32) (m : zM) : Option (zM) :=
  Option.bind (f_X7_put 21 0 (m.1 3 0 0) x3 m) fun r1 =>
  Option.bind (f_X7_put 21 1 (r1.1 3 0 0) x3 r1) fun r2 =>
  Option.bind (f_X7_put 21 2 (r2.1 3 0 0) (-1 : Int32) r2) fun r3 =>
  Option.bind (f_X7_put_ 31 0 (r3.1 3 0 0) x1 r3) fun r4 =>
  Option.bind (f_X7_put_ 31 1 (r4.1 3 0 0) x1 r4) fun r5 =>
  some (z_sI r5 3 0 0 ((r5.1 3 0 0) + (1 : Int32)))
theorem w_X1_begin (d k : Nat) (x1 : Int64) (x3 : Int32) (m : zM) (a : zM) (ha : f_X1_begin x1 x3 m = some a) : z_Ev z_MT zN zRf (d + 2) (k + 0) 49 [.inr (3, 0), .inl (.long x1), .inl (.int x3)] m ((fun a => (.inl none, a) : zM → zO) a) := by
  refine zk_top (I := (yX1_begin, cX1_begin, 4, none, [], tX1_begin, 3, 2, 3, 0, 0, 0)) (oc := (fun a => (.inl none, a) : zM → zO)) (a := a) rfl (Nat.le_of_ble_eq_true rfl) (fun G R => ?_) ha
  unfold f_X1_begin
  refine zk_st R 5 9 [some (.inr (3, 0)), some (.inl (.long x1)), none, some (.inl (.int x3))] [.inl (.int x3), .inl (.int (m.1 3 0 0)), .inr (21, 0)] m rfl ⟨trivial, (Nat.le_of_ble_eq_true rfl), trivial, (Nat.le_of_ble_eq_true rfl), trivial, trivial⟩ ?_
  refine zk_call R (fun _ => none) id rfl (r_X7_put) (fun b hb => w_X7_put_k21 d 0 0 (Nat.le_of_ble_eq_true rfl) (m.1 3 0 0) x3 m b hb) (fun r1 => ?_)
  refine zk_st R 5 21 [some (.inr (3, 0)), some (.inl (.long x1)), none, some (.inl (.int x3))] [.inl (.int x3), .inl (.int (r1.1 3 0 0)), .inr (21, 1)] r1 rfl ⟨trivial, (Nat.le_of_ble_eq_true rfl), trivial, (Nat.le_of_ble_eq_true rfl), trivial, trivial⟩ ?_
  refine zk_call R (fun _ => none) id rfl (r_X7_put) (fun b hb => w_X7_put_k21 d 0 1 (Nat.le_of_ble_eq_true rfl) (r1.1 3 0 0) x3 r1 b hb) (fun r2 => ?_)
  refine zk_st R 5 33 [some (.inr (3, 0)), some (.inl (.long x1)), none, some (.inl (.int x3))] [.inl (.int (-1 : Int32)), .inl (.int (r2.1 3 0 0)), .inr (21, 2)] r2 rfl ⟨trivial, (Nat.le_of_ble_eq_true rfl), trivial, (Nat.le_of_ble_eq_true rfl), trivial, trivial⟩ ?_
  refine zk_call R (fun _ => none) id rfl (r_X7_put) (fun b hb => w_X7_put_k21 d 0 2 (Nat.le_of_ble_eq_true rfl) (r2.1 3 0 0) (-1 : Int32) r2 b hb) (fun r3 => ?_)
  refine zk_st R 5 45 [some (.inr (3, 0)), some (.inl (.long x1)), none, some (.inl (.int x3))] [.inl (.long x1), .inl (.int (r3.1 3 0 0)), .inr (31, 0)] r3 rfl ⟨trivial, (Nat.le_of_ble_eq_true rfl), trivial, (Nat.le_of_ble_eq_true rfl), trivial, trivial⟩ ?_
  refine zk_call R (fun _ => none) id rfl (r_X7_put_) (fun b hb => w_X7_put__k31 d 0 0 (Nat.le_of_ble_eq_true rfl) (r3.1 3 0 0) x1 r3 b hb) (fun r4 => ?_)
  refine zk_st R 5 57 [some (.inr (3, 0)), some (.inl (.long x1)), none, some (.inl (.int x3))] [.inl (.long x1), .inl (.int (r4.1 3 0 0)), .inr (31, 1)] r4 rfl ⟨trivial, (Nat.le_of_ble_eq_true rfl), trivial, (Nat.le_of_ble_eq_true rfl), trivial, trivial⟩ ?_
  refine zk_call R (fun _ => none) id rfl (r_X7_put_) (fun b hb => w_X7_put__k31 d 0 1 (Nat.le_of_ble_eq_true rfl) (r4.1 3 0 0) x1 r4 b hb) (fun r5 => ?_)
  refine zk_st R 6 70 [some (.inr (3, 0)), some (.inl (.long x1)), none, some (.inl (.int x3))] [] (z_sI r5 3 0 0 ((r5.1 3 0 0) + (1 : Int32))) rfl ⟨trivial, trivial, (Nat.le_of_ble_eq_true rfl), trivial, trivial, (Nat.le_of_ble_eq_true rfl), trivial⟩ ?_
  exact zk_ret R rfl trivial rfl
theorem r_X1_rim {i : Nat} {t : List zA} (h : i < zN 3) : z_rcv zN (zKD 50) (.inr (3, i) :: t) := by
  rw [show zKD 50 = 3 from rfl]
  exact ⟨rfl, h⟩
noncomputable def f_X1_rim (x1 : Int32) (m : zM) : Option (Int32) :=
  Option.bind (f_X7_at 21 1 x1 m) fun r1 =>
  some (r1 + (1 : Int32))
theorem w_X1_rim (d k : Nat) (x1 : Int32) (m : zM) (a : Int32) (ha : f_X1_rim x1 m = some a) : z_Ev z_MT zN zRf (d + 2) (k + 0) 50 [.inr (3, 0), .inl (.int x1)] m ((fun a => (z_cI a, m) : Int32 → zO) a) := by
  refine zk_top (I := (yX1_rim, cX1_rim, 2, (some .int), [], tX1_rim, 3, 1, 3, 0, 0, 0)) (oc := (fun a => (z_cI a, m) : Int32 → zO)) (a := a) rfl (Nat.le_of_ble_eq_true rfl) (fun G R => ?_) ha
  unfold f_X1_rim
  refine zk_st R 3 5 [some (.inr (3, 0)), some (.inl (.int x1))] [.inl (.int x1), .inr (21, 1)] m rfl ⟨trivial, (Nat.le_of_ble_eq_true rfl), trivial, trivial⟩ ?_
  refine zk_call R (fun b => some (.inl (.int b))) (fun _ => m) rfl (r_X7_at) (fun b hb => w_X7_at_k21 d 0 1 (Nat.le_of_ble_eq_true rfl) x1 m b hb) (fun r1 => ?_)
  refine zk_st R 2 10 [some (.inr (3, 0)), some (.inl (.int x1))] [.inl (.int (r1 + (1 : Int32)))] m rfl ⟨trivial, trivial, trivial⟩ ?_
  exact zk_ret R rfl trivial rfl
theorem r_X1_children {i : Nat} {t : List zA} (h : i < zN 3) : z_rcv zN (zKD 52) (.inr (3, i) :: t) := by
  rw [show zKD 52 = 3 from rfl]
  exact ⟨rfl, h⟩
noncomputable def f_X1_children_4 (m : zM) : Nat → Int32 → Int32 → Int32 → Option (Int32)
  | 0, _, _, _ => none
  | j + 1, x1, x2, x3 =>
    if (m.1 3 0 0) ≤ x3 then
      some x2
    else
      Option.bind (f_X7_at 21 2 x3 m) fun r2 =>
      if r2 = x1 then
        f_X1_children_4 m j x1 (x2 + (1 : Int32)) (x3 + (1 : Int32))
      else
        f_X1_children_4 m j x1 x2 (x3 + (1 : Int32))
noncomputable def f_X1_children (x1 : Int32) (m : zM) : Option (Int32) :=
  f_X1_children_4 m zF x1 (0 : Int32) (0 : Int32)
theorem w_X1_children_4 (d k : Nat) {o : zO} {G : Nat → Nat → zL → List zA → zM → Prop} (m : zM) (R : zRu (d + 1) tX1_children 0 (z_hf []) o G) : ∀ (j : Nat) (x1 : Int32) (x2 : Int32) (x3 : Int32), zLK G (fun a => (z_cI a, m) : Int32 → zO) o (f_X1_children_4 m j x1 x2 x3) some (k + 0) 4 [some (.inr (3, 0)), some (.inl (.int x1)), some (.inl (.int x2)), some (.inl (.int x3))] [] m := by
  intro j
  induction j with
  | zero =>
    intro _ _ _
    exact zk_none
  | succ j ih =>
    intro x1 x2 x3
    unfold f_X1_children_4
    refine zk_st R 3 9 [some (.inr (3, 0)), some (.inl (.int x1)), some (.inl (.int x2)), some (.inl (.int x3))] [.inl (.int (m.1 3 0 0)), .inl (.int x3)] m rfl ⟨trivial, trivial, (Nat.le_of_ble_eq_true rfl), trivial⟩ ?_
    refine zk_br R rfl (fun _ => ?_) (fun _ => ?_)
    · refine zk_st R 1 34 [some (.inr (3, 0)), some (.inl (.int x1)), some (.inl (.int x2)), some (.inl (.int x3))] [.inl (.int x2)] m rfl ⟨trivial, trivial⟩ ?_
      exact zk_ret R rfl trivial rfl
    · refine zk_st R 3 17 [some (.inr (3, 0)), some (.inl (.int x1)), some (.inl (.int x2)), some (.inl (.int x3))] [.inl (.int x3), .inr (21, 2)] m rfl ⟨trivial, (Nat.le_of_ble_eq_true rfl), trivial, trivial⟩ ?_
      refine zk_call R (fun b => some (.inl (.int b))) (fun _ => m) rfl (r_X7_at) (fun b hb => w_X7_at_k21 d 0 2 (Nat.le_of_ble_eq_true rfl) x3 m b hb) (fun r2 => ?_)
      refine zk_st R 1 21 [some (.inr (3, 0)), some (.inl (.int x1)), some (.inl (.int x2)), some (.inl (.int x3))] [.inl (.int x1), .inl (.int r2)] m rfl ⟨trivial, trivial⟩ ?_
      refine zk_br R rfl (fun _ => ?_) (fun _ => ?_)
      · refine zk_st R 3 4 [some (.inr (3, 0)), some (.inl (.int x1)), some (.inl (.int (x2 + (1 : Int32)))), some (.inl (.int (x3 + (1 : Int32))))] [] m rfl ⟨trivial, trivial, trivial, trivial⟩ ?_
        refine zk_mask R [true, true, true, true] rfl ?_
        exact ih x1 (x2 + (1 : Int32)) (x3 + (1 : Int32))
      · refine zk_st R 2 4 [some (.inr (3, 0)), some (.inl (.int x1)), some (.inl (.int x2)), some (.inl (.int (x3 + (1 : Int32))))] [] m rfl ⟨trivial, trivial, trivial⟩ ?_
        refine zk_mask R [true, true, true, true] rfl ?_
        exact ih x1 x2 (x3 + (1 : Int32))
theorem w_X1_children (d k : Nat) (x1 : Int32) (m : zM) (a : Int32) (ha : f_X1_children x1 m = some a) : z_Ev z_MT zN zRf (d + 2) (k + 0) 52 [.inr (3, 0), .inl (.int x1)] m ((fun a => (z_cI a, m) : Int32 → zO) a) := by
  refine zk_top (I := (yX1_children, cX1_children, 4, (some .int), [], tX1_children, 3, 1, 3, 0, 0, 0)) (oc := (fun a => (z_cI a, m) : Int32 → zO)) (a := a) rfl (Nat.le_of_ble_eq_true rfl) (fun G R => ?_) ha
  unfold f_X1_children
  refine zk_st R 4 4 [some (.inr (3, 0)), some (.inl (.int x1)), some (.inl (.int (0 : Int32))), some (.inl (.int (0 : Int32)))] [] m rfl ⟨trivial, trivial, trivial, trivial, trivial⟩ ?_
  refine zk_mask R [true, true, true, true] rfl ?_
  exact w_X1_children_4 d k m R zF x1 (0 : Int32) (0 : Int32)
theorem r_X1_depthInTree {i : Nat} {t : List zA} (h : i < zN 3) : z_rcv zN (zKD 53) (.inr (3, i) :: t) := by
  rw [show zKD 53 = 3 from rfl]
  exact ⟨rfl, h⟩
noncomputable def f_X1_depthInTree_14 (m : zM) : Nat → Int32 → Int32 → Int32 → Option (Int32)
  | 0, _, _, _ => none
  | j + 1, x2, x3, x4 =>
    if (128 : Int32) ≤ x4 then
      some x2
    else
      if x3 = (-1 : Int32) then
        some x2
      else
        Option.bind (f_X7_at 21 2 x3 m) fun r3 =>
        f_X1_depthInTree_14 m j (x2 + (1 : Int32)) r3 (x4 + (1 : Int32))
noncomputable def f_X1_depthInTree (x1 : Int32) (m : zM) : Option (Int32) :=
  Option.bind (f_X7_at 21 2 x1 m) fun r1 =>
  f_X1_depthInTree_14 m zF (0 : Int32) r1 (0 : Int32)
theorem w_X1_depthInTree_14 (d k : Nat) {o : zO} {G : Nat → Nat → zL → List zA → zM → Prop} (m : zM) (R : zRu (d + 1) tX1_depthInTree 0 (z_hf []) o G) : ∀ (j : Nat) (x2 : Int32) (x3 : Int32) (x4 : Int32), zLK G (fun a => (z_cI a, m) : Int32 → zO) o (f_X1_depthInTree_14 m j x2 x3 x4) some (k + 0) 14 [some (.inr (3, 0)), none, some (.inl (.int x2)), some (.inl (.int x3)), some (.inl (.int x4))] [] m := by
  intro j
  induction j with
  | zero =>
    intro _ _ _
    exact zk_none
  | succ j ih =>
    intro x2 x3 x4
    unfold f_X1_depthInTree_14
    refine zk_st R 2 19 [some (.inr (3, 0)), none, some (.inl (.int x2)), some (.inl (.int x3)), some (.inl (.int x4))] [.inl (.int (128 : Int32)), .inl (.int x4)] m rfl ⟨trivial, trivial, trivial⟩ ?_
    refine zk_br R rfl (fun _ => ?_) (fun _ => ?_)
    · refine zk_st R 1 46 [some (.inr (3, 0)), none, some (.inl (.int x2)), some (.inl (.int x3)), some (.inl (.int x4))] [.inl (.int x2)] m rfl ⟨trivial, trivial⟩ ?_
      exact zk_ret R rfl trivial rfl
    · refine zk_st R 2 24 [some (.inr (3, 0)), none, some (.inl (.int x2)), some (.inl (.int x3)), some (.inl (.int x4))] [.inl (.int (-1 : Int32)), .inl (.int x3)] m rfl ⟨trivial, trivial, trivial⟩ ?_
      refine zk_br R rfl (fun _ => ?_) (fun _ => ?_)
      · refine zk_st R 1 46 [some (.inr (3, 0)), none, some (.inl (.int x2)), some (.inl (.int x3)), some (.inl (.int x4))] [.inl (.int x2)] m rfl ⟨trivial, trivial⟩ ?_
        exact zk_ret R rfl trivial rfl
      · refine zk_st R 4 35 [some (.inr (3, 0)), none, some (.inl (.int (x2 + (1 : Int32)))), some (.inl (.int x3)), some (.inl (.int x4))] [.inl (.int x3), .inr (21, 2)] m rfl ⟨trivial, trivial, (Nat.le_of_ble_eq_true rfl), trivial, trivial⟩ ?_
        refine zk_call R (fun b => some (.inl (.int b))) (fun _ => m) rfl (r_X7_at) (fun b hb => w_X7_at_k21 d 0 2 (Nat.le_of_ble_eq_true rfl) x3 m b hb) (fun r3 => ?_)
        refine zk_st R 3 14 [some (.inr (3, 0)), none, some (.inl (.int (x2 + (1 : Int32)))), some (.inl (.int r3)), some (.inl (.int (x4 + (1 : Int32))))] [] m rfl ⟨trivial, trivial, trivial, trivial⟩ ?_
        refine zk_mask R [true, false, true, true, true] rfl ?_
        exact ih (x2 + (1 : Int32)) r3 (x4 + (1 : Int32))
theorem w_X1_depthInTree (d k : Nat) (x1 : Int32) (m : zM) (a : Int32) (ha : f_X1_depthInTree x1 m = some a) : z_Ev z_MT zN zRf (d + 2) (k + 0) 53 [.inr (3, 0), .inl (.int x1)] m ((fun a => (z_cI a, m) : Int32 → zO) a) := by
  refine zk_top (I := (yX1_depthInTree, cX1_depthInTree, 5, (some .int), [], tX1_depthInTree, 3, 1, 3, 0, 0, 0)) (oc := (fun a => (z_cI a, m) : Int32 → zO)) (a := a) rfl (Nat.le_of_ble_eq_true rfl) (fun G R => ?_) ha
  unfold f_X1_depthInTree
  refine zk_st R 5 7 [some (.inr (3, 0)), some (.inl (.int x1)), some (.inl (.int (0 : Int32))), none, none] [.inl (.int x1), .inr (21, 2)] m rfl ⟨trivial, trivial, trivial, (Nat.le_of_ble_eq_true rfl), trivial, trivial⟩ ?_
  refine zk_call R (fun b => some (.inl (.int b))) (fun _ => m) rfl (r_X7_at) (fun b hb => w_X7_at_k21 d 0 2 (Nat.le_of_ble_eq_true rfl) x1 m b hb) (fun r1 => ?_)
  refine zk_st R 3 14 [some (.inr (3, 0)), some (.inl (.int x1)), some (.inl (.int (0 : Int32))), some (.inl (.int r1)), some (.inl (.int (0 : Int32)))] [] m rfl ⟨trivial, trivial, trivial, trivial⟩ ?_
  refine zk_mask R [true, false, true, true, true] rfl ?_
  exact w_X1_depthInTree_14 d k m R zF (0 : Int32) r1 (0 : Int32)
theorem r_X1_rootAt {i : Nat} {t : List zA} (h : i < zN 3) : z_rcv zN (zKD 54) (.inr (3, i) :: t) := by
  rw [show zKD 54 = 3 from rfl]
  exact ⟨rfl, h⟩
noncomputable def f_X1_rootAt_2 (m : zM) : Nat → Int32 → Int32 → Option (Int32)
  | 0, _, _ => none
  | j + 1, x1, x2 =>
    if (m.1 3 0 0) ≤ x2 then
      some (-1 : Int32)
    else
      Option.bind (f_X7_at 21 2 x2 m) fun r2 =>
      if r2 = (-1 : Int32) then
        Option.bind (f_X7_at_ 31 1 x2 m) fun r4 =>
        Option.bind (f_X7_has r4 x1 m) fun r5 =>
        if (z_bi r5) = 0 then
          f_X1_rootAt_2 m j x1 (x2 + (1 : Int32))
        else
          some x2
      else
        f_X1_rootAt_2 m j x1 (x2 + (1 : Int32))
noncomputable def f_X1_rootAt (x1 : Int32) (m : zM) : Option (Int32) :=
  f_X1_rootAt_2 m zF x1 (0 : Int32)
theorem w_X1_rootAt_2 (d k : Nat) {o : zO} {G : Nat → Nat → zL → List zA → zM → Prop} (m : zM) (R : zRu (d + 1) tX1_rootAt 0 (z_hf []) o G) : ∀ (j : Nat) (x1 : Int32) (x2 : Int32), zLK G (fun a => (z_cI a, m) : Int32 → zO) o (f_X1_rootAt_2 m j x1 x2) some (k + 0) 2 [some (.inr (3, 0)), some (.inl (.int x1)), some (.inl (.int x2))] [] m := by
  intro j
  induction j with
  | zero =>
    intro _ _
    exact zk_none
  | succ j ih =>
    intro x1 x2
    unfold f_X1_rootAt_2
    refine zk_st R 3 7 [some (.inr (3, 0)), some (.inl (.int x1)), some (.inl (.int x2))] [.inl (.int (m.1 3 0 0)), .inl (.int x2)] m rfl ⟨trivial, trivial, (Nat.le_of_ble_eq_true rfl), trivial⟩ ?_
    refine zk_br R rfl (fun _ => ?_) (fun _ => ?_)
    · refine zk_st R 1 46 [some (.inr (3, 0)), some (.inl (.int x1)), some (.inl (.int x2))] [.inl (.int (-1 : Int32))] m rfl ⟨trivial, trivial⟩ ?_
      exact zk_ret R rfl trivial rfl
    · refine zk_st R 3 15 [some (.inr (3, 0)), some (.inl (.int x1)), some (.inl (.int x2))] [.inl (.int x2), .inr (21, 2)] m rfl ⟨trivial, (Nat.le_of_ble_eq_true rfl), trivial, trivial⟩ ?_
      refine zk_call R (fun b => some (.inl (.int b))) (fun _ => m) rfl (r_X7_at) (fun b hb => w_X7_at_k21 d 0 2 (Nat.le_of_ble_eq_true rfl) x2 m b hb) (fun r2 => ?_)
      refine zk_st R 1 19 [some (.inr (3, 0)), some (.inl (.int x1)), some (.inl (.int x2))] [.inl (.int (-1 : Int32)), .inl (.int r2)] m rfl ⟨trivial, trivial⟩ ?_
      refine zk_br R rfl (fun _ => ?_) (fun _ => ?_)
      · refine zk_st R 3 27 [some (.inr (3, 0)), some (.inl (.int x1)), some (.inl (.int x2))] [.inl (.int x2), .inr (31, 1)] m rfl ⟨trivial, (Nat.le_of_ble_eq_true rfl), trivial, trivial⟩ ?_
        refine zk_call R (fun b => some (.inl (.long b))) (fun _ => m) rfl (r_X7_at_) (fun b hb => w_X7_at__k31 d 0 1 (Nat.le_of_ble_eq_true rfl) x2 m b hb) (fun r4 => ?_)
        refine zk_st R 1 31 [some (.inr (3, 0)), some (.inl (.int x1)), some (.inl (.int x2))] [.inl (.int x1), .inl (.long r4)] m rfl ⟨trivial, trivial⟩ ?_
        refine zk_call R (fun b => some (.inl (.int (z_bi b)))) (fun _ => m) rfl (r_X7_has) (fun b hb => w_X7_has d 0 r4 x1 m b hb) (fun r5 => ?_)
        refine zk_br R rfl (fun _ => ?_) (fun _ => ?_)
        · refine zk_st R 2 2 [some (.inr (3, 0)), some (.inl (.int x1)), some (.inl (.int (x2 + (1 : Int32))))] [] m rfl ⟨trivial, trivial, trivial⟩ ?_
          refine zk_mask R [true, true, true] rfl ?_
          exact ih x1 (x2 + (1 : Int32))
        · refine zk_st R 1 38 [some (.inr (3, 0)), some (.inl (.int x1)), some (.inl (.int x2))] [.inl (.int x2)] m rfl ⟨trivial, trivial⟩ ?_
          exact zk_ret R rfl trivial rfl
      · refine zk_st R 2 2 [some (.inr (3, 0)), some (.inl (.int x1)), some (.inl (.int (x2 + (1 : Int32))))] [] m rfl ⟨trivial, trivial, trivial⟩ ?_
        refine zk_mask R [true, true, true] rfl ?_
        exact ih x1 (x2 + (1 : Int32))
theorem w_X1_rootAt (d k : Nat) (x1 : Int32) (m : zM) (a : Int32) (ha : f_X1_rootAt x1 m = some a) : z_Ev z_MT zN zRf (d + 2) (k + 0) 54 [.inr (3, 0), .inl (.int x1)] m ((fun a => (z_cI a, m) : Int32 → zO) a) := by
  refine zk_top (I := (yX1_rootAt, cX1_rootAt, 3, (some .int), [], tX1_rootAt, 3, 1, 3, 0, 0, 0)) (oc := (fun a => (z_cI a, m) : Int32 → zO)) (a := a) rfl (Nat.le_of_ble_eq_true rfl) (fun G R => ?_) ha
  unfold f_X1_rootAt
  refine zk_st R 2 2 [some (.inr (3, 0)), some (.inl (.int x1)), some (.inl (.int (0 : Int32)))] [] m rfl ⟨trivial, trivial, trivial⟩ ?_
  refine zk_mask R [true, true, true] rfl ?_
  exact w_X1_rootAt_2 d k m R zF x1 (0 : Int32)
