theorem r_X3_findFlat {i : Nat} {t : List zA} (h : i < zN 5) : z_rcv zN (zKD 63) (.inr (5, i) :: t) := by
  rw [show zKD 63 = 5 from rfl]
  exact ⟨rfl, h⟩
noncomputable def f_X3_findFlat_37 (g1 : Nat) (c7 : Int32 → zM → Option (zM)) (x3 : Int32) (s0 : Int32) (m : zM) : Option (zM) :=
  if s0 = 0 then
    Option.bind (f_X4_isOutlet g1 x3 m) fun r2 =>
    if (z_bi r2) = 0 then
      c7 (x3 + (1 : Int32)) (z_sL m 5 0 1 ((m.2.1 5 0 1) ||| (z_shl (1 : Int64) x3)))
    else
      c7 (x3 + (1 : Int32)) m
  else
    c7 (x3 + (1 : Int32)) m
noncomputable def f_X3_findFlat_7 (g1 : Nat) : Nat → Int32 → zM → Option (zM)
  | 0, _, _ => none
  | j + 1, x3, m =>
    if (m.1 5 0 0) ≤ x3 then
      some m
    else
      Option.bind (f_X3_leastLevelAround g1 x3 m) fun r2 =>
      Option.bind (f_X7_at 20 33 x3 m) fun r3 =>
      if r3 ≤ r2 then
        f_X3_findFlat_37 g1 (f_X3_findFlat_7 g1 j) x3 (0 : Int32) m
      else
        f_X3_findFlat_37 g1 (f_X3_findFlat_7 g1 j) x3 (1 : Int32) m
noncomputable def f_X3_findFlat (g1 : Nat) (m : zM) : Option (zM) :=
  f_X3_findFlat_7 g1 zF (0 : Int32) (z_sL m 5 0 1 (0 : Int64))
theorem w_X3_findFlat_37 (d k : Nat) {o : zO} {G : Nat → Nat → zL → List zA → zM → Prop} (g1 : Nat) (hg1 : g1 < zN 6) (R : zRu (d + 3) tX3_findFlat 0 (z_hf []) o G) (c7 : Int32 → zM → Option (zM)) (hc7 : ∀ (x3 : Int32) (m : zM), zLK G (fun a => (.inl none, a) : zM → zO) o (c7 x3 m) some (k + 0) 7 [some (.inr (5, 0)), some (.inr (6, g1)), some (.inr (4, 0)), some (.inl (.int x3)), none] [] m) (x3 : Int32) (s0 : Int32) (m : zM) : zLK G (fun a => (.inl none, a) : zM → zO) o (f_X3_findFlat_37 g1 c7 x3 s0 m) some (k + 0) 37 [some (.inr (5, 0)), some (.inr (6, g1)), some (.inr (4, 0)), some (.inl (.int x3)), none] [.inl (.int s0)] m := by
  unfold f_X3_findFlat_37
  refine zk_st R 2 41 [some (.inr (5, 0)), some (.inr (6, g1)), some (.inr (4, 0)), some (.inl (.int x3)), some (.inl (.int s0))] [.inl (.int s0)] m rfl ⟨trivial, trivial, trivial⟩ ?_
  refine zk_br R rfl (fun _ => ?_) (fun _ => ?_)
  · refine zk_st R 2 46 [some (.inr (5, 0)), some (.inr (6, g1)), some (.inr (4, 0)), some (.inl (.int x3)), some (.inl (.int s0))] [.inl (.int x3), .inr (6, g1)] m rfl ⟨trivial, trivial, trivial⟩ ?_
    refine zk_call R (fun b => some (.inl (.int (z_bi b)))) (fun _ => m) rfl (r_X4_isOutlet hg1) (fun b hb => w_X4_isOutlet (d + 1) 0 g1 hg1 x3 m b hb) (fun r2 => ?_)
    refine zk_br R rfl (fun _ => ?_) (fun _ => ?_)
    · refine zk_st R 10 7 [some (.inr (5, 0)), some (.inr (6, g1)), some (.inr (4, 0)), some (.inl (.int (x3 + (1 : Int32)))), some (.inl (.int s0))] [] (z_sL m 5 0 1 ((m.2.1 5 0 1) ||| (z_shl (1 : Int64) x3))) rfl ⟨trivial, trivial, (Nat.le_of_ble_eq_true rfl), trivial, trivial, trivial, trivial, (Nat.le_of_ble_eq_true rfl), trivial, trivial, trivial⟩ ?_
      refine zk_mask R [true, true, true, true, false] rfl ?_
      exact hc7 (x3 + (1 : Int32)) (z_sL m 5 0 1 ((m.2.1 5 0 1) ||| (z_shl (1 : Int64) x3)))
    · refine zk_st R 2 7 [some (.inr (5, 0)), some (.inr (6, g1)), some (.inr (4, 0)), some (.inl (.int (x3 + (1 : Int32)))), some (.inl (.int s0))] [] m rfl ⟨trivial, trivial, trivial⟩ ?_
      refine zk_mask R [true, true, true, true, false] rfl ?_
      exact hc7 (x3 + (1 : Int32)) m
  · refine zk_st R 2 7 [some (.inr (5, 0)), some (.inr (6, g1)), some (.inr (4, 0)), some (.inl (.int (x3 + (1 : Int32)))), some (.inl (.int s0))] [] m rfl ⟨trivial, trivial, trivial⟩ ?_
    refine zk_mask R [true, true, true, true, false] rfl ?_
    exact hc7 (x3 + (1 : Int32)) m
theorem w_X3_findFlat_7 (d k : Nat) {o : zO} {G : Nat → Nat → zL → List zA → zM → Prop} (g1 : Nat) (hg1 : g1 < zN 6) (R : zRu (d + 3) tX3_findFlat 0 (z_hf []) o G) : ∀ (j : Nat) (x3 : Int32) (m : zM), zLK G (fun a => (.inl none, a) : zM → zO) o (f_X3_findFlat_7 g1 j x3 m) some (k + 0) 7 [some (.inr (5, 0)), some (.inr (6, g1)), some (.inr (4, 0)), some (.inl (.int x3)), none] [] m := by
  intro j
  induction j with
  | zero =>
    intro _ _
    exact zk_none
  | succ j ih =>
    intro x3 m
    unfold f_X3_findFlat_7
    refine zk_st R 3 12 [some (.inr (5, 0)), some (.inr (6, g1)), some (.inr (4, 0)), some (.inl (.int x3)), none] [.inl (.int (m.1 5 0 0)), .inl (.int x3)] m rfl ⟨trivial, trivial, (Nat.le_of_ble_eq_true rfl), trivial⟩ ?_
    refine zk_br R rfl (fun _ => ?_) (fun _ => ?_)
    · exact zk_ret R rfl trivial rfl
    · refine zk_st R 3 18 [some (.inr (5, 0)), some (.inr (6, g1)), some (.inr (4, 0)), some (.inl (.int x3)), none] [.inl (.int x3), .inr (4, 0), .inr (6, g1)] m rfl ⟨trivial, trivial, trivial, trivial⟩ ?_
      refine zk_call R (fun b => some (.inl (.int b))) (fun _ => m) rfl (r_X3_leastLevelAround) (fun b hb => w_X3_leastLevelAround d 0 g1 hg1 x3 m b hb) (fun r2 => ?_)
      refine zk_st R 3 26 [some (.inr (5, 0)), some (.inr (6, g1)), some (.inr (4, 0)), some (.inl (.int x3)), none] [.inl (.int x3), .inr (20, 33), .inl (.int r2)] m rfl ⟨trivial, (Nat.le_of_ble_eq_true rfl), trivial, trivial⟩ ?_
      refine zk_call R (fun b => some (.inl (.int b))) (fun _ => m) rfl (r_X7_at) (fun b hb => w_X7_at_k20 (d + 2) 0 33 (Nat.le_of_ble_eq_true rfl) x3 m b hb) (fun r3 => ?_)
      refine zk_br R rfl (fun _ => ?_) (fun _ => ?_)
      · refine zk_st R 1 37 [some (.inr (5, 0)), some (.inr (6, g1)), some (.inr (4, 0)), some (.inl (.int x3)), none] [.inl (.int (0 : Int32))] m rfl ⟨trivial, trivial⟩ ?_
        refine zk_mask R [true, true, true, true, false] rfl ?_
        exact w_X3_findFlat_37 d k g1 hg1 R (f_X3_findFlat_7 g1 j) ih x3 (0 : Int32) m
      · refine zk_st R 2 37 [some (.inr (5, 0)), some (.inr (6, g1)), some (.inr (4, 0)), some (.inl (.int x3)), none] [.inl (.int (1 : Int32))] m rfl ⟨trivial, trivial, trivial⟩ ?_
        refine zk_mask R [true, true, true, true, false] rfl ?_
        exact w_X3_findFlat_37 d k g1 hg1 R (f_X3_findFlat_7 g1 j) ih x3 (1 : Int32) m
theorem w_X3_findFlat (d k : Nat) (g1 : Nat) (hg1 : g1 < zN 6) (m : zM) (a : zM) (ha : f_X3_findFlat g1 m = some a) : z_Ev z_MT zN zRf (d + 4) (k + 0) 63 [.inr (5, 0), .inr (6, g1), .inr (4, 0)] m ((fun a => (.inl none, a) : zM → zO) a) := by
  refine zk_top (I := (yX3_findFlat, cX3_findFlat, 5, none, [], tX3_findFlat, 5, 2, 5, 0, 0, 0)) (oc := (fun a => (.inl none, a) : zM → zO)) (a := a) rfl (Nat.le_of_ble_eq_true rfl) (fun G R => ?_) ha
  unfold f_X3_findFlat
  refine zk_st R 5 7 [some (.inr (5, 0)), some (.inr (6, g1)), some (.inr (4, 0)), some (.inl (.int (0 : Int32))), none] [] (z_sL m 5 0 1 (0 : Int64)) rfl ⟨trivial, trivial, (Nat.le_of_ble_eq_true rfl), trivial, trivial, trivial⟩ ?_
  refine zk_mask R [true, true, true, true, false] rfl ?_
  exact w_X3_findFlat_7 d k g1 hg1 R zF (0 : Int32) (z_sL m 5 0 1 (0 : Int64))
theorem r_X3_findRanks {i : Nat} {t : List zA} (h : i < zN 5) : z_rcv zN (zKD 65) (.inr (5, i) :: t) := by
  rw [show zKD 65 = 5 from rfl]
  exact ⟨rfl, h⟩
noncomputable def f_X3_findRanks_61 (g1 : Nat) (c45 : Int32 → Int32 → zM → Option (zM)) : Nat → Int32 → Int32 → Int32 → zM → Option (zM)
  | 0, _, _, _, _ => none
  | j + 1, x3, x4, x5, m =>
    if (m.1 5 0 0) ≤ x5 then
      c45 x3 (x4 + (1 : Int32)) m
    else
      Option.bind (f_X7_at 20 36 x5 m) fun r2 =>
      if r2 = (-1 : Int32) then
        Option.bind (f_X3_isNextTo g1 x5 (x4 - (1 : Int32)) m) fun r4 =>
        if (z_bi r4) = 0 then
          f_X3_findRanks_61 g1 c45 j x3 x4 (x5 + (1 : Int32)) m
        else
          Option.bind (f_X7_put 20 36 x5 x4 m) fun r6 =>
          f_X3_findRanks_61 g1 c45 j (1 : Int32) x4 (x5 + (1 : Int32)) r6
      else
        f_X3_findRanks_61 g1 c45 j x3 x4 (x5 + (1 : Int32)) m
noncomputable def f_X3_findRanks_45 (g1 : Nat) : Nat → Int32 → Int32 → zM → Option (zM)
  | 0, _, _, _ => none
  | j + 1, x3, x4, m =>
    if (64 : Int32) ≤ x4 then
      some m
    else
      if x3 = 0 then
        some m
      else
        f_X3_findRanks_61 g1 (f_X3_findRanks_45 g1 j) zF (0 : Int32) x4 (0 : Int32) m
noncomputable def f_X3_findRanks_31 (g1 : Nat) (c2 : Int32 → zM → Option (zM)) (x3 : Int32) (s1 : Int32) (s2 : Int32) (m : zM) : Option (zM) :=
  Option.bind (f_X7_put 20 36 s1 s2 m) fun r1 =>
  c2 (x3 + (1 : Int32)) r1
noncomputable def f_X3_findRanks_2 (g1 : Nat) : Nat → Int32 → zM → Option (zM)
  | 0, _, _ => none
  | j + 1, x3, m =>
    if (m.1 5 0 0) ≤ x3 then
      f_X3_findRanks_45 g1 zF (1 : Int32) (1 : Int32) m
    else
      Option.bind (f_X7_has (m.2.1 5 0 1) x3 m) fun r2 =>
      if (z_bi r2) = 0 then
        f_X3_findRanks_31 g1 (f_X3_findRanks_2 g1 j) x3 x3 (0 : Int32) m
      else
        f_X3_findRanks_31 g1 (f_X3_findRanks_2 g1 j) x3 x3 (-1 : Int32) m
noncomputable def f_X3_findRanks (g1 : Nat) (m : zM) : Option (zM) :=
  f_X3_findRanks_2 g1 zF (0 : Int32) m
theorem w_X3_findRanks_61 (d k : Nat) {o : zO} {G : Nat → Nat → zL → List zA → zM → Prop} (g1 : Nat) (hg1 : g1 < zN 6) (R : zRu (d + 3) tX3_findRanks 0 (z_hf []) o G) (c45 : Int32 → Int32 → zM → Option (zM)) (hc45 : ∀ (x3 : Int32) (x4 : Int32) (m : zM), zLK G (fun a => (.inl none, a) : zM → zO) o (c45 x3 x4 m) some (k + 0) 45 [some (.inr (5, 0)), some (.inr (6, g1)), some (.inr (4, 0)), some (.inl (.int x3)), some (.inl (.int x4)), none] [] m) : ∀ (j : Nat) (x3 : Int32) (x4 : Int32) (x5 : Int32) (m : zM), zLK G (fun a => (.inl none, a) : zM → zO) o (f_X3_findRanks_61 g1 c45 j x3 x4 x5 m) some (k + 0) 61 [some (.inr (5, 0)), some (.inr (6, g1)), some (.inr (4, 0)), some (.inl (.int x3)), some (.inl (.int x4)), some (.inl (.int x5))] [] m := by
  intro j
  induction j with
  | zero =>
    intro _ _ _ _
    exact zk_none
  | succ j ih =>
    intro x3 x4 x5 m
    unfold f_X3_findRanks_61
    refine zk_st R 3 67 [some (.inr (5, 0)), some (.inr (6, g1)), some (.inr (4, 0)), some (.inl (.int x3)), some (.inl (.int x4)), some (.inl (.int x5))] [.inl (.int (m.1 5 0 0)), .inl (.int x5)] m rfl ⟨trivial, trivial, (Nat.le_of_ble_eq_true rfl), trivial⟩ ?_
    refine zk_br R rfl (fun _ => ?_) (fun _ => ?_)
    · refine zk_st R 2 45 [some (.inr (5, 0)), some (.inr (6, g1)), some (.inr (4, 0)), some (.inl (.int x3)), some (.inl (.int (x4 + (1 : Int32)))), some (.inl (.int x5))] [] m rfl ⟨trivial, trivial, trivial⟩ ?_
      refine zk_mask R [true, true, true, true, true, false] rfl ?_
      exact hc45 x3 (x4 + (1 : Int32)) m
    · refine zk_st R 3 76 [some (.inr (5, 0)), some (.inr (6, g1)), some (.inr (4, 0)), some (.inl (.int x3)), some (.inl (.int x4)), some (.inl (.int x5))] [.inl (.int x5), .inr (20, 36)] m rfl ⟨trivial, (Nat.le_of_ble_eq_true rfl), trivial, trivial⟩ ?_
      refine zk_call R (fun b => some (.inl (.int b))) (fun _ => m) rfl (r_X7_at) (fun b hb => w_X7_at_k20 (d + 2) 0 36 (Nat.le_of_ble_eq_true rfl) x5 m b hb) (fun r2 => ?_)
      refine zk_st R 1 80 [some (.inr (5, 0)), some (.inr (6, g1)), some (.inr (4, 0)), some (.inl (.int x3)), some (.inl (.int x4)), some (.inl (.int x5))] [.inl (.int (-1 : Int32)), .inl (.int r2)] m rfl ⟨trivial, trivial⟩ ?_
      refine zk_br R rfl (fun _ => ?_) (fun _ => ?_)
      · refine zk_st R 7 92 [some (.inr (5, 0)), some (.inr (6, g1)), some (.inr (4, 0)), some (.inl (.int x3)), some (.inl (.int x4)), some (.inl (.int x5))] [.inl (.int (x4 - (1 : Int32))), .inl (.int x5), .inr (4, 0), .inr (6, g1), .inr (5, 0)] m rfl ⟨trivial, trivial, trivial, trivial, trivial, trivial, trivial, trivial⟩ ?_
        refine zk_call R (fun b => some (.inl (.int (z_bi b)))) (fun _ => m) rfl (r_X3_isNextTo (Nat.le_of_ble_eq_true rfl)) (fun b hb => w_X3_isNextTo d 0 g1 hg1 x5 (x4 - (1 : Int32)) m b hb) (fun r4 => ?_)
        refine zk_br R rfl (fun _ => ?_) (fun _ => ?_)
        · refine zk_st R 2 61 [some (.inr (5, 0)), some (.inr (6, g1)), some (.inr (4, 0)), some (.inl (.int x3)), some (.inl (.int x4)), some (.inl (.int (x5 + (1 : Int32))))] [] m rfl ⟨trivial, trivial, trivial⟩ ?_
          refine zk_mask R [true, true, true, true, true, true] rfl ?_
          exact ih x3 x4 (x5 + (1 : Int32)) m
        · refine zk_st R 4 106 [some (.inr (5, 0)), some (.inr (6, g1)), some (.inr (4, 0)), some (.inl (.int x3)), some (.inl (.int x4)), some (.inl (.int x5))] [.inl (.int x4), .inl (.int x5), .inr (20, 36)] m rfl ⟨trivial, (Nat.le_of_ble_eq_true rfl), trivial, trivial, trivial⟩ ?_
          refine zk_call R (fun _ => none) id rfl (r_X7_put) (fun b hb => w_X7_put_k20 (d + 2) 0 36 (Nat.le_of_ble_eq_true rfl) x5 x4 m b hb) (fun r6 => ?_)
          refine zk_st R 4 61 [some (.inr (5, 0)), some (.inr (6, g1)), some (.inr (4, 0)), some (.inl (.int (1 : Int32))), some (.inl (.int x4)), some (.inl (.int (x5 + (1 : Int32))))] [] r6 rfl ⟨trivial, trivial, trivial, trivial, trivial⟩ ?_
          refine zk_mask R [true, true, true, true, true, true] rfl ?_
          exact ih (1 : Int32) x4 (x5 + (1 : Int32)) r6
      · refine zk_st R 2 61 [some (.inr (5, 0)), some (.inr (6, g1)), some (.inr (4, 0)), some (.inl (.int x3)), some (.inl (.int x4)), some (.inl (.int (x5 + (1 : Int32))))] [] m rfl ⟨trivial, trivial, trivial⟩ ?_
        refine zk_mask R [true, true, true, true, true, true] rfl ?_
        exact ih x3 x4 (x5 + (1 : Int32)) m
theorem w_X3_findRanks_45 (d k : Nat) {o : zO} {G : Nat → Nat → zL → List zA → zM → Prop} (g1 : Nat) (hg1 : g1 < zN 6) (R : zRu (d + 3) tX3_findRanks 0 (z_hf []) o G) : ∀ (j : Nat) (x3 : Int32) (x4 : Int32) (m : zM), zLK G (fun a => (.inl none, a) : zM → zO) o (f_X3_findRanks_45 g1 j x3 x4 m) some (k + 0) 45 [some (.inr (5, 0)), some (.inr (6, g1)), some (.inr (4, 0)), some (.inl (.int x3)), some (.inl (.int x4)), none] [] m := by
  intro j
  induction j with
  | zero =>
    intro _ _ _
    exact zk_none
  | succ j ih =>
    intro x3 x4 m
    unfold f_X3_findRanks_45
    refine zk_st R 2 49 [some (.inr (5, 0)), some (.inr (6, g1)), some (.inr (4, 0)), some (.inl (.int x3)), some (.inl (.int x4)), none] [.inl (.int (64 : Int32)), .inl (.int x4)] m rfl ⟨trivial, trivial, trivial⟩ ?_
    refine zk_br R rfl (fun _ => ?_) (fun _ => ?_)
    · exact zk_ret R rfl trivial rfl
    · refine zk_st R 1 53 [some (.inr (5, 0)), some (.inr (6, g1)), some (.inr (4, 0)), some (.inl (.int x3)), some (.inl (.int x4)), none] [.inl (.int x3)] m rfl ⟨trivial, trivial⟩ ?_
      refine zk_br R rfl (fun _ => ?_) (fun _ => ?_)
      · exact zk_ret R rfl trivial rfl
      · refine zk_st R 4 61 [some (.inr (5, 0)), some (.inr (6, g1)), some (.inr (4, 0)), some (.inl (.int (0 : Int32))), some (.inl (.int x4)), some (.inl (.int (0 : Int32)))] [] m rfl ⟨trivial, trivial, trivial, trivial, trivial⟩ ?_
        refine zk_mask R [true, true, true, true, true, true] rfl ?_
        exact w_X3_findRanks_61 d k g1 hg1 R (f_X3_findRanks_45 g1 j) ih zF (0 : Int32) x4 (0 : Int32) m
theorem w_X3_findRanks_31 (d k : Nat) {o : zO} {G : Nat → Nat → zL → List zA → zM → Prop} (g1 : Nat) (hg1 : g1 < zN 6) (R : zRu (d + 3) tX3_findRanks 0 (z_hf []) o G) (c2 : Int32 → zM → Option (zM)) (hc2 : ∀ (x3 : Int32) (m : zM), zLK G (fun a => (.inl none, a) : zM → zO) o (c2 x3 m) some (k + 0) 2 [some (.inr (5, 0)), some (.inr (6, g1)), some (.inr (4, 0)), some (.inl (.int x3)), none, none] [] m) (x3 : Int32) (s1 : Int32) (s2 : Int32) (m : zM) : zLK G (fun a => (.inl none, a) : zM → zO) o (f_X3_findRanks_31 g1 c2 x3 s1 s2 m) some (k + 0) 31 [some (.inr (5, 0)), some (.inr (6, g1)), some (.inr (4, 0)), some (.inl (.int x3)), none, none] [.inl (.int s2), .inl (.int s1), .inr (20, 36)] m := by
  unfold f_X3_findRanks_31
  refine zk_call R (fun _ => none) id rfl (r_X7_put) (fun b hb => w_X7_put_k20 (d + 2) 0 36 (Nat.le_of_ble_eq_true rfl) s1 s2 m b hb) (fun r1 => ?_)
  refine zk_st R 2 2 [some (.inr (5, 0)), some (.inr (6, g1)), some (.inr (4, 0)), some (.inl (.int (x3 + (1 : Int32)))), none, none] [] r1 rfl ⟨trivial, trivial, trivial⟩ ?_
  refine zk_mask R [true, true, true, true, false, false] rfl ?_
  exact hc2 (x3 + (1 : Int32)) r1
theorem w_X3_findRanks_2 (d k : Nat) {o : zO} {G : Nat → Nat → zL → List zA → zM → Prop} (g1 : Nat) (hg1 : g1 < zN 6) (R : zRu (d + 3) tX3_findRanks 0 (z_hf []) o G) : ∀ (j : Nat) (x3 : Int32) (m : zM), zLK G (fun a => (.inl none, a) : zM → zO) o (f_X3_findRanks_2 g1 j x3 m) some (k + 0) 2 [some (.inr (5, 0)), some (.inr (6, g1)), some (.inr (4, 0)), some (.inl (.int x3)), none, none] [] m := by
  intro j
  induction j with
  | zero =>
    intro _ _
    exact zk_none
  | succ j ih =>
    intro x3 m
    unfold f_X3_findRanks_2
    refine zk_st R 3 7 [some (.inr (5, 0)), some (.inr (6, g1)), some (.inr (4, 0)), some (.inl (.int x3)), none, none] [.inl (.int (m.1 5 0 0)), .inl (.int x3)] m rfl ⟨trivial, trivial, (Nat.le_of_ble_eq_true rfl), trivial⟩ ?_
    refine zk_br R rfl (fun _ => ?_) (fun _ => ?_)
    · refine zk_st R 4 45 [some (.inr (5, 0)), some (.inr (6, g1)), some (.inr (4, 0)), some (.inl (.int (1 : Int32))), some (.inl (.int (1 : Int32))), none] [] m rfl ⟨trivial, trivial, trivial, trivial, trivial⟩ ?_
      refine zk_mask R [true, true, true, true, true, false] rfl ?_
      exact w_X3_findRanks_45 d k g1 hg1 R zF (1 : Int32) (1 : Int32) m
    · refine zk_st R 6 20 [some (.inr (5, 0)), some (.inr (6, g1)), some (.inr (4, 0)), some (.inl (.int x3)), none, none] [.inl (.int x3), .inl (.long (m.2.1 5 0 1)), .inl (.int x3), .inr (20, 36)] m rfl ⟨trivial, (Nat.le_of_ble_eq_true rfl), trivial, trivial, (Nat.le_of_ble_eq_true rfl), trivial, trivial⟩ ?_
      refine zk_call R (fun b => some (.inl (.int (z_bi b)))) (fun _ => m) rfl (r_X7_has) (fun b hb => w_X7_has (d + 2) 0 (m.2.1 5 0 1) x3 m b hb) (fun r2 => ?_)
      refine zk_br R rfl (fun _ => ?_) (fun _ => ?_)
      · refine zk_st R 1 31 [some (.inr (5, 0)), some (.inr (6, g1)), some (.inr (4, 0)), some (.inl (.int x3)), none, none] [.inl (.int (0 : Int32)), .inl (.int x3), .inr (20, 36)] m rfl ⟨trivial, trivial⟩ ?_
        refine zk_mask R [true, true, true, true, false, false] rfl ?_
        exact w_X3_findRanks_31 d k g1 hg1 R (f_X3_findRanks_2 g1 j) ih x3 x3 (0 : Int32) m
      · refine zk_st R 2 31 [some (.inr (5, 0)), some (.inr (6, g1)), some (.inr (4, 0)), some (.inl (.int x3)), none, none] [.inl (.int (-1 : Int32)), .inl (.int x3), .inr (20, 36)] m rfl ⟨trivial, trivial, trivial⟩ ?_
        refine zk_mask R [true, true, true, true, false, false] rfl ?_
        exact w_X3_findRanks_31 d k g1 hg1 R (f_X3_findRanks_2 g1 j) ih x3 x3 (-1 : Int32) m
theorem w_X3_findRanks (d k : Nat) (g1 : Nat) (hg1 : g1 < zN 6) (m : zM) (a : zM) (ha : f_X3_findRanks g1 m = some a) : z_Ev z_MT zN zRf (d + 4) (k + 0) 65 [.inr (5, 0), .inr (6, g1), .inr (4, 0)] m ((fun a => (.inl none, a) : zM → zO) a) := by
  refine zk_top (I := (yX3_findRanks, cX3_findRanks, 6, none, [], tX3_findRanks, 5, 2, 5, 0, 0, 0)) (oc := (fun a => (.inl none, a) : zM → zO)) (a := a) rfl (Nat.le_of_ble_eq_true rfl) (fun G R => ?_) ha
  unfold f_X3_findRanks
  refine zk_st R 2 2 [some (.inr (5, 0)), some (.inr (6, g1)), some (.inr (4, 0)), some (.inl (.int (0 : Int32))), none, none] [] m rfl ⟨trivial, trivial, trivial⟩ ?_
  refine zk_mask R [true, true, true, true, false, false] rfl ?_
  exact w_X3_findRanks_2 d k g1 hg1 R zF (0 : Int32) m
theorem r_X3_choose {i : Nat} {t : List zA} (h : i < zN 5) : z_rcv zN (zKD 68) (.inr (5, i) :: t) := by
  rw [show zKD 68 = 5 from rfl]
  exact ⟨rfl, h⟩
noncomputable def f_X3_choose_118 (g1 : Nat) (c47 : Int32 → Int32 → Int32 → zM → Option (zM)) (x3 : Int32) (x4 : Int32) (x5 : Int32) (x6 : Int32) (s0 : Int32) (m : zM) : Option (zM) :=
  if s0 = 0 then
    c47 x3 x4 (x5 + (-1 : Int32)) m
  else
    Option.bind (f_X7_put 20 37 x3 x5 m) fun r2 =>
    Option.bind (f_X7_add 20 38 x3 (1 : Int32) r2) fun r3 =>
    Option.bind (f_X7_put 20 39 x3 x6 r3) fun r4 =>
    c47 x3 x4 (x5 + (-1 : Int32)) r4
noncomputable def f_X3_choose_117 (g1 : Nat) (c47 : Int32 → Int32 → Int32 → zM → Option (zM)) (x3 : Int32) (x4 : Int32) (x5 : Int32) (x6 : Int32) (m : zM) : Option (zM) :=
  f_X3_choose_118 g1 c47 x3 x4 x5 x6 (0 : Int32) m
noncomputable def f_X3_choose_47 (g1 : Nat) : Nat → Int32 → Int32 → Int32 → zM → Option (zM)
  | 0, _, _, _, _ => none
  | j + 1, x3, x4, x5, m =>
    if x5 < 0 then
      some m
    else
      Option.bind (f_X4_neighbor g1 x3 x5 m) fun r2 =>
      Option.bind (f_X7_has (m.2.1 5 0 1) x3 m) fun r3 =>
      if (z_bi r3) = 0 then
        if r2 = (-1 : Int32) then
          f_X3_choose_117 g1 (f_X3_choose_47 g1 j) x3 x4 x5 r2 m
        else
          Option.bind (f_X7_at 20 33 r2 m) fun r6 =>
          if r6 = x4 then
            f_X3_choose_118 g1 (f_X3_choose_47 g1 j) x3 x4 x5 r2 (1 : Int32) m
          else
            f_X3_choose_117 g1 (f_X3_choose_47 g1 j) x3 x4 x5 r2 m
      else
        Option.bind (f_X7_at 20 36 x3 m) fun r8 =>
        Option.bind (f_X3_isOnLevel x3 r2 (r8 - (1 : Int32)) m) fun r9 =>
        f_X3_choose_118 g1 (f_X3_choose_47 g1 j) x3 x4 x5 r2 (z_bi r9) m
noncomputable def f_X3_choose (g1 : Nat) (x3 : Int32) (m : zM) : Option (zM) :=
  Option.bind (f_X7_put 20 37 x3 (-1 : Int32) m) fun r1 =>
  Option.bind (f_X7_put 20 38 x3 (0 : Int32) r1) fun r2 =>
  Option.bind (f_X7_put 20 39 x3 (-1 : Int32) r2) fun r3 =>
  Option.bind (f_X4_isOutlet g1 x3 r3) fun r4 =>
  if (z_bi r4) = 0 then
    Option.bind (f_X3_leastLevelAround g1 x3 r3) fun r6 =>
    f_X3_choose_47 g1 zF x3 r6 (3 : Int32) r3
  else
    some r3
theorem w_X3_choose_118 (d k : Nat) {o : zO} {G : Nat → Nat → zL → List zA → zM → Prop} (g1 : Nat) (hg1 : g1 < zN 6) (R : zRu (d + 3) tX3_choose 0 (z_hf []) o G) (c47 : Int32 → Int32 → Int32 → zM → Option (zM)) (hc47 : ∀ (x3 : Int32) (x4 : Int32) (x5 : Int32) (m : zM), zLK G (fun a => (.inl none, a) : zM → zO) o (c47 x3 x4 x5 m) some (k + 0) 47 [some (.inr (5, 0)), some (.inr (6, g1)), some (.inr (4, 0)), some (.inl (.int x3)), some (.inl (.int x4)), some (.inl (.int x5)), none, none] [] m) (x3 : Int32) (x4 : Int32) (x5 : Int32) (x6 : Int32) (s0 : Int32) (m : zM) : zLK G (fun a => (.inl none, a) : zM → zO) o (f_X3_choose_118 g1 c47 x3 x4 x5 x6 s0 m) some (k + 0) 118 [some (.inr (5, 0)), some (.inr (6, g1)), some (.inr (4, 0)), some (.inl (.int x3)), some (.inl (.int x4)), some (.inl (.int x5)), some (.inl (.int x6)), none] [.inl (.int s0)] m := by
  unfold f_X3_choose_118
  refine zk_st R 2 122 [some (.inr (5, 0)), some (.inr (6, g1)), some (.inr (4, 0)), some (.inl (.int x3)), some (.inl (.int x4)), some (.inl (.int x5)), some (.inl (.int x6)), some (.inl (.int s0))] [.inl (.int s0)] m rfl ⟨trivial, trivial, trivial⟩ ?_
  refine zk_br R rfl (fun _ => ?_) (fun _ => ?_)
  · refine zk_st R 2 47 [some (.inr (5, 0)), some (.inr (6, g1)), some (.inr (4, 0)), some (.inl (.int x3)), some (.inl (.int x4)), some (.inl (.int (x5 + (-1 : Int32)))), some (.inl (.int x6)), some (.inl (.int s0))] [] m rfl ⟨trivial, trivial, trivial⟩ ?_
    refine zk_mask R [true, true, true, true, true, true, false, false] rfl ?_
    exact hc47 x3 x4 (x5 + (-1 : Int32)) m
  · refine zk_st R 4 132 [some (.inr (5, 0)), some (.inr (6, g1)), some (.inr (4, 0)), some (.inl (.int x3)), some (.inl (.int x4)), some (.inl (.int x5)), some (.inl (.int x6)), some (.inl (.int s0))] [.inl (.int x5), .inl (.int x3), .inr (20, 37)] m rfl ⟨trivial, (Nat.le_of_ble_eq_true rfl), trivial, trivial, trivial⟩ ?_
    refine zk_call R (fun _ => none) id rfl (r_X7_put) (fun b hb => w_X7_put_k20 (d + 2) 0 37 (Nat.le_of_ble_eq_true rfl) x3 x5 m b hb) (fun r2 => ?_)
    refine zk_st R 4 141 [some (.inr (5, 0)), some (.inr (6, g1)), some (.inr (4, 0)), some (.inl (.int x3)), some (.inl (.int x4)), some (.inl (.int x5)), some (.inl (.int x6)), some (.inl (.int s0))] [.inl (.int (1 : Int32)), .inl (.int x3), .inr (20, 38)] r2 rfl ⟨trivial, (Nat.le_of_ble_eq_true rfl), trivial, trivial, trivial⟩ ?_
    refine zk_call R (fun _ => none) id rfl (r_X7_add) (fun b hb => w_X7_add_k20 (d + 2) 0 38 (Nat.le_of_ble_eq_true rfl) x3 (1 : Int32) r2 b hb) (fun r3 => ?_)
    refine zk_st R 4 151 [some (.inr (5, 0)), some (.inr (6, g1)), some (.inr (4, 0)), some (.inl (.int x3)), some (.inl (.int x4)), some (.inl (.int x5)), some (.inl (.int x6)), some (.inl (.int s0))] [.inl (.int x6), .inl (.int x3), .inr (20, 39)] r3 rfl ⟨trivial, (Nat.le_of_ble_eq_true rfl), trivial, trivial, trivial⟩ ?_
    refine zk_call R (fun _ => none) id rfl (r_X7_put) (fun b hb => w_X7_put_k20 (d + 2) 0 39 (Nat.le_of_ble_eq_true rfl) x3 x6 r3 b hb) (fun r4 => ?_)
    refine zk_st R 2 47 [some (.inr (5, 0)), some (.inr (6, g1)), some (.inr (4, 0)), some (.inl (.int x3)), some (.inl (.int x4)), some (.inl (.int (x5 + (-1 : Int32)))), some (.inl (.int x6)), some (.inl (.int s0))] [] r4 rfl ⟨trivial, trivial, trivial⟩ ?_
    refine zk_mask R [true, true, true, true, true, true, false, false] rfl ?_
    exact hc47 x3 x4 (x5 + (-1 : Int32)) r4
theorem w_X3_choose_117 (d k : Nat) {o : zO} {G : Nat → Nat → zL → List zA → zM → Prop} (g1 : Nat) (hg1 : g1 < zN 6) (R : zRu (d + 3) tX3_choose 0 (z_hf []) o G) (c47 : Int32 → Int32 → Int32 → zM → Option (zM)) (hc47 : ∀ (x3 : Int32) (x4 : Int32) (x5 : Int32) (m : zM), zLK G (fun a => (.inl none, a) : zM → zO) o (c47 x3 x4 x5 m) some (k + 0) 47 [some (.inr (5, 0)), some (.inr (6, g1)), some (.inr (4, 0)), some (.inl (.int x3)), some (.inl (.int x4)), some (.inl (.int x5)), none, none] [] m) (x3 : Int32) (x4 : Int32) (x5 : Int32) (x6 : Int32) (m : zM) : zLK G (fun a => (.inl none, a) : zM → zO) o (f_X3_choose_117 g1 c47 x3 x4 x5 x6 m) some (k + 0) 117 [some (.inr (5, 0)), some (.inr (6, g1)), some (.inr (4, 0)), some (.inl (.int x3)), some (.inl (.int x4)), some (.inl (.int x5)), some (.inl (.int x6)), none] [] m := by
  unfold f_X3_choose_117
  refine zk_st R 1 118 [some (.inr (5, 0)), some (.inr (6, g1)), some (.inr (4, 0)), some (.inl (.int x3)), some (.inl (.int x4)), some (.inl (.int x5)), some (.inl (.int x6)), none] [.inl (.int (0 : Int32))] m rfl ⟨trivial, trivial⟩ ?_
  refine zk_mask R [true, true, true, true, true, true, true, false] rfl ?_
  exact w_X3_choose_118 d k g1 hg1 R c47 hc47 x3 x4 x5 x6 (0 : Int32) m
theorem w_X3_choose_47 (d k : Nat) {o : zO} {G : Nat → Nat → zL → List zA → zM → Prop} (g1 : Nat) (hg1 : g1 < zN 6) (R : zRu (d + 3) tX3_choose 0 (z_hf []) o G) : ∀ (j : Nat) (x3 : Int32) (x4 : Int32) (x5 : Int32) (m : zM), zLK G (fun a => (.inl none, a) : zM → zO) o (f_X3_choose_47 g1 j x3 x4 x5 m) some (k + 0) 47 [some (.inr (5, 0)), some (.inr (6, g1)), some (.inr (4, 0)), some (.inl (.int x3)), some (.inl (.int x4)), some (.inl (.int x5)), none, none] [] m := by
  intro j
  induction j with
  | zero =>
    intro _ _ _ _
    exact zk_none
  | succ j ih =>
    intro x3 x4 x5 m
    unfold f_X3_choose_47
    refine zk_st R 1 49 [some (.inr (5, 0)), some (.inr (6, g1)), some (.inr (4, 0)), some (.inl (.int x3)), some (.inl (.int x4)), some (.inl (.int x5)), none, none] [.inl (.int x5)] m rfl ⟨trivial, trivial⟩ ?_
    refine zk_br R rfl (fun _ => ?_) (fun _ => ?_)
    · exact zk_ret R rfl trivial rfl
    · refine zk_st R 3 56 [some (.inr (5, 0)), some (.inr (6, g1)), some (.inr (4, 0)), some (.inl (.int x3)), some (.inl (.int x4)), some (.inl (.int x5)), none, none] [.inl (.int x5), .inl (.int x3), .inr (6, g1)] m rfl ⟨trivial, trivial, trivial, trivial⟩ ?_
      refine zk_call R (fun b => some (.inl (.int b))) (fun _ => m) rfl (r_X4_neighbor hg1) (fun b hb => w_X4_neighbor (d + 1) 0 g1 hg1 x3 x5 m b hb) (fun r2 => ?_)
      refine zk_st R 4 66 [some (.inr (5, 0)), some (.inr (6, g1)), some (.inr (4, 0)), some (.inl (.int x3)), some (.inl (.int x4)), some (.inl (.int x5)), some (.inl (.int r2)), none] [.inl (.int x3), .inl (.long (m.2.1 5 0 1))] m rfl ⟨trivial, trivial, (Nat.le_of_ble_eq_true rfl), trivial, trivial⟩ ?_
      refine zk_call R (fun b => some (.inl (.int (z_bi b)))) (fun _ => m) rfl (r_X7_has) (fun b hb => w_X7_has (d + 2) 0 (m.2.1 5 0 1) x3 m b hb) (fun r3 => ?_)
      refine zk_br R rfl (fun _ => ?_) (fun _ => ?_)
      · refine zk_st R 2 96 [some (.inr (5, 0)), some (.inr (6, g1)), some (.inr (4, 0)), some (.inl (.int x3)), some (.inl (.int x4)), some (.inl (.int x5)), some (.inl (.int r2)), none] [.inl (.int (-1 : Int32)), .inl (.int r2)] m rfl ⟨trivial, trivial, trivial⟩ ?_
        refine zk_br R rfl (fun _ => ?_) (fun _ => ?_)
        · refine zk_mask R [true, true, true, true, true, true, true, false] rfl ?_
          exact w_X3_choose_117 d k g1 hg1 R (f_X3_choose_47 g1 j) ih x3 x4 x5 r2 m
        · refine zk_st R 3 105 [some (.inr (5, 0)), some (.inr (6, g1)), some (.inr (4, 0)), some (.inl (.int x3)), some (.inl (.int x4)), some (.inl (.int x5)), some (.inl (.int r2)), none] [.inl (.int r2), .inr (20, 33)] m rfl ⟨trivial, (Nat.le_of_ble_eq_true rfl), trivial, trivial⟩ ?_
          refine zk_call R (fun b => some (.inl (.int b))) (fun _ => m) rfl (r_X7_at) (fun b hb => w_X7_at_k20 (d + 2) 0 33 (Nat.le_of_ble_eq_true rfl) r2 m b hb) (fun r6 => ?_)
          refine zk_st R 1 110 [some (.inr (5, 0)), some (.inr (6, g1)), some (.inr (4, 0)), some (.inl (.int x3)), some (.inl (.int x4)), some (.inl (.int x5)), some (.inl (.int r2)), none] [.inl (.int x4), .inl (.int r6)] m rfl ⟨trivial, trivial⟩ ?_
          refine zk_br R rfl (fun _ => ?_) (fun _ => ?_)
          · refine zk_st R 2 118 [some (.inr (5, 0)), some (.inr (6, g1)), some (.inr (4, 0)), some (.inl (.int x3)), some (.inl (.int x4)), some (.inl (.int x5)), some (.inl (.int r2)), none] [.inl (.int (1 : Int32))] m rfl ⟨trivial, trivial, trivial⟩ ?_
            refine zk_mask R [true, true, true, true, true, true, true, false] rfl ?_
            exact w_X3_choose_118 d k g1 hg1 R (f_X3_choose_47 g1 j) ih x3 x4 x5 r2 (1 : Int32) m
          · refine zk_mask R [true, true, true, true, true, true, true, false] rfl ?_
            exact w_X3_choose_117 d k g1 hg1 R (f_X3_choose_47 g1 j) ih x3 x4 x5 r2 m
      · refine zk_st R 7 82 [some (.inr (5, 0)), some (.inr (6, g1)), some (.inr (4, 0)), some (.inl (.int x3)), some (.inl (.int x4)), some (.inl (.int x5)), some (.inl (.int r2)), none] [.inl (.int x3), .inr (20, 36), .inl (.int r2), .inl (.int x3), .inr (4, 0), .inr (5, 0)] m rfl ⟨trivial, trivial, trivial, trivial, trivial, (Nat.le_of_ble_eq_true rfl), trivial, trivial⟩ ?_
        refine zk_call R (fun b => some (.inl (.int b))) (fun _ => m) rfl (r_X7_at) (fun b hb => w_X7_at_k20 (d + 2) 0 36 (Nat.le_of_ble_eq_true rfl) x3 m b hb) (fun r8 => ?_)
        refine zk_st R 2 87 [some (.inr (5, 0)), some (.inr (6, g1)), some (.inr (4, 0)), some (.inl (.int x3)), some (.inl (.int x4)), some (.inl (.int x5)), some (.inl (.int r2)), none] [.inl (.int (r8 - (1 : Int32))), .inl (.int r2), .inl (.int x3), .inr (4, 0), .inr (5, 0)] m rfl ⟨trivial, trivial, trivial⟩ ?_
        refine zk_call R (fun b => some (.inl (.int (z_bi b)))) (fun _ => m) rfl (r_X3_isOnLevel (Nat.le_of_ble_eq_true rfl)) (fun b hb => w_X3_isOnLevel (d + 1) 0 x3 r2 (r8 - (1 : Int32)) m b hb) (fun r9 => ?_)
        refine zk_st R 1 118 [some (.inr (5, 0)), some (.inr (6, g1)), some (.inr (4, 0)), some (.inl (.int x3)), some (.inl (.int x4)), some (.inl (.int x5)), some (.inl (.int r2)), none] [.inl (.int (z_bi r9))] m rfl ⟨trivial, trivial⟩ ?_
        refine zk_mask R [true, true, true, true, true, true, true, false] rfl ?_
        exact w_X3_choose_118 d k g1 hg1 R (f_X3_choose_47 g1 j) ih x3 x4 x5 r2 (z_bi r9) m
theorem w_X3_choose (d k : Nat) (g1 : Nat) (hg1 : g1 < zN 6) (x3 : Int32) (m : zM) (a : zM) (ha : f_X3_choose g1 x3 m = some a) : z_Ev z_MT zN zRf (d + 4) (k + 0) 68 [.inr (5, 0), .inr (6, g1), .inr (4, 0), .inl (.int x3)] m ((fun a => (.inl none, a) : zM → zO) a) := by
  refine zk_top (I := (yX3_choose, cX3_choose, 8, none, [], tX3_choose, 5, 3, 5, 0, 0, 0)) (oc := (fun a => (.inl none, a) : zM → zO)) (a := a) rfl (Nat.le_of_ble_eq_true rfl) (fun G R => ?_) ha
  unfold f_X3_choose
  refine zk_st R 4 6 [some (.inr (5, 0)), some (.inr (6, g1)), some (.inr (4, 0)), some (.inl (.int x3)), none, none, none, none] [.inl (.int (-1 : Int32)), .inl (.int x3), .inr (20, 37)] m rfl ⟨trivial, (Nat.le_of_ble_eq_true rfl), trivial, trivial, trivial⟩ ?_
  refine zk_call R (fun _ => none) id rfl (r_X7_put) (fun b hb => w_X7_put_k20 (d + 2) 0 37 (Nat.le_of_ble_eq_true rfl) x3 (-1 : Int32) m b hb) (fun r1 => ?_)
  refine zk_st R 4 15 [some (.inr (5, 0)), some (.inr (6, g1)), some (.inr (4, 0)), some (.inl (.int x3)), none, none, none, none] [.inl (.int (0 : Int32)), .inl (.int x3), .inr (20, 38)] r1 rfl ⟨trivial, (Nat.le_of_ble_eq_true rfl), trivial, trivial, trivial⟩ ?_
  refine zk_call R (fun _ => none) id rfl (r_X7_put) (fun b hb => w_X7_put_k20 (d + 2) 0 38 (Nat.le_of_ble_eq_true rfl) x3 (0 : Int32) r1 b hb) (fun r2 => ?_)
  refine zk_st R 4 24 [some (.inr (5, 0)), some (.inr (6, g1)), some (.inr (4, 0)), some (.inl (.int x3)), none, none, none, none] [.inl (.int (-1 : Int32)), .inl (.int x3), .inr (20, 39)] r2 rfl ⟨trivial, (Nat.le_of_ble_eq_true rfl), trivial, trivial, trivial⟩ ?_
  refine zk_call R (fun _ => none) id rfl (r_X7_put) (fun b hb => w_X7_put_k20 (d + 2) 0 39 (Nat.le_of_ble_eq_true rfl) x3 (-1 : Int32) r2 b hb) (fun r3 => ?_)
  refine zk_st R 2 29 [some (.inr (5, 0)), some (.inr (6, g1)), some (.inr (4, 0)), some (.inl (.int x3)), none, none, none, none] [.inl (.int x3), .inr (6, g1)] r3 rfl ⟨trivial, trivial, trivial⟩ ?_
  refine zk_call R (fun b => some (.inl (.int (z_bi b)))) (fun _ => r3) rfl (r_X4_isOutlet hg1) (fun b hb => w_X4_isOutlet (d + 1) 0 g1 hg1 x3 r3 b hb) (fun r4 => ?_)
  refine zk_br R rfl (fun _ => ?_) (fun _ => ?_)
  · refine zk_st R 3 39 [some (.inr (5, 0)), some (.inr (6, g1)), some (.inr (4, 0)), some (.inl (.int x3)), none, none, none, none] [.inl (.int x3), .inr (4, 0), .inr (6, g1)] r3 rfl ⟨trivial, trivial, trivial, trivial⟩ ?_
    refine zk_call R (fun b => some (.inl (.int b))) (fun _ => r3) rfl (r_X3_leastLevelAround) (fun b hb => w_X3_leastLevelAround d 0 g1 hg1 x3 r3 b hb) (fun r6 => ?_)
    refine zk_st R 3 47 [some (.inr (5, 0)), some (.inr (6, g1)), some (.inr (4, 0)), some (.inl (.int x3)), some (.inl (.int r6)), some (.inl (.int (3 : Int32))), none, none] [] r3 rfl ⟨trivial, trivial, trivial, trivial⟩ ?_
    refine zk_mask R [true, true, true, true, true, true, false, false] rfl ?_
    exact w_X3_choose_47 d k g1 hg1 R zF x3 r6 (3 : Int32) r3
  · exact zk_ret R rfl trivial rfl
theorem r_X8_find {i : Nat} {t : List zA} (h : i < zN 9) : z_rcv zN (zKD 83) (.inr (9, i) :: t) := by
  rw [show zKD 83 = 9 from rfl]
  exact ⟨rfl, h⟩
noncomputable def f_X8_find (g1 : Nat) (m : zM) : Option (zM) :=
  Option.bind (f_X8_findCells g1 m) fun r1 =>
  Option.bind (f_X8_findOrders r1) fun r2 =>
  Option.bind (f_X8_beginReaches g1 r2) fun r3 =>
  Option.bind (f_X8_followReaches r3) fun r4 =>
  some r4
theorem w_X8_find (d k : Nat) (g1 : Nat) (hg1 : g1 < zN 6) (m : zM) (a : zM) (ha : f_X8_find g1 m = some a) : z_Ev z_MT zN zRf (d + 4) (k + 0) 83 [.inr (9, 0), .inr (6, g1), .inr (5, 0), .inr (11, 0)] m ((fun a => (.inl none, a) : zM → zO) a) := by
  refine zk_top (I := (yX8_find, cX8_find, 4, none, [], tX8_find, 9, 3, 9, 0, 0, 0)) (oc := (fun a => (.inl none, a) : zM → zO)) (a := a) rfl (Nat.le_of_ble_eq_true rfl) (fun G R => ?_) ha
  unfold f_X8_find
  refine zk_st R 3 3 [some (.inr (9, 0)), some (.inr (6, g1)), some (.inr (5, 0)), some (.inr (11, 0))] [.inr (11, 0), .inr (6, g1), .inr (9, 0)] m rfl ⟨trivial, trivial, trivial, trivial⟩ ?_
  refine zk_call R (fun _ => none) id rfl (r_X8_findCells (Nat.le_of_ble_eq_true rfl)) (fun b hb => w_X8_findCells (d + 1) 0 g1 hg1 m b hb) (fun r1 => ?_)
  refine zk_st R 2 8 [some (.inr (9, 0)), some (.inr (6, g1)), some (.inr (5, 0)), some (.inr (11, 0))] [.inr (5, 0), .inr (9, 0)] r1 rfl ⟨trivial, trivial, trivial⟩ ?_
  refine zk_call R (fun _ => none) id rfl (r_X8_findOrders (Nat.le_of_ble_eq_true rfl)) (fun b hb => w_X8_findOrders d 0 r1 b hb) (fun r2 => ?_)
  refine zk_st R 2 13 [some (.inr (9, 0)), some (.inr (6, g1)), some (.inr (5, 0)), some (.inr (11, 0))] [.inr (6, g1), .inr (9, 0)] r2 rfl ⟨trivial, trivial, trivial⟩ ?_
  refine zk_call R (fun _ => none) id rfl (r_X8_beginReaches (Nat.le_of_ble_eq_true rfl)) (fun b hb => w_X8_beginReaches d 0 g1 hg1 r2 b hb) (fun r3 => ?_)
  refine zk_st R 2 18 [some (.inr (9, 0)), some (.inr (6, g1)), some (.inr (5, 0)), some (.inr (11, 0))] [.inr (5, 0), .inr (9, 0)] r3 rfl ⟨trivial, trivial, trivial⟩ ?_
  refine zk_call R (fun _ => none) id rfl (r_X8_followReaches (Nat.le_of_ble_eq_true rfl)) (fun b hb => w_X8_followReaches d 0 r3 b hb) (fun r4 => ?_)
  exact zk_ret R rfl trivial rfl
theorem r_X9_readValue {i : Nat} {t : List zA} (h : i < zN 10) : z_rcv zN (zKD 99) (.inr (10, i) :: t) := by
  rw [show zKD 99 = 10 from rfl]
  exact ⟨rfl, h⟩
noncomputable def f_X9_readValue_57 (s1 : Int32) (m : zM) : Option (Int32 × zM) :=
  some ((-1 : Int32), (z_sI m 10 0 6 s1))
noncomputable def f_X9_readValue (m : zM) : Option (Int32 × zM) :=
  Option.bind (f_X9_sign m) fun r1 =>
  if r1 = (61 : Int32) then
    Option.bind (f_X9_isDigit (z_sI m 10 0 3 ((m.1 10 0 3) + (1 : Int32)))) fun r3 =>
    if (z_bi r3) = 0 then
      some (((z_sI m 10 0 3 ((m.1 10 0 3) + (1 : Int32))).1 10 0 3), (z_sI m 10 0 3 ((m.1 10 0 3) + (1 : Int32))))
    else
      if ((z_sI m 10 0 3 ((m.1 10 0 3) + (1 : Int32))).1 10 0 4) = (104 : Int32) then
        Option.bind (f_X9_readNumber (z_sI m 10 0 3 ((m.1 10 0 3) + (1 : Int32)))) fun r6 =>
        f_X9_readValue_57 r6.1 r6.2
      else
        Option.bind (f_X9_readDigit (z_sI m 10 0 3 ((m.1 10 0 3) + (1 : Int32)))) fun r7 =>
        f_X9_readValue_57 r7.1 r7.2
  else
    some ((m.1 10 0 3), m)
theorem w_X9_readValue_57 (d k : Nat) {o : zO} {G : Nat → Nat → zL → List zA → zM → Prop} (R : zRu (d + 3) tX9_readValue 0 (z_hf []) o G) (s1 : Int32) (m : zM) : zLK G (fun a => (z_cI a.1, a.2) : Int32 × zM → zO) o (f_X9_readValue_57 s1 m) some (k + 0) 57 [none] [.inl (.int s1), .inr (10, 0)] m := by
  unfold f_X9_readValue_57
  refine zk_st R 2 61 [none] [.inl (.int (-1 : Int32))] (z_sI m 10 0 6 s1) rfl ⟨(Nat.le_of_ble_eq_true rfl), trivial, trivial⟩ ?_
  exact zk_ret R rfl trivial rfl
theorem w_X9_readValue (d k : Nat) (m : zM) (a : Int32 × zM) (ha : f_X9_readValue m = some a) : z_Ev z_MT zN zRf (d + 4) (k + 0) 99 [.inr (10, 0)] m ((fun a => (z_cI a.1, a.2) : Int32 × zM → zO) a) := by
  refine zk_top (I := (yX9_readValue, cX9_readValue, 1, (some .int), [], tX9_readValue, 10, 0, 10, 0, 0, 0)) (oc := (fun a => (z_cI a.1, a.2) : Int32 × zM → zO)) (a := a) rfl (Nat.le_of_ble_eq_true rfl) (fun G R => ?_) ha
  unfold f_X9_readValue
  refine zk_st R 1 1 [some (.inr (10, 0))] [.inr (10, 0)] m rfl ⟨trivial, trivial⟩ ?_
  refine zk_call R (fun b => some (.inl (.int b))) (fun _ => m) rfl (r_X9_sign (Nat.le_of_ble_eq_true rfl)) (fun b hb => w_X9_sign (d + 2) 0 m b hb) (fun r1 => ?_)
  refine zk_st R 1 6 [some (.inr (10, 0))] [.inl (.int (61 : Int32)), .inl (.int r1)] m rfl ⟨trivial, trivial⟩ ?_
  refine zk_br R rfl (fun _ => ?_) (fun _ => ?_)
  · refine zk_st R 7 25 [some (.inr (10, 0))] [.inr (10, 0)] (z_sI m 10 0 3 ((m.1 10 0 3) + (1 : Int32))) rfl ⟨trivial, trivial, (Nat.le_of_ble_eq_true rfl), trivial, trivial, (Nat.le_of_ble_eq_true rfl), trivial, trivial⟩ ?_
    refine zk_call R (fun b => some (.inl (.int (z_bi b)))) (fun _ => (z_sI m 10 0 3 ((m.1 10 0 3) + (1 : Int32)))) rfl (r_X9_isDigit (Nat.le_of_ble_eq_true rfl)) (fun b hb => w_X9_isDigit (d + 1) 0 (z_sI m 10 0 3 ((m.1 10 0 3) + (1 : Int32))) b hb) (fun r3 => ?_)
    refine zk_br R rfl (fun _ => ?_) (fun _ => ?_)
    · refine zk_st R 2 35 [some (.inr (10, 0))] [.inl (.int ((z_sI m 10 0 3 ((m.1 10 0 3) + (1 : Int32))).1 10 0 3))] (z_sI m 10 0 3 ((m.1 10 0 3) + (1 : Int32))) rfl ⟨trivial, (Nat.le_of_ble_eq_true rfl), trivial⟩ ?_
      exact zk_ret R rfl trivial rfl
    · refine zk_st R 4 43 [some (.inr (10, 0))] [.inl (.int (104 : Int32)), .inl (.int ((z_sI m 10 0 3 ((m.1 10 0 3) + (1 : Int32))).1 10 0 4)), .inr (10, 0)] (z_sI m 10 0 3 ((m.1 10 0 3) + (1 : Int32))) rfl ⟨trivial, trivial, (Nat.le_of_ble_eq_true rfl), trivial, trivial⟩ ?_
      refine zk_br R rfl (fun _ => ?_) (fun _ => ?_)
      · refine zk_st R 1 47 [some (.inr (10, 0))] [.inr (10, 0), .inr (10, 0)] (z_sI m 10 0 3 ((m.1 10 0 3) + (1 : Int32))) rfl ⟨trivial, trivial⟩ ?_
        refine zk_call R (fun b => some (.inl (.int b.1))) (fun b => b.2) rfl (r_X9_readNumber (Nat.le_of_ble_eq_true rfl)) (fun b hb => w_X9_readNumber d 0 (z_sI m 10 0 3 ((m.1 10 0 3) + (1 : Int32))) b hb) (fun r6 => ?_)
        refine zk_st R 1 57 [some (.inr (10, 0))] [.inl (.int r6.1), .inr (10, 0)] r6.2 rfl ⟨trivial, trivial⟩ ?_
        refine zk_mask R [false] rfl ?_
        exact w_X9_readValue_57 d k R r6.1 r6.2
      · refine zk_st R 1 54 [some (.inr (10, 0))] [.inr (10, 0), .inr (10, 0)] (z_sI m 10 0 3 ((m.1 10 0 3) + (1 : Int32))) rfl ⟨trivial, trivial⟩ ?_
        refine zk_call R (fun b => some (.inl (.int b.1))) (fun b => b.2) rfl (r_X9_readDigit (Nat.le_of_ble_eq_true rfl)) (fun b hb => w_X9_readDigit (d + 1) 0 (z_sI m 10 0 3 ((m.1 10 0 3) + (1 : Int32))) b hb) (fun r7 => ?_)
        refine zk_mask R [false] rfl ?_
        exact w_X9_readValue_57 d k R r7.1 r7.2
  · refine zk_st R 2 13 [some (.inr (10, 0))] [.inl (.int (m.1 10 0 3))] m rfl ⟨trivial, (Nat.le_of_ble_eq_true rfl), trivial⟩ ?_
    exact zk_ret R rfl trivial rfl
theorem r_X11_resize {i : Nat} {t : List zA} (h : i < zN 12) : z_rcv zN (zKD 103) (.inr (12, i) :: t) := by
  rw [show zKD 103 = 12 from rfl]
  exact ⟨rfl, h⟩
noncomputable def f_X11_resize (x1 : Int32) (x2 : Int32) (m : zM) : Option ((Int32 ⊕ Nat) × zM) :=
  z_bx (f_X11_requireRange x1 (2 : Int32) (8 : Int32) m) (fun r1 m2 =>
  z_bx (f_X11_requireRange x2 (2 : Int32) (8 : Int32) m2) (fun r3 m4 =>
  Option.bind (f_X5_remember 0 m4) fun r5 =>
  Option.bind (f_X4_startAfresh 0 x1 x2 r5) fun r6 =>
  Option.bind (f_X4_size 0 r6) fun r7 =>
  some (.inl r7, r6)) id) id
theorem w_X11_resize (d k : Nat) (x1 : Int32) (x2 : Int32) (m : zM) (a : (Int32 ⊕ Nat) × zM) (ha : f_X11_resize x1 x2 m = some a) : z_Ev z_MT zN zRf (d + 4) (k + 2) 103 [.inr (12, 0), .inl (.int x1), .inl (.int x2)] m ((fun a => (z_cX z_cI a.1, a.2) : (Int32 ⊕ Nat) × zM → zO) a) := by
  refine zk_top (I := (yX11_resize, cX11_resize, 3, (some .int), [], tX11_resize, 12, 2, 12, 0, 0, 0)) (oc := (fun a => (z_cX z_cI a.1, a.2) : (Int32 ⊕ Nat) × zM → zO)) (a := a) rfl (Nat.le_of_ble_eq_true rfl) (fun G R => ?_) ha
  unfold f_X11_resize
  refine zk_st R 3 4 [some (.inr (12, 0)), some (.inl (.int x1)), some (.inl (.int x2))] [.inl (.int (8 : Int32)), .inl (.int (2 : Int32)), .inl (.int x1)] m rfl ⟨trivial, trivial, trivial, trivial⟩ ?_
  refine zk_callz R (k + 1) 1 (fun _ => none) rfl (r_X11_requireRange) (fun b m' hb => w_X11_requireRange (d + 2) 0 x1 (2 : Int32) (8 : Int32) m _ hb) (fun e m' hb => w_X11_requireRange (d + 2) 0 x1 (2 : Int32) (8 : Int32) m _ hb) (fun _ => rfl) (fun _ _ => rfl) (fun r1 m2 => ?_)
  refine zk_st R 3 11 [some (.inr (12, 0)), some (.inl (.int x1)), some (.inl (.int x2))] [.inl (.int (8 : Int32)), .inl (.int (2 : Int32)), .inl (.int x2)] m2 rfl ⟨trivial, trivial, trivial, trivial⟩ ?_
  refine zk_callz R (k + 0) 1 (fun _ => none) rfl (r_X11_requireRange) (fun b m' hb => w_X11_requireRange (d + 2) 0 x2 (2 : Int32) (8 : Int32) m2 _ hb) (fun e m' hb => w_X11_requireRange (d + 2) 0 x2 (2 : Int32) (8 : Int32) m2 _ hb) (fun _ => rfl) (fun _ _ => rfl) (fun r3 m4 => ?_)
  refine zk_st R 4 22 [some (.inr (12, 0)), some (.inl (.int x1)), some (.inl (.int x2))] [.inr (6, 0), .inr (7, 0)] m4 rfl ⟨trivial, (Nat.le_of_ble_eq_true rfl), trivial, (Nat.le_of_ble_eq_true rfl), trivial⟩ ?_
  refine zk_call R (fun _ => none) id rfl (r_X5_remember (Nat.le_of_ble_eq_true rfl)) (fun b hb => w_X5_remember d 0 0 (Nat.le_of_ble_eq_true rfl) m4 b hb) (fun r5 => ?_)
  refine zk_st R 4 31 [some (.inr (12, 0)), some (.inl (.int x1)), some (.inl (.int x2))] [.inl (.int x2), .inl (.int x1), .inr (6, 0)] r5 rfl ⟨trivial, (Nat.le_of_ble_eq_true rfl), trivial, trivial, trivial⟩ ?_
  refine zk_call R (fun _ => none) id rfl (r_X4_startAfresh (Nat.le_of_ble_eq_true rfl)) (fun b hb => w_X4_startAfresh (d + 1) 0 0 (Nat.le_of_ble_eq_true rfl) x1 x2 r5 b hb) (fun r6 => ?_)
  refine zk_st R 2 38 [some (.inr (12, 0)), some (.inl (.int x1)), some (.inl (.int x2))] [.inr (6, 0)] r6 rfl ⟨trivial, (Nat.le_of_ble_eq_true rfl), trivial⟩ ?_
  refine zk_call R (fun b => some (.inl (.int b))) (fun _ => r6) rfl (r_X4_size (Nat.le_of_ble_eq_true rfl)) (fun b hb => w_X4_size (d + 2) 0 0 (Nat.le_of_ble_eq_true rfl) r6 b hb) (fun r7 => ?_)
  exact zk_ret R rfl trivial rfl
theorem r_X11_scatter {i : Nat} {t : List zA} (h : i < zN 12) : z_rcv zN (zKD 104) (.inr (12, i) :: t) := by
  rw [show zKD 104 = 12 from rfl]
  exact ⟨rfl, h⟩
noncomputable def f_X11_scatter_46 : Nat → Int32 → Int32 → Int32 → Int32 → zM → Option ((Int32 ⊕ Nat) × zM)
  | 0, _, _, _, _, _ => none
  | j + 1, x2, x3, x4, x5, m =>
    if x4 ≤ x5 then
      Option.bind (f_X4_differentHeights 0 m) fun r2 =>
      some (.inl r2, m)
    else
      z_gd (z_nz x2) <| Option.bind (f_X7_put 20 0 x5 (z_irem (z_iushr ((x3 * (1103515245 : Int32)) + (12345 : Int32)) (16 : Int32)) x2) m) fun r4 =>
      f_X11_scatter_46 j x2 ((x3 * (1103515245 : Int32)) + (12345 : Int32)) x4 (x5 + (1 : Int32)) r4
noncomputable def f_X11_scatter (x1 : Int32) (x2 : Int32) (m : zM) : Option ((Int32 ⊕ Nat) × zM) :=
  if x2 < (1 : Int32) then
    some (.inr 0, m)
  else
    if x2 ≤ (100 : Int32) then
      Option.bind (f_X5_remember 0 m) fun r3 =>
      Option.bind (f_X4_size 0 r3) fun r4 =>
      f_X11_scatter_46 zF x2 x1 r4 (0 : Int32) r3
    else
      some (.inr 0, m)
theorem w_X11_scatter_46 (d k : Nat) {o : zO} {G : Nat → Nat → zL → List zA → zM → Prop} (R : zRu (d + 3) tX11_scatter 0 (z_hf []) o G) : ∀ (j : Nat) (x2 : Int32) (x3 : Int32) (x4 : Int32) (x5 : Int32) (m : zM), zLK G (fun a => (z_cX z_cI a.1, a.2) : (Int32 ⊕ Nat) × zM → zO) o (f_X11_scatter_46 j x2 x3 x4 x5 m) some (k + 0) 46 [some (.inr (12, 0)), none, some (.inl (.int x2)), some (.inl (.int x3)), some (.inl (.int x4)), some (.inl (.int x5))] [] m := by
  intro j
  induction j with
  | zero =>
    intro _ _ _ _ _
    exact zk_none
  | succ j ih =>
    intro x2 x3 x4 x5 m
    unfold f_X11_scatter_46
    refine zk_st R 2 50 [some (.inr (12, 0)), none, some (.inl (.int x2)), some (.inl (.int x3)), some (.inl (.int x4)), some (.inl (.int x5))] [.inl (.int x4), .inl (.int x5)] m rfl ⟨trivial, trivial, trivial⟩ ?_
    refine zk_br R rfl (fun _ => ?_) (fun _ => ?_)
    · refine zk_st R 2 90 [some (.inr (12, 0)), none, some (.inl (.int x2)), some (.inl (.int x3)), some (.inl (.int x4)), some (.inl (.int x5))] [.inr (6, 0)] m rfl ⟨trivial, (Nat.le_of_ble_eq_true rfl), trivial⟩ ?_
      refine zk_call R (fun b => some (.inl (.int b))) (fun _ => m) rfl (r_X4_differentHeights (Nat.le_of_ble_eq_true rfl)) (fun b hb => w_X4_differentHeights d 0 0 (Nat.le_of_ble_eq_true rfl) m b hb) (fun r2 => ?_)
      exact zk_ret R rfl trivial rfl
    · refine zk_gd fun e3 => ?_
      refine zk_st R 15 77 [some (.inr (12, 0)), none, some (.inl (.int x2)), some (.inl (.int ((x3 * (1103515245 : Int32)) + (12345 : Int32)))), some (.inl (.int x4)), some (.inl (.int x5))] [.inl (.int (z_irem (z_iushr ((x3 * (1103515245 : Int32)) + (12345 : Int32)) (16 : Int32)) x2)), .inl (.int x5), .inr (20, 0)] m rfl ⟨trivial, trivial, trivial, trivial, trivial, trivial, trivial, (Nat.le_of_ble_eq_true rfl), (Nat.le_of_ble_eq_true rfl), trivial, trivial, trivial, trivial, trivial, (z_nz_ne e3), trivial⟩ ?_
      refine zk_call R (fun _ => none) id rfl (r_X7_put) (fun b hb => w_X7_put_k20 (d + 2) 0 0 (Nat.le_of_ble_eq_true rfl) x5 (z_irem (z_iushr ((x3 * (1103515245 : Int32)) + (12345 : Int32)) (16 : Int32)) x2) m b hb) (fun r4 => ?_)
      refine zk_st R 2 46 [some (.inr (12, 0)), none, some (.inl (.int x2)), some (.inl (.int ((x3 * (1103515245 : Int32)) + (12345 : Int32)))), some (.inl (.int x4)), some (.inl (.int (x5 + (1 : Int32))))] [] r4 rfl ⟨trivial, trivial, trivial⟩ ?_
      refine zk_mask R [true, false, true, true, true, true] rfl ?_
      exact ih x2 ((x3 * (1103515245 : Int32)) + (12345 : Int32)) x4 (x5 + (1 : Int32)) r4
theorem w_X11_scatter (d k : Nat) (x1 : Int32) (x2 : Int32) (m : zM) (a : (Int32 ⊕ Nat) × zM) (ha : f_X11_scatter x1 x2 m = some a) : z_Ev z_MT zN zRf (d + 4) (k + 1) 104 [.inr (12, 0), .inl (.int x1), .inl (.int x2)] m ((fun a => (z_cX z_cI a.1, a.2) : (Int32 ⊕ Nat) × zM → zO) a) := by
  refine zk_top (I := (yX11_scatter, cX11_scatter, 6, (some .int), [], tX11_scatter, 12, 2, 12, 0, 0, 0)) (oc := (fun a => (z_cX z_cI a.1, a.2) : (Int32 ⊕ Nat) × zM → zO)) (a := a) rfl (Nat.le_of_ble_eq_true rfl) (fun G R => ?_) ha
  unfold f_X11_scatter
  refine zk_st R 2 2 [some (.inr (12, 0)), some (.inl (.int x1)), some (.inl (.int x2)), none, none, none] [.inl (.int (1 : Int32)), .inl (.int x2)] m rfl ⟨trivial, trivial, trivial⟩ ?_
  refine zk_br R rfl (fun _ => ?_) (fun _ => ?_)
  · exact zk_thr R (k := k + 0) rfl rfl
  · refine zk_st R 2 8 [some (.inr (12, 0)), some (.inl (.int x1)), some (.inl (.int x2)), none, none, none] [.inl (.int (100 : Int32)), .inl (.int x2)] m rfl ⟨trivial, trivial, trivial⟩ ?_
    refine zk_br R rfl (fun _ => ?_) (fun _ => ?_)
    · refine zk_st R 4 29 [some (.inr (12, 0)), some (.inl (.int x1)), some (.inl (.int x2)), none, none, none] [.inr (6, 0), .inr (7, 0)] m rfl ⟨trivial, (Nat.le_of_ble_eq_true rfl), trivial, (Nat.le_of_ble_eq_true rfl), trivial⟩ ?_
      refine zk_call R (fun _ => none) id rfl (r_X5_remember (Nat.le_of_ble_eq_true rfl)) (fun b hb => w_X5_remember d 0 0 (Nat.le_of_ble_eq_true rfl) m b hb) (fun r3 => ?_)
      refine zk_st R 4 38 [some (.inr (12, 0)), some (.inl (.int x1)), some (.inl (.int x2)), some (.inl (.int x1)), none, none] [.inr (6, 0)] r3 rfl ⟨trivial, trivial, trivial, (Nat.le_of_ble_eq_true rfl), trivial⟩ ?_
      refine zk_call R (fun b => some (.inl (.int b))) (fun _ => r3) rfl (r_X4_size (Nat.le_of_ble_eq_true rfl)) (fun b hb => w_X4_size (d + 2) 0 0 (Nat.le_of_ble_eq_true rfl) r3 b hb) (fun r4 => ?_)
      refine zk_st R 3 46 [some (.inr (12, 0)), some (.inl (.int x1)), some (.inl (.int x2)), some (.inl (.int x1)), some (.inl (.int r4)), some (.inl (.int (0 : Int32)))] [] r3 rfl ⟨trivial, trivial, trivial, trivial⟩ ?_
      refine zk_mask R [true, false, true, true, true, true] rfl ?_
      exact w_X11_scatter_46 d (k + 1) R zF x2 x1 r4 (0 : Int32) r3
    · exact zk_thr R (k := k + 0) rfl rfl
theorem r_X11_setHeight {i : Nat} {t : List zA} (h : i < zN 12) : z_rcv zN (zKD 105) (.inr (12, i) :: t) := by
  rw [show zKD 105 = 12 from rfl]
  exact ⟨rfl, h⟩
noncomputable def f_X11_setHeight (x1 : Int32) (x2 : Int32) (m : zM) : Option ((Int32 ⊕ Nat) × zM) :=
  z_bx (f_X11_requireCell x1 m) (fun r1 m2 =>
  z_bx (f_X11_requireRange x2 (0 : Int32) (99 : Int32) m2) (fun r3 m4 =>
  Option.bind (f_X5_remember 0 m4) fun r5 =>
  Option.bind (f_X7_at 20 0 x1 r5) fun r6 =>
  Option.bind (f_X7_put 20 0 x1 x2 r5) fun r7 =>
  some (.inl r6, r7)) id) id
theorem w_X11_setHeight (d k : Nat) (x1 : Int32) (x2 : Int32) (m : zM) (a : (Int32 ⊕ Nat) × zM) (ha : f_X11_setHeight x1 x2 m = some a) : z_Ev z_MT zN zRf (d + 4) (k + 2) 105 [.inr (12, 0), .inl (.int x1), .inl (.int x2)] m ((fun a => (z_cX z_cI a.1, a.2) : (Int32 ⊕ Nat) × zM → zO) a) := by
  refine zk_top (I := (yX11_setHeight, cX11_setHeight, 4, (some .int), [], tX11_setHeight, 12, 2, 12, 0, 0, 0)) (oc := (fun a => (z_cX z_cI a.1, a.2) : (Int32 ⊕ Nat) × zM → zO)) (a := a) rfl (Nat.le_of_ble_eq_true rfl) (fun G R => ?_) ha
  unfold f_X11_setHeight
  refine zk_st R 2 2 [some (.inr (12, 0)), some (.inl (.int x1)), some (.inl (.int x2)), none] [.inl (.int x1), .inr (12, 0)] m rfl ⟨trivial, trivial, trivial⟩ ?_
  refine zk_callz R (k + 1) 1 (fun _ => none) rfl (r_X11_requireCell (Nat.le_of_ble_eq_true rfl)) (fun b m' hb => w_X11_requireCell (d + 1) 0 x1 m _ hb) (fun e m' hb => w_X11_requireCell (d + 1) 0 x1 m _ hb) (fun _ => rfl) (fun _ _ => rfl) (fun r1 m2 => ?_)
  refine zk_st R 3 9 [some (.inr (12, 0)), some (.inl (.int x1)), some (.inl (.int x2)), none] [.inl (.int (99 : Int32)), .inl (.int (0 : Int32)), .inl (.int x2)] m2 rfl ⟨trivial, trivial, trivial, trivial⟩ ?_
  refine zk_callz R (k + 0) 1 (fun _ => none) rfl (r_X11_requireRange) (fun b m' hb => w_X11_requireRange (d + 2) 0 x2 (0 : Int32) (99 : Int32) m2 _ hb) (fun e m' hb => w_X11_requireRange (d + 2) 0 x2 (0 : Int32) (99 : Int32) m2 _ hb) (fun _ => rfl) (fun _ _ => rfl) (fun r3 m4 => ?_)
  refine zk_st R 4 20 [some (.inr (12, 0)), some (.inl (.int x1)), some (.inl (.int x2)), none] [.inr (6, 0), .inr (7, 0)] m4 rfl ⟨trivial, (Nat.le_of_ble_eq_true rfl), trivial, (Nat.le_of_ble_eq_true rfl), trivial⟩ ?_
  refine zk_call R (fun _ => none) id rfl (r_X5_remember (Nat.le_of_ble_eq_true rfl)) (fun b hb => w_X5_remember d 0 0 (Nat.le_of_ble_eq_true rfl) m4 b hb) (fun r5 => ?_)
  refine zk_st R 4 31 [some (.inr (12, 0)), some (.inl (.int x1)), some (.inl (.int x2)), none] [.inl (.int x1), .inr (20, 0)] r5 rfl ⟨trivial, (Nat.le_of_ble_eq_true rfl), (Nat.le_of_ble_eq_true rfl), trivial, trivial⟩ ?_
  refine zk_call R (fun b => some (.inl (.int b))) (fun _ => r5) rfl (r_X7_at) (fun b hb => w_X7_at_k20 (d + 2) 0 0 (Nat.le_of_ble_eq_true rfl) x1 r5 b hb) (fun r6 => ?_)
  refine zk_st R 6 44 [some (.inr (12, 0)), some (.inl (.int x1)), some (.inl (.int x2)), some (.inl (.int r6))] [.inl (.int x2), .inl (.int x1), .inr (20, 0)] r5 rfl ⟨trivial, trivial, (Nat.le_of_ble_eq_true rfl), (Nat.le_of_ble_eq_true rfl), trivial, trivial, trivial⟩ ?_
  refine zk_call R (fun _ => none) id rfl (r_X7_put) (fun b hb => w_X7_put_k20 (d + 2) 0 0 (Nat.le_of_ble_eq_true rfl) x1 x2 r5 b hb) (fun r7 => ?_)
  refine zk_st R 1 48 [some (.inr (12, 0)), some (.inl (.int x1)), some (.inl (.int x2)), some (.inl (.int r6))] [.inl (.int r6)] r7 rfl ⟨trivial, trivial⟩ ?_
  exact zk_ret R rfl trivial rfl
theorem r_X11_raise {i : Nat} {t : List zA} (h : i < zN 12) : z_rcv zN (zKD 106) (.inr (12, i) :: t) := by
  rw [show zKD 106 = 12 from rfl]
  exact ⟨rfl, h⟩
noncomputable def f_X11_raise (x1 : Int32) (x2 : Int32) (x3 : Int32) (m : zM) : Option ((Int32 ⊕ Nat) × zM) :=
  z_bx (f_X11_requireCell x1 m) (fun r1 m2 =>
  z_bx (f_X11_requireCell x2 m2) (fun r3 m4 =>
  z_bx (f_X11_requireRange x3 (-99 : Int32) (99 : Int32) m4) (fun r5 m6 =>
  Option.bind (f_X5_remember 0 m6) fun r7 =>
  Option.bind (f_X4_raiseRectangle 0 x1 x2 x3 r7) fun r8 =>
  some (.inl r8.1, r8.2)) id) id) id
theorem w_X11_raise (d k : Nat) (x1 : Int32) (x2 : Int32) (x3 : Int32) (m : zM) (a : (Int32 ⊕ Nat) × zM) (ha : f_X11_raise x1 x2 x3 m = some a) : z_Ev z_MT zN zRf (d + 4) (k + 3) 106 [.inr (12, 0), .inl (.int x1), .inl (.int x2), .inl (.int x3)] m ((fun a => (z_cX z_cI a.1, a.2) : (Int32 ⊕ Nat) × zM → zO) a) := by
  refine zk_top (I := (yX11_raise, cX11_raise, 4, (some .int), [], tX11_raise, 12, 3, 12, 0, 0, 0)) (oc := (fun a => (z_cX z_cI a.1, a.2) : (Int32 ⊕ Nat) × zM → zO)) (a := a) rfl (Nat.le_of_ble_eq_true rfl) (fun G R => ?_) ha
  unfold f_X11_raise
  refine zk_st R 2 2 [some (.inr (12, 0)), some (.inl (.int x1)), some (.inl (.int x2)), some (.inl (.int x3))] [.inl (.int x1), .inr (12, 0)] m rfl ⟨trivial, trivial, trivial⟩ ?_
  refine zk_callz R (k + 2) 1 (fun _ => none) rfl (r_X11_requireCell (Nat.le_of_ble_eq_true rfl)) (fun b m' hb => w_X11_requireCell (d + 1) 0 x1 m _ hb) (fun e m' hb => w_X11_requireCell (d + 1) 0 x1 m _ hb) (fun _ => rfl) (fun _ _ => rfl) (fun r1 m2 => ?_)
  refine zk_st R 2 7 [some (.inr (12, 0)), some (.inl (.int x1)), some (.inl (.int x2)), some (.inl (.int x3))] [.inl (.int x2), .inr (12, 0)] m2 rfl ⟨trivial, trivial, trivial⟩ ?_
  refine zk_callz R (k + 1) 1 (fun _ => none) rfl (r_X11_requireCell (Nat.le_of_ble_eq_true rfl)) (fun b m' hb => w_X11_requireCell (d + 1) 0 x2 m2 _ hb) (fun e m' hb => w_X11_requireCell (d + 1) 0 x2 m2 _ hb) (fun _ => rfl) (fun _ _ => rfl) (fun r3 m4 => ?_)
  refine zk_st R 3 15 [some (.inr (12, 0)), some (.inl (.int x1)), some (.inl (.int x2)), some (.inl (.int x3))] [.inl (.int (99 : Int32)), .inl (.int (-99 : Int32)), .inl (.int x3)] m4 rfl ⟨trivial, trivial, trivial, trivial⟩ ?_
  refine zk_callz R (k + 0) 1 (fun _ => none) rfl (r_X11_requireRange) (fun b m' hb => w_X11_requireRange (d + 2) 0 x3 (-99 : Int32) (99 : Int32) m4 _ hb) (fun e m' hb => w_X11_requireRange (d + 2) 0 x3 (-99 : Int32) (99 : Int32) m4 _ hb) (fun _ => rfl) (fun _ _ => rfl) (fun r5 m6 => ?_)
  refine zk_st R 4 26 [some (.inr (12, 0)), some (.inl (.int x1)), some (.inl (.int x2)), some (.inl (.int x3))] [.inr (6, 0), .inr (7, 0)] m6 rfl ⟨trivial, (Nat.le_of_ble_eq_true rfl), trivial, (Nat.le_of_ble_eq_true rfl), trivial⟩ ?_
  refine zk_call R (fun _ => none) id rfl (r_X5_remember (Nat.le_of_ble_eq_true rfl)) (fun b hb => w_X5_remember d 0 0 (Nat.le_of_ble_eq_true rfl) m6 b hb) (fun r7 => ?_)
  refine zk_st R 5 36 [some (.inr (12, 0)), some (.inl (.int x1)), some (.inl (.int x2)), some (.inl (.int x3))] [.inl (.int x3), .inl (.int x2), .inl (.int x1), .inr (6, 0)] r7 rfl ⟨trivial, (Nat.le_of_ble_eq_true rfl), trivial, trivial, trivial, trivial⟩ ?_
  refine zk_call R (fun b => some (.inl (.int b.1))) (fun b => b.2) rfl (r_X4_raiseRectangle (Nat.le_of_ble_eq_true rfl)) (fun b hb => w_X4_raiseRectangle (d + 1) 0 0 (Nat.le_of_ble_eq_true rfl) x1 x2 x3 r7 b hb) (fun r8 => ?_)
  exact zk_ret R rfl trivial rfl
theorem r_X11_setRain {i : Nat} {t : List zA} (h : i < zN 12) : z_rcv zN (zKD 107) (.inr (12, i) :: t) := by
  rw [show zKD 107 = 12 from rfl]
  exact ⟨rfl, h⟩
noncomputable def f_X11_setRain (x1 : Int32) (x2 : Int32) (m : zM) : Option ((Int32 ⊕ Nat) × zM) :=
  z_bx (f_X11_requireCell x1 m) (fun r1 m2 =>
  z_bx (f_X11_requireRange x2 (0 : Int32) (9 : Int32) m2) (fun r3 m4 =>
  Option.bind (f_X5_remember 0 m4) fun r5 =>
  Option.bind (f_X7_at 20 1 x1 r5) fun r6 =>
  Option.bind (f_X7_put 20 1 x1 x2 r5) fun r7 =>
  some (.inl r6, r7)) id) id
theorem w_X11_setRain (d k : Nat) (x1 : Int32) (x2 : Int32) (m : zM) (a : (Int32 ⊕ Nat) × zM) (ha : f_X11_setRain x1 x2 m = some a) : z_Ev z_MT zN zRf (d + 4) (k + 2) 107 [.inr (12, 0), .inl (.int x1), .inl (.int x2)] m ((fun a => (z_cX z_cI a.1, a.2) : (Int32 ⊕ Nat) × zM → zO) a) := by
  refine zk_top (I := (yX11_setRain, cX11_setRain, 4, (some .int), [], tX11_setRain, 12, 2, 12, 0, 0, 0)) (oc := (fun a => (z_cX z_cI a.1, a.2) : (Int32 ⊕ Nat) × zM → zO)) (a := a) rfl (Nat.le_of_ble_eq_true rfl) (fun G R => ?_) ha
  unfold f_X11_setRain
  refine zk_st R 2 2 [some (.inr (12, 0)), some (.inl (.int x1)), some (.inl (.int x2)), none] [.inl (.int x1), .inr (12, 0)] m rfl ⟨trivial, trivial, trivial⟩ ?_
  refine zk_callz R (k + 1) 1 (fun _ => none) rfl (r_X11_requireCell (Nat.le_of_ble_eq_true rfl)) (fun b m' hb => w_X11_requireCell (d + 1) 0 x1 m _ hb) (fun e m' hb => w_X11_requireCell (d + 1) 0 x1 m _ hb) (fun _ => rfl) (fun _ _ => rfl) (fun r1 m2 => ?_)
  refine zk_st R 3 9 [some (.inr (12, 0)), some (.inl (.int x1)), some (.inl (.int x2)), none] [.inl (.int (9 : Int32)), .inl (.int (0 : Int32)), .inl (.int x2)] m2 rfl ⟨trivial, trivial, trivial, trivial⟩ ?_
  refine zk_callz R (k + 0) 1 (fun _ => none) rfl (r_X11_requireRange) (fun b m' hb => w_X11_requireRange (d + 2) 0 x2 (0 : Int32) (9 : Int32) m2 _ hb) (fun e m' hb => w_X11_requireRange (d + 2) 0 x2 (0 : Int32) (9 : Int32) m2 _ hb) (fun _ => rfl) (fun _ _ => rfl) (fun r3 m4 => ?_)
  refine zk_st R 4 20 [some (.inr (12, 0)), some (.inl (.int x1)), some (.inl (.int x2)), none] [.inr (6, 0), .inr (7, 0)] m4 rfl ⟨trivial, (Nat.le_of_ble_eq_true rfl), trivial, (Nat.le_of_ble_eq_true rfl), trivial⟩ ?_
  refine zk_call R (fun _ => none) id rfl (r_X5_remember (Nat.le_of_ble_eq_true rfl)) (fun b hb => w_X5_remember d 0 0 (Nat.le_of_ble_eq_true rfl) m4 b hb) (fun r5 => ?_)
  refine zk_st R 4 31 [some (.inr (12, 0)), some (.inl (.int x1)), some (.inl (.int x2)), none] [.inl (.int x1), .inr (20, 1)] r5 rfl ⟨trivial, (Nat.le_of_ble_eq_true rfl), (Nat.le_of_ble_eq_true rfl), trivial, trivial⟩ ?_
  refine zk_call R (fun b => some (.inl (.int b))) (fun _ => r5) rfl (r_X7_at) (fun b hb => w_X7_at_k20 (d + 2) 0 1 (Nat.le_of_ble_eq_true rfl) x1 r5 b hb) (fun r6 => ?_)
  refine zk_st R 6 44 [some (.inr (12, 0)), some (.inl (.int x1)), some (.inl (.int x2)), some (.inl (.int r6))] [.inl (.int x2), .inl (.int x1), .inr (20, 1)] r5 rfl ⟨trivial, trivial, (Nat.le_of_ble_eq_true rfl), (Nat.le_of_ble_eq_true rfl), trivial, trivial, trivial⟩ ?_
  refine zk_call R (fun _ => none) id rfl (r_X7_put) (fun b hb => w_X7_put_k20 (d + 2) 0 1 (Nat.le_of_ble_eq_true rfl) x1 x2 r5 b hb) (fun r7 => ?_)
  refine zk_st R 1 48 [some (.inr (12, 0)), some (.inl (.int x1)), some (.inl (.int x2)), some (.inl (.int r6))] [.inl (.int r6)] r7 rfl ⟨trivial, trivial⟩ ?_
  exact zk_ret R rfl trivial rfl
theorem r_X11_setSoak {i : Nat} {t : List zA} (h : i < zN 12) : z_rcv zN (zKD 108) (.inr (12, i) :: t) := by
  rw [show zKD 108 = 12 from rfl]
  exact ⟨rfl, h⟩
noncomputable def f_X11_setSoak (x1 : Int32) (x2 : Int32) (m : zM) : Option ((Int32 ⊕ Nat) × zM) :=
  z_bx (f_X11_requireCell x1 m) (fun r1 m2 =>
  z_bx (f_X11_requireRange x2 (0 : Int32) (9 : Int32) m2) (fun r3 m4 =>
  Option.bind (f_X5_remember 0 m4) fun r5 =>
  Option.bind (f_X7_at 20 2 x1 r5) fun r6 =>
  Option.bind (f_X7_put 20 2 x1 x2 r5) fun r7 =>
  some (.inl r6, r7)) id) id
theorem w_X11_setSoak (d k : Nat) (x1 : Int32) (x2 : Int32) (m : zM) (a : (Int32 ⊕ Nat) × zM) (ha : f_X11_setSoak x1 x2 m = some a) : z_Ev z_MT zN zRf (d + 4) (k + 2) 108 [.inr (12, 0), .inl (.int x1), .inl (.int x2)] m ((fun a => (z_cX z_cI a.1, a.2) : (Int32 ⊕ Nat) × zM → zO) a) := by
  refine zk_top (I := (yX11_setSoak, cX11_setSoak, 4, (some .int), [], tX11_setSoak, 12, 2, 12, 0, 0, 0)) (oc := (fun a => (z_cX z_cI a.1, a.2) : (Int32 ⊕ Nat) × zM → zO)) (a := a) rfl (Nat.le_of_ble_eq_true rfl) (fun G R => ?_) ha
  unfold f_X11_setSoak
  refine zk_st R 2 2 [some (.inr (12, 0)), some (.inl (.int x1)), some (.inl (.int x2)), none] [.inl (.int x1), .inr (12, 0)] m rfl ⟨trivial, trivial, trivial⟩ ?_
  refine zk_callz R (k + 1) 1 (fun _ => none) rfl (r_X11_requireCell (Nat.le_of_ble_eq_true rfl)) (fun b m' hb => w_X11_requireCell (d + 1) 0 x1 m _ hb) (fun e m' hb => w_X11_requireCell (d + 1) 0 x1 m _ hb) (fun _ => rfl) (fun _ _ => rfl) (fun r1 m2 => ?_)
  refine zk_st R 3 9 [some (.inr (12, 0)), some (.inl (.int x1)), some (.inl (.int x2)), none] [.inl (.int (9 : Int32)), .inl (.int (0 : Int32)), .inl (.int x2)] m2 rfl ⟨trivial, trivial, trivial, trivial⟩ ?_
  refine zk_callz R (k + 0) 1 (fun _ => none) rfl (r_X11_requireRange) (fun b m' hb => w_X11_requireRange (d + 2) 0 x2 (0 : Int32) (9 : Int32) m2 _ hb) (fun e m' hb => w_X11_requireRange (d + 2) 0 x2 (0 : Int32) (9 : Int32) m2 _ hb) (fun _ => rfl) (fun _ _ => rfl) (fun r3 m4 => ?_)
  refine zk_st R 4 20 [some (.inr (12, 0)), some (.inl (.int x1)), some (.inl (.int x2)), none] [.inr (6, 0), .inr (7, 0)] m4 rfl ⟨trivial, (Nat.le_of_ble_eq_true rfl), trivial, (Nat.le_of_ble_eq_true rfl), trivial⟩ ?_
  refine zk_call R (fun _ => none) id rfl (r_X5_remember (Nat.le_of_ble_eq_true rfl)) (fun b hb => w_X5_remember d 0 0 (Nat.le_of_ble_eq_true rfl) m4 b hb) (fun r5 => ?_)
  refine zk_st R 4 31 [some (.inr (12, 0)), some (.inl (.int x1)), some (.inl (.int x2)), none] [.inl (.int x1), .inr (20, 2)] r5 rfl ⟨trivial, (Nat.le_of_ble_eq_true rfl), (Nat.le_of_ble_eq_true rfl), trivial, trivial⟩ ?_
  refine zk_call R (fun b => some (.inl (.int b))) (fun _ => r5) rfl (r_X7_at) (fun b hb => w_X7_at_k20 (d + 2) 0 2 (Nat.le_of_ble_eq_true rfl) x1 r5 b hb) (fun r6 => ?_)
  refine zk_st R 6 44 [some (.inr (12, 0)), some (.inl (.int x1)), some (.inl (.int x2)), some (.inl (.int r6))] [.inl (.int x2), .inl (.int x1), .inr (20, 2)] r5 rfl ⟨trivial, trivial, (Nat.le_of_ble_eq_true rfl), (Nat.le_of_ble_eq_true rfl), trivial, trivial, trivial⟩ ?_
  refine zk_call R (fun _ => none) id rfl (r_X7_put) (fun b hb => w_X7_put_k20 (d + 2) 0 2 (Nat.le_of_ble_eq_true rfl) x1 x2 r5 b hb) (fun r7 => ?_)
  refine zk_st R 1 48 [some (.inr (12, 0)), some (.inl (.int x1)), some (.inl (.int x2)), some (.inl (.int r6))] [.inl (.int r6)] r7 rfl ⟨trivial, trivial⟩ ?_
  exact zk_ret R rfl trivial rfl
theorem r_X11_setOutlet {i : Nat} {t : List zA} (h : i < zN 12) : z_rcv zN (zKD 109) (.inr (12, i) :: t) := by
  rw [show zKD 109 = 12 from rfl]
  exact ⟨rfl, h⟩
noncomputable def f_X11_setOutlet_30 (x1 : Int32) (x2 : Int32) (m : zM) : Option ((Bool ⊕ Nat) × zM) :=
  Option.bind (f_X5_remember 0 m) fun r1 =>
  Option.bind (f_X4_isOutlet 0 x1 r1) fun r2 =>
  Option.bind (f_X4_markOutlet 0 x1 x2 r1) fun r3 =>
  some (.inl r2, r3)
noncomputable def f_X11_setOutlet (x1 : Int32) (x2 : Int32) (m : zM) : Option ((Bool ⊕ Nat) × zM) :=
  z_bx (f_X11_requireCell x1 m) (fun r1 m2 =>
  if x2 = 0 then
    Option.bind (f_X4_isOnlyOutlet 0 x1 m2) fun r4 =>
    if (z_bi r4) = 0 then
      f_X11_setOutlet_30 x1 x2 m2
    else
      some (.inr 2, m2)
  else
    f_X11_setOutlet_30 x1 x2 m2) id
theorem w_X11_setOutlet_30 (d k : Nat) {o : zO} {G : Nat → Nat → zL → List zA → zM → Prop} (R : zRu (d + 3) tX11_setOutlet 1 (z_hf []) o G) (x1 : Int32) (x2 : Int32) (m : zM) : zLK G (fun a => (z_cX z_cB a.1, a.2) : (Bool ⊕ Nat) × zM → zO) o (f_X11_setOutlet_30 x1 x2 m) some (k + 0) 30 [some (.inr (12, 0)), some (.inl (.int x1)), some (.inl (.int x2)), none] [] m := by
  unfold f_X11_setOutlet_30
  refine zk_st R 4 38 [some (.inr (12, 0)), some (.inl (.int x1)), some (.inl (.int x2)), none] [.inr (6, 0), .inr (7, 0)] m rfl ⟨trivial, (Nat.le_of_ble_eq_true rfl), trivial, (Nat.le_of_ble_eq_true rfl), trivial⟩ ?_
  refine zk_call R (fun _ => none) id rfl (r_X5_remember (Nat.le_of_ble_eq_true rfl)) (fun b hb => w_X5_remember d 0 0 (Nat.le_of_ble_eq_true rfl) m b hb) (fun r1 => ?_)
  refine zk_st R 3 46 [some (.inr (12, 0)), some (.inl (.int x1)), some (.inl (.int x2)), none] [.inl (.int x1), .inr (6, 0)] r1 rfl ⟨trivial, (Nat.le_of_ble_eq_true rfl), trivial, trivial⟩ ?_
  refine zk_call R (fun b => some (.inl (.int (z_bi b)))) (fun _ => r1) rfl (r_X4_isOutlet (Nat.le_of_ble_eq_true rfl)) (fun b hb => w_X4_isOutlet (d + 1) 0 0 (Nat.le_of_ble_eq_true rfl) x1 r1 b hb) (fun r2 => ?_)
  refine zk_st R 5 56 [some (.inr (12, 0)), some (.inl (.int x1)), some (.inl (.int x2)), some (.inl (.int (z_bi r2)))] [.inl (.int x2), .inl (.int x1), .inr (6, 0)] r1 rfl ⟨trivial, trivial, (Nat.le_of_ble_eq_true rfl), trivial, trivial, trivial⟩ ?_
  refine zk_call R (fun _ => none) id rfl (r_X4_markOutlet (Nat.le_of_ble_eq_true rfl)) (fun b hb => w_X4_markOutlet (d + 2) 0 0 (Nat.le_of_ble_eq_true rfl) x1 x2 r1 b hb) (fun r3 => ?_)
  refine zk_st R 1 60 [some (.inr (12, 0)), some (.inl (.int x1)), some (.inl (.int x2)), some (.inl (.int (z_bi r2)))] [.inl (.int (z_bi r2))] r3 rfl ⟨trivial, trivial⟩ ?_
  exact zk_ret R rfl (z_bi01 _) rfl
theorem w_X11_setOutlet (d k : Nat) (x1 : Int32) (x2 : Int32) (m : zM) (a : (Bool ⊕ Nat) × zM) (ha : f_X11_setOutlet x1 x2 m = some a) : z_Ev z_MT zN zRf (d + 4) (k + 2) 109 [.inr (12, 0), .inl (.int x1), .inl (.int x2)] m ((fun a => (z_cX z_cB a.1, a.2) : (Bool ⊕ Nat) × zM → zO) a) := by
  refine zk_top (I := (yX11_setOutlet, cX11_setOutlet, 4, (some .boolean), [], tX11_setOutlet, 12, 2, 12, 0, 0, 0)) (oc := (fun a => (z_cX z_cB a.1, a.2) : (Bool ⊕ Nat) × zM → zO)) (a := a) rfl (Nat.le_of_ble_eq_true rfl) (fun G R => ?_) ha
  unfold f_X11_setOutlet
  refine zk_st R 2 2 [some (.inr (12, 0)), some (.inl (.int x1)), some (.inl (.int x2)), none] [.inl (.int x1), .inr (12, 0)] m rfl ⟨trivial, trivial, trivial⟩ ?_
  refine zk_callz R (k + 1) 1 (fun _ => none) rfl (r_X11_requireCell (Nat.le_of_ble_eq_true rfl)) (fun b m' hb => w_X11_requireCell (d + 1) 0 x1 m _ hb) (fun e m' hb => w_X11_requireCell (d + 1) 0 x1 m _ hb) (fun _ => rfl) (fun _ _ => rfl) (fun r1 m2 => ?_)
  refine zk_st R 1 6 [some (.inr (12, 0)), some (.inl (.int x1)), some (.inl (.int x2)), none] [.inl (.int x2)] m2 rfl ⟨trivial, trivial⟩ ?_
  refine zk_br R rfl (fun _ => ?_) (fun _ => ?_)
  · refine zk_st R 3 14 [some (.inr (12, 0)), some (.inl (.int x1)), some (.inl (.int x2)), none] [.inl (.int x1), .inr (6, 0)] m2 rfl ⟨trivial, (Nat.le_of_ble_eq_true rfl), trivial, trivial⟩ ?_
    refine zk_call R (fun b => some (.inl (.int (z_bi b)))) (fun _ => m2) rfl (r_X4_isOnlyOutlet (Nat.le_of_ble_eq_true rfl)) (fun b hb => w_X4_isOnlyOutlet d 0 0 (Nat.le_of_ble_eq_true rfl) x1 m2 b hb) (fun r4 => ?_)
    refine zk_br R rfl (fun _ => ?_) (fun _ => ?_)
    · refine zk_mask R [true, true, true, false] rfl ?_
      exact w_X11_setOutlet_30 d (k + 1) R x1 x2 m2
    · exact zk_thr R (k := k + 0) rfl rfl
  · refine zk_mask R [true, true, true, false] rfl ?_
    exact w_X11_setOutlet_30 d (k + 1) R x1 x2 m2
