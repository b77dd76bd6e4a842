theorem r_X3_leastLevelAround {as : List zA} : z_rcv zN (zKD 64) as := by
  rw [show zKD 64 = 0 from rfl]
  trivial
noncomputable def f_X3_leastLevelAround_6 (g0 : Nat) (m : zM) : Nat → Int32 → Int32 → Int32 → Option (Int32)
  | 0, _, _, _ => none
  | j + 1, x2, x3, x4 =>
    if (4 : Int32) ≤ x4 then
      some x3
    else
      Option.bind (f_X4_neighbor g0 x2 x4 m) fun r2 =>
      if r2 = (-1 : Int32) then
        f_X3_leastLevelAround_6 g0 m j x2 x3 (x4 + (1 : Int32))
      else
        Option.bind (f_X7_at 20 33 r2 m) fun r4 =>
        Option.bind (f_J9_min_7cf53 x3 r4 m) fun r5 =>
        f_X3_leastLevelAround_6 g0 m j x2 r5 (x4 + (1 : Int32))
noncomputable def f_X3_leastLevelAround (g0 : Nat) (x2 : Int32) (m : zM) : Option (Int32) :=
  f_X3_leastLevelAround_6 g0 m zF x2 (99 : Int32) (0 : Int32)
theorem w_X3_leastLevelAround_6 (d k : Nat) {o : zO} {G : Nat → Nat → zL → List zA → zM → Prop} (g0 : Nat) (hg0 : g0 < zN 6) (m : zM) (R : zRu (d + 2) tX3_leastLevelAround 0 (z_hf []) o G) : ∀ (j : Nat) (x2 : Int32) (x3 : Int32) (x4 : Int32), zLK G (fun a => (z_cI a, m) : Int32 → zO) o (f_X3_leastLevelAround_6 g0 m j x2 x3 x4) some (k + 0) 6 [some (.inr (6, g0)), some (.inr (4, 0)), some (.inl (.int x2)), some (.inl (.int x3)), some (.inl (.int x4)), none] [] m := by
  intro j
  induction j with
  | zero =>
    intro _ _ _
    exact zk_none
  | succ j ih =>
    intro x2 x3 x4
    unfold f_X3_leastLevelAround_6
    refine zk_st R 2 9 [some (.inr (6, g0)), some (.inr (4, 0)), some (.inl (.int x2)), some (.inl (.int x3)), some (.inl (.int x4)), none] [.inl (.int (4 : Int32)), .inl (.int x4)] m rfl ⟨trivial, trivial, trivial⟩ ?_
    refine zk_br R rfl (fun _ => ?_) (fun _ => ?_)
    · refine zk_st R 1 48 [some (.inr (6, g0)), some (.inr (4, 0)), some (.inl (.int x2)), some (.inl (.int x3)), some (.inl (.int x4)), none] [.inl (.int x3)] m rfl ⟨trivial, trivial⟩ ?_
      exact zk_ret R rfl trivial rfl
    · refine zk_st R 3 16 [some (.inr (6, g0)), some (.inr (4, 0)), some (.inl (.int x2)), some (.inl (.int x3)), some (.inl (.int x4)), none] [.inl (.int x4), .inl (.int x2), .inr (6, g0)] m rfl ⟨trivial, trivial, trivial, trivial⟩ ?_
      refine zk_call R (fun b => some (.inl (.int b))) (fun _ => m) rfl (r_X4_neighbor hg0) (fun b hb => w_X4_neighbor d 0 g0 hg0 x2 x4 m b hb) (fun r2 => ?_)
      refine zk_st R 3 24 [some (.inr (6, g0)), some (.inr (4, 0)), some (.inl (.int x2)), some (.inl (.int x3)), some (.inl (.int x4)), some (.inl (.int r2))] [.inl (.int (-1 : Int32)), .inl (.int r2)] m rfl ⟨trivial, trivial, trivial, trivial⟩ ?_
      refine zk_br R rfl (fun _ => ?_) (fun _ => ?_)
      · refine zk_st R 2 6 [some (.inr (6, g0)), some (.inr (4, 0)), some (.inl (.int x2)), some (.inl (.int x3)), some (.inl (.int (x4 + (1 : Int32)))), some (.inl (.int r2))] [] m rfl ⟨trivial, trivial, trivial⟩ ?_
        refine zk_mask R [true, true, true, true, true, false] rfl ?_
        exact ih x2 x3 (x4 + (1 : Int32))
      · refine zk_st R 4 34 [some (.inr (6, g0)), some (.inr (4, 0)), some (.inl (.int x2)), some (.inl (.int x3)), some (.inl (.int x4)), some (.inl (.int r2))] [.inl (.int r2), .inr (20, 33), .inl (.int x3)] m rfl ⟨trivial, trivial, (Nat.le_of_ble_eq_true rfl), trivial, trivial⟩ ?_
        refine zk_call R (fun b => some (.inl (.int b))) (fun _ => m) rfl (r_X7_at) (fun b hb => w_X7_at_k20 (d + 1) 0 33 (Nat.le_of_ble_eq_true rfl) r2 m b hb) (fun r4 => ?_)
        refine zk_call R (fun b => some (.inl (.int b))) (fun _ => m) rfl (r_J9_min_7cf53) (fun b hb => w_J9_min_7cf53 (d + 1) 0 x3 r4 m b hb) (fun r5 => ?_)
        refine zk_st R 3 6 [some (.inr (6, g0)), some (.inr (4, 0)), some (.inl (.int x2)), some (.inl (.int r5)), some (.inl (.int (x4 + (1 : Int32)))), some (.inl (.int r2))] [] m rfl ⟨trivial, trivial, trivial, trivial⟩ ?_
        refine zk_mask R [true, true, true, true, true, false] rfl ?_
        exact ih x2 r5 (x4 + (1 : Int32))
theorem w_X3_leastLevelAround (d k : Nat) (g0 : Nat) (hg0 : g0 < zN 6) (x2 : Int32) (m : zM) (a : Int32) (ha : f_X3_leastLevelAround g0 x2 m = some a) : z_Ev z_MT zN zRf (d + 3) (k + 0) 64 [.inr (6, g0), .inr (4, 0), .inl (.int x2)] m ((fun a => (z_cI a, m) : Int32 → zO) a) := by
  refine zk_top (I := (yX3_leastLevelAround, cX3_leastLevelAround, 6, (some .int), [], tX3_leastLevelAround, 0, 3, 5, 0, 0, 0)) (oc := (fun a => (z_cI a, m) : Int32 → zO)) (a := a) rfl (Nat.le_of_ble_eq_true rfl) (fun G R => ?_) ha
  unfold f_X3_leastLevelAround
  refine zk_st R 4 6 [some (.inr (6, g0)), some (.inr (4, 0)), some (.inl (.int x2)), some (.inl (.int (99 : Int32))), some (.inl (.int (0 : Int32))), none] [] m rfl ⟨trivial, trivial, trivial, trivial, trivial⟩ ?_
  refine zk_mask R [true, true, true, true, true, false] rfl ?_
  exact w_X3_leastLevelAround_6 d k g0 hg0 m R zF x2 (99 : Int32) (0 : Int32)
theorem r_X3_isNextTo {i : Nat} {t : List zA} (h : i < zN 5) : z_rcv zN (zKD 66) (.inr (5, i) :: t) := by
  rw [show zKD 66 = 5 from rfl]
  exact ⟨rfl, h⟩
noncomputable def f_X3_isNextTo_3 (g1 : Nat) (m : zM) : Nat → Int32 → Int32 → Int32 → Option (Bool)
  | 0, _, _, _ => none
  | j + 1, x3, x4, x5 =>
    if (4 : Int32) ≤ x5 then
      some false
    else
      Option.bind (f_X4_neighbor g1 x3 x5 m) fun r2 =>
      Option.bind (f_X3_isOnLevel x3 r2 x4 m) fun r3 =>
      if (z_bi r3) = 0 then
        f_X3_isNextTo_3 g1 m j x3 x4 (x5 + (1 : Int32))
      else
        some true
noncomputable def f_X3_isNextTo (g1 : Nat) (x3 : Int32) (x4 : Int32) (m : zM) : Option (Bool) :=
  f_X3_isNextTo_3 g1 m zF x3 x4 (0 : Int32)
theorem w_X3_isNextTo_3 (d k : Nat) {o : zO} {G : Nat → Nat → zL → List zA → zM → Prop} (g1 : Nat) (hg1 : g1 < zN 6) (m : zM) (R : zRu (d + 2) tX3_isNextTo 1 (z_hf []) o G) : ∀ (j : Nat) (x3 : Int32) (x4 : Int32) (x5 : Int32), zLK G (fun a => (z_cB a, m) : Bool → zO) o (f_X3_isNextTo_3 g1 m j x3 x4 x5) some (k + 0) 3 [some (.inr (5, 0)), some (.inr (6, g1)), some (.inr (4, 0)), some (.inl (.int x3)), some (.inl (.int x4)), some (.inl (.int x5))] [] m := by
  intro j
  induction j with
  | zero =>
    intro _ _ _
    exact zk_none
  | succ j ih =>
    intro x3 x4 x5
    unfold f_X3_isNextTo_3
    refine zk_st R 2 6 [some (.inr (5, 0)), some (.inr (6, g1)), some (.inr (4, 0)), some (.inl (.int x3)), some (.inl (.int x4)), some (.inl (.int x5))] [.inl (.int (4 : Int32)), .inl (.int x5)] m rfl ⟨trivial, trivial, trivial⟩ ?_
    refine zk_br R rfl (fun _ => ?_) (fun _ => ?_)
    · refine zk_st R 1 36 [some (.inr (5, 0)), some (.inr (6, g1)), some (.inr (4, 0)), some (.inl (.int x3)), some (.inl (.int x4)), some (.inl (.int x5))] [.inl (.int (0 : Int32))] m rfl ⟨trivial, trivial⟩ ?_
      exact zk_ret R rfl (Or.inl rfl) rfl
    · refine zk_st R 6 16 [some (.inr (5, 0)), some (.inr (6, g1)), some (.inr (4, 0)), some (.inl (.int x3)), some (.inl (.int x4)), some (.inl (.int x5))] [.inl (.int x5), .inl (.int x3), .inr (6, g1), .inl (.int x3), .inr (4, 0), .inr (5, 0)] m rfl ⟨trivial, trivial, trivial, trivial, trivial, trivial, trivial⟩ ?_
      refine zk_call R (fun b => some (.inl (.int b))) (fun _ => m) rfl (r_X4_neighbor hg1) (fun b hb => w_X4_neighbor d 0 g1 hg1 x3 x5 m b hb) (fun r2 => ?_)
      refine zk_st R 1 21 [some (.inr (5, 0)), some (.inr (6, g1)), some (.inr (4, 0)), some (.inl (.int x3)), some (.inl (.int x4)), some (.inl (.int x5))] [.inl (.int x4), .inl (.int r2), .inl (.int x3), .inr (4, 0), .inr (5, 0)] m rfl ⟨trivial, trivial⟩ ?_
      refine zk_call R (fun b => some (.inl (.int (z_bi b)))) (fun _ => m) rfl (r_X3_isOnLevel (Nat.le_of_ble_eq_true rfl)) (fun b hb => w_X3_isOnLevel d 0 x3 r2 x4 m b hb) (fun r3 => ?_)
      refine zk_br R rfl (fun _ => ?_) (fun _ => ?_)
      · refine zk_st R 2 3 [some (.inr (5, 0)), some (.inr (6, g1)), some (.inr (4, 0)), some (.inl (.int x3)), some (.inl (.int x4)), some (.inl (.int (x5 + (1 : Int32))))] [] m rfl ⟨trivial, trivial, trivial⟩ ?_
        refine zk_mask R [true, true, true, true, true, true] rfl ?_
        exact ih x3 x4 (x5 + (1 : Int32))
      · refine zk_st R 1 28 [some (.inr (5, 0)), some (.inr (6, g1)), some (.inr (4, 0)), some (.inl (.int x3)), some (.inl (.int x4)), some (.inl (.int x5))] [.inl (.int (1 : Int32))] m rfl ⟨trivial, trivial⟩ ?_
        exact zk_ret R rfl (Or.inr rfl) rfl
theorem w_X3_isNextTo (d k : Nat) (g1 : Nat) (hg1 : g1 < zN 6) (x3 : Int32) (x4 : Int32) (m : zM) (a : Bool) (ha : f_X3_isNextTo g1 x3 x4 m = some a) : z_Ev z_MT zN zRf (d + 3) (k + 0) 66 [.inr (5, 0), .inr (6, g1), .inr (4, 0), .inl (.int x3), .inl (.int x4)] m ((fun a => (z_cB a, m) : Bool → zO) a) := by
  refine zk_top (I := (yX3_isNextTo, cX3_isNextTo, 6, (some .boolean), [], tX3_isNextTo, 5, 4, 5, 0, 0, 0)) (oc := (fun a => (z_cB a, m) : Bool → zO)) (a := a) rfl (Nat.le_of_ble_eq_true rfl) (fun G R => ?_) ha
  unfold f_X3_isNextTo
  refine zk_st R 2 3 [some (.inr (5, 0)), some (.inr (6, g1)), some (.inr (4, 0)), some (.inl (.int x3)), some (.inl (.int x4)), some (.inl (.int (0 : Int32)))] [] m rfl ⟨trivial, trivial, trivial⟩ ?_
  refine zk_mask R [true, true, true, true, true, true] rfl ?_
  exact w_X3_isNextTo_3 d k g1 hg1 m R zF x3 x4 (0 : Int32)
theorem r_X5_remember {i : Nat} {t : List zA} (h : i < zN 7) : z_rcv zN (zKD 74) (.inr (7, i) :: t) := by
  rw [show zKD 74 = 7 from rfl]
  exact ⟨rfl, h⟩
noncomputable def f_X5_remember_39 (g1 : Nat) (m : zM) : Option (zM) :=
  Option.bind (f_J9_min_7cf53 ((m.1 7 0 2) + (1 : Int32)) (8 : Int32) m) fun r1 =>
  some (z_sI m 7 0 2 r1)
noncomputable def f_X5_remember_22 (g1 : Nat) (s1 : Int32) (m : zM) : Option (zM) :=
  z_oq (f_X5_newestSlot (z_sI m 7 0 1 s1)) fun r1 => z_gd (decide (r1 < 11)) <|
  Option.bind (f_X4_copyFrom r1 g1 (z_sI m 7 0 1 s1)) fun r3 =>
  f_X5_remember_39 g1 r3
noncomputable def f_X5_remember (g1 : Nat) (m : zM) : Option (zM) :=
  if (8 : Int32) ≤ ((m.1 7 0 1) + (1 : Int32)) then
    f_X5_remember_22 g1 (0 : Int32) m
  else
    f_X5_remember_22 g1 ((m.1 7 0 1) + (1 : Int32)) m
theorem w_X5_remember_39 (d k : Nat) {o : zO} {G : Nat → Nat → zL → List zA → zM → Prop} (g1 : Nat) (hg1 : g1 < zN 6) (R : zRu (d + 2) tX5_remember 0 (z_hf []) o G) (m : zM) : zLK G (fun a => (.inl none, a) : zM → zO) o (f_X5_remember_39 g1 m) some (k + 0) 39 [some (.inr (7, 0)), none, none] [] m := by
  unfold f_X5_remember_39
  refine zk_st R 6 48 [some (.inr (7, 0)), none, none] [.inl (.int (8 : Int32)), .inl (.int ((m.1 7 0 2) + (1 : Int32))), .inr (7, 0)] m rfl ⟨trivial, trivial, (Nat.le_of_ble_eq_true rfl), trivial, trivial, trivial, trivial⟩ ?_
  refine zk_call R (fun b => some (.inl (.int b))) (fun _ => m) rfl (r_J9_min_7cf53) (fun b hb => w_J9_min_7cf53 (d + 1) 0 ((m.1 7 0 2) + (1 : Int32)) (8 : Int32) m b hb) (fun r1 => ?_)
  refine zk_st R 1 54 [some (.inr (7, 0)), none, none] [] (z_sI m 7 0 2 r1) rfl ⟨(Nat.le_of_ble_eq_true rfl), trivial⟩ ?_
  exact zk_ret R rfl trivial rfl
theorem w_X5_remember_22 (d k : Nat) {o : zO} {G : Nat → Nat → zL → List zA → zM → Prop} (g1 : Nat) (hg1 : g1 < zN 6) (R : zRu (d + 2) tX5_remember 0 (z_hf []) o G) (s1 : Int32) (m : zM) : zLK G (fun a => (.inl none, a) : zM → zO) o (f_X5_remember_22 g1 s1 m) some (k + 0) 22 [some (.inr (7, 0)), some (.inr (6, g1)), none] [.inl (.int s1), .inr (7, 0)] m := by
  unfold f_X5_remember_22
  refine zk_st R 2 26 [some (.inr (7, 0)), some (.inr (6, g1)), none] [.inr (7, 0)] (z_sI m 7 0 1 s1) rfl ⟨(Nat.le_of_ble_eq_true rfl), trivial, trivial⟩ ?_
  refine zk_callo R rfl (r_X5_newestSlot (Nat.le_of_ble_eq_true rfl)) (fun b hb => w_X5_newestSlot (d + 1) 0 (z_sI m 7 0 1 s1) b hb) (fun r1 => ?_)
  refine zk_gd fun e2 => ?_
  refine zk_st R 2 31 [some (.inr (7, 0)), some (.inr (6, g1)), some (.inr (6, r1))] [.inr (6, r1)] (z_sI m 7 0 1 s1) rfl ⟨trivial, trivial, trivial⟩ ?_
  refine zk_brv R rfl (fun h => h.elim) (fun _ => ?_)
  refine zk_st R 2 36 [some (.inr (7, 0)), some (.inr (6, g1)), some (.inr (6, r1))] [.inr (6, g1), .inr (6, r1)] (z_sI m 7 0 1 s1) rfl ⟨trivial, trivial, trivial⟩ ?_
  refine zk_call R (fun _ => none) id rfl (r_X4_copyFrom (z_lt11 e2)) (fun b hb => w_X4_copyFrom d 0 r1 g1 (z_lt11 e2) hg1 (z_sI m 7 0 1 s1) b hb) (fun r3 => ?_)
  refine zk_mask R [true, false, false] rfl ?_
  exact w_X5_remember_39 d k g1 hg1 R r3
theorem w_X5_remember (d k : Nat) (g1 : Nat) (hg1 : g1 < zN 6) (m : zM) (a : zM) (ha : f_X5_remember g1 m = some a) : z_Ev z_MT zN zRf (d + 3) (k + 0) 74 [.inr (7, 0), .inr (6, g1)] m ((fun a => (.inl none, a) : zM → zO) a) := by
  refine zk_top (I := (yX5_remember, cX5_remember, 3, none, [], tX5_remember, 7, 1, 7, 0, 0, 0)) (oc := (fun a => (.inl none, a) : zM → zO)) (a := a) rfl (Nat.le_of_ble_eq_true rfl) (fun G R => ?_) ha
  unfold f_X5_remember
  refine zk_st R 6 9 [some (.inr (7, 0)), some (.inr (6, g1)), none] [.inl (.int (8 : Int32)), .inl (.int ((m.1 7 0 1) + (1 : Int32))), .inr (7, 0)] m rfl ⟨trivial, trivial, (Nat.le_of_ble_eq_true rfl), trivial, trivial, trivial, trivial⟩ ?_
  refine zk_br R rfl (fun _ => ?_) (fun _ => ?_)
  · refine zk_st R 1 22 [some (.inr (7, 0)), some (.inr (6, g1)), none] [.inl (.int (0 : Int32)), .inr (7, 0)] m rfl ⟨trivial, trivial⟩ ?_
    refine zk_mask R [true, true, false] rfl ?_
    exact w_X5_remember_22 d k g1 hg1 R (0 : Int32) m
  · refine zk_st R 5 22 [some (.inr (7, 0)), some (.inr (6, g1)), none] [.inl (.int ((m.1 7 0 1) + (1 : Int32))), .inr (7, 0)] m rfl ⟨trivial, (Nat.le_of_ble_eq_true rfl), trivial, trivial, trivial, trivial⟩ ?_
    refine zk_mask R [true, true, false] rfl ?_
    exact w_X5_remember_22 d k g1 hg1 R ((m.1 7 0 1) + (1 : Int32)) m
theorem r_X5_takeBack {i : Nat} {t : List zA} (h : i < zN 7) : z_rcv zN (zKD 75) (.inr (7, i) :: t) := by
  rw [show zKD 75 = 7 from rfl]
  exact ⟨rfl, h⟩
noncomputable def f_X5_takeBack_33 (g1 : Nat) (s1 : Int32) (m : zM) : Option (zM) :=
  Option.bind (f_J9_max_7cf53 (((z_sI m 7 0 1 s1).1 7 0 2) - (1 : Int32)) (0 : Int32) (z_sI m 7 0 1 s1)) fun r1 =>
  some (z_sI (z_sI m 7 0 1 s1) 7 0 2 r1)
noncomputable def f_X5_takeBack_14 (g1 : Nat) (m : zM) : Option (zM) :=
  if (m.1 7 0 1) ≤ 0 then
    f_X5_takeBack_33 g1 (7 : Int32) m
  else
    f_X5_takeBack_33 g1 ((m.1 7 0 1) - (1 : Int32)) m
noncomputable def f_X5_takeBack (g1 : Nat) (m : zM) : Option (zM) :=
  z_oq (f_X5_newestSlot m) fun r1 => z_gd (decide (r1 < 11)) <|
  Option.bind (f_X4_copyFrom g1 r1 m) fun r3 =>
  f_X5_takeBack_14 g1 r3
theorem w_X5_takeBack_33 (d k : Nat) {o : zO} {G : Nat → Nat → zL → List zA → zM → Prop} (g1 : Nat) (hg1 : g1 < zN 6) (R : zRu (d + 2) tX5_takeBack 0 (z_hf []) o G) (s1 : Int32) (m : zM) : zLK G (fun a => (.inl none, a) : zM → zO) o (f_X5_takeBack_33 g1 s1 m) some (k + 0) 33 [some (.inr (7, 0)), none, none] [.inl (.int s1), .inr (7, 0)] m := by
  unfold f_X5_takeBack_33
  refine zk_st R 7 44 [some (.inr (7, 0)), none, none] [.inl (.int (0 : Int32)), .inl (.int (((z_sI m 7 0 1 s1).1 7 0 2) - (1 : Int32))), .inr (7, 0)] (z_sI m 7 0 1 s1) rfl ⟨(Nat.le_of_ble_eq_true rfl), trivial, trivial, (Nat.le_of_ble_eq_true rfl), trivial, trivial, trivial, trivial⟩ ?_
  refine zk_call R (fun b => some (.inl (.int b))) (fun _ => (z_sI m 7 0 1 s1)) rfl (r_J9_max_7cf53) (fun b hb => w_J9_max_7cf53 (d + 1) 0 (((z_sI m 7 0 1 s1).1 7 0 2) - (1 : Int32)) (0 : Int32) (z_sI m 7 0 1 s1) b hb) (fun r1 => ?_)
  refine zk_st R 1 50 [some (.inr (7, 0)), none, none] [] (z_sI (z_sI m 7 0 1 s1) 7 0 2 r1) rfl ⟨(Nat.le_of_ble_eq_true rfl), trivial⟩ ?_
  exact zk_ret R rfl trivial rfl
theorem w_X5_takeBack_14 (d k : Nat) {o : zO} {G : Nat → Nat → zL → List zA → zM → Prop} (g1 : Nat) (hg1 : g1 < zN 6) (R : zRu (d + 2) tX5_takeBack 0 (z_hf []) o G) (m : zM) : zLK G (fun a => (.inl none, a) : zM → zO) o (f_X5_takeBack_14 g1 m) some (k + 0) 14 [some (.inr (7, 0)), none, none] [] m := by
  unfold f_X5_takeBack_14
  refine zk_st R 3 19 [some (.inr (7, 0)), none, none] [.inl (.int (m.1 7 0 1)), .inr (7, 0)] m rfl ⟨trivial, trivial, (Nat.le_of_ble_eq_true rfl), trivial⟩ ?_
  refine zk_br R rfl (fun _ => ?_) (fun _ => ?_)
  · refine zk_st R 1 33 [some (.inr (7, 0)), none, none] [.inl (.int (7 : Int32)), .inr (7, 0)] m rfl ⟨trivial, trivial⟩ ?_
    refine zk_mask R [true, false, false] rfl ?_
    exact w_X5_takeBack_33 d k g1 hg1 R (7 : Int32) m
  · refine zk_st R 5 33 [some (.inr (7, 0)), none, none] [.inl (.int ((m.1 7 0 1) - (1 : Int32))), .inr (7, 0)] m rfl ⟨trivial, (Nat.le_of_ble_eq_true rfl), trivial, trivial, trivial, trivial⟩ ?_
    refine zk_mask R [true, false, false] rfl ?_
    exact w_X5_takeBack_33 d k g1 hg1 R ((m.1 7 0 1) - (1 : Int32)) m
theorem w_X5_takeBack (d k : Nat) (g1 : Nat) (hg1 : g1 < zN 6) (m : zM) (a : zM) (ha : f_X5_takeBack g1 m = some a) : z_Ev z_MT zN zRf (d + 3) (k + 0) 75 [.inr (7, 0), .inr (6, g1)] m ((fun a => (.inl none, a) : zM → zO) a) := by
  refine zk_top (I := (yX5_takeBack, cX5_takeBack, 3, none, [], tX5_takeBack, 7, 1, 7, 0, 0, 0)) (oc := (fun a => (.inl none, a) : zM → zO)) (a := a) rfl (Nat.le_of_ble_eq_true rfl) (fun G R => ?_) ha
  unfold f_X5_takeBack
  refine zk_st R 1 1 [some (.inr (7, 0)), some (.inr (6, g1)), none] [.inr (7, 0)] m rfl ⟨trivial, trivial⟩ ?_
  refine zk_callo R rfl (r_X5_newestSlot (Nat.le_of_ble_eq_true rfl)) (fun b hb => w_X5_newestSlot (d + 1) 0 m b hb) (fun r1 => ?_)
  refine zk_gd fun e2 => ?_
  refine zk_st R 2 6 [some (.inr (7, 0)), some (.inr (6, g1)), some (.inr (6, r1))] [.inr (6, r1)] m rfl ⟨trivial, trivial, trivial⟩ ?_
  refine zk_brv R rfl (fun h => h.elim) (fun _ => ?_)
  refine zk_st R 2 11 [some (.inr (7, 0)), some (.inr (6, g1)), some (.inr (6, r1))] [.inr (6, r1), .inr (6, g1)] m rfl ⟨trivial, trivial, trivial⟩ ?_
  refine zk_call R (fun _ => none) id rfl (r_X4_copyFrom hg1) (fun b hb => w_X4_copyFrom d 0 g1 r1 hg1 (z_lt11 e2) m b hb) (fun r3 => ?_)
  refine zk_mask R [true, false, false] rfl ?_
  exact w_X5_takeBack_14 d k g1 hg1 R r3
theorem r_X6_draw {i : Nat} {t : List zA} (h : i < zN 8) : z_rcv zN (zKD 77) (.inr (8, i) :: t) := by
  rw [show zKD 77 = 8 from rfl]
  exact ⟨rfl, h⟩
noncomputable def f_X6_draw_60 (g1 : Nat) : Nat → Int32 → Int32 → Int32 → Int32 → Int32 → Int32 → zM → Option (zM)
  | 0, _, _, _, _, _, _, _ => none
  | j + 1, x4, x5, x6, x7, x8, x9, m =>
    if x8 < x9 then
      some m
    else
      Option.bind (f_X6_moved x9 x7 x8 m) fun r2 =>
      Option.bind (f_X6_moved x9 x6 x8 m) fun r3 =>
      Option.bind (f_X7_put 22 0 x9 ((((x5 + r2) * (m.1 6 g1 0)) + x4) + r3) m) fun r4 =>
      f_X6_draw_60 g1 j x4 x5 x6 x7 x8 (x9 + (1 : Int32)) r4
noncomputable def f_X6_draw (g1 : Nat) (x2 : Int32) (x3 : Int32) (m : zM) : Option (zM) :=
  Option.bind (f_X4_columnOf g1 x2 m) fun r1 =>
  Option.bind (f_X4_rowOf g1 x2 m) fun r2 =>
  Option.bind (f_X4_columnOf g1 x3 m) fun r3 =>
  Option.bind (f_X4_rowOf g1 x3 m) fun r4 =>
  Option.bind (f_J9_abs_0f7a4 (r3 - r1) m) fun r5 =>
  Option.bind (f_J9_abs_0f7a4 (r4 - r2) m) fun r6 =>
  Option.bind (f_J9_max_7cf53 r5 r6 m) fun r7 =>
  f_X6_draw_60 g1 zF r1 r2 (r3 - r1) (r4 - r2) r7 (0 : Int32) (z_sI m 8 0 1 (r7 + (1 : Int32)))
theorem w_X6_draw_60 (d k : Nat) {o : zO} {G : Nat → Nat → zL → List zA → zM → Prop} (g1 : Nat) (hg1 : g1 < zN 6) (R : zRu (d + 2) tX6_draw 0 (z_hf []) o G) : ∀ (j : Nat) (x4 : Int32) (x5 : Int32) (x6 : Int32) (x7 : Int32) (x8 : Int32) (x9 : Int32) (m : zM), zLK G (fun a => (.inl none, a) : zM → zO) o (f_X6_draw_60 g1 j x4 x5 x6 x7 x8 x9 m) some (k + 0) 60 [some (.inr (8, 0)), some (.inr (6, g1)), none, none, some (.inl (.int x4)), some (.inl (.int x5)), some (.inl (.int x6)), some (.inl (.int x7)), some (.inl (.int x8)), some (.inl (.int x9))] [] m := by
  intro j
  induction j with
  | zero =>
    intro _ _ _ _ _ _ _
    exact zk_none
  | succ j ih =>
    intro x4 x5 x6 x7 x8 x9 m
    unfold f_X6_draw_60
    refine zk_st R 2 64 [some (.inr (8, 0)), some (.inr (6, g1)), none, none, some (.inl (.int x4)), some (.inl (.int x5)), some (.inl (.int x6)), some (.inl (.int x7)), some (.inl (.int x8)), some (.inl (.int x9))] [.inl (.int x8), .inl (.int x9)] m rfl ⟨trivial, trivial, trivial⟩ ?_
    refine zk_br R rfl (fun _ => ?_) (fun _ => ?_)
    · exact zk_ret R rfl trivial rfl
    · refine zk_st R 7 81 [some (.inr (8, 0)), some (.inr (6, g1)), none, none, some (.inl (.int x4)), some (.inl (.int x5)), some (.inl (.int x6)), some (.inl (.int x7)), some (.inl (.int x8)), some (.inl (.int x9))] [.inl (.int x8), .inl (.int x7), .inl (.int x9), .inl (.int x5), .inl (.int x9), .inr (22, 0)] m rfl ⟨trivial, (Nat.le_of_ble_eq_true rfl), trivial, trivial, trivial, trivial, trivial, trivial⟩ ?_
      refine zk_call R (fun b => some (.inl (.int b))) (fun _ => m) rfl (r_X6_moved) (fun b hb => w_X6_moved d 0 x9 x7 x8 m b hb) (fun r2 => ?_)
      refine zk_st R 9 99 [some (.inr (8, 0)), some (.inr (6, g1)), none, none, some (.inl (.int x4)), some (.inl (.int x5)), some (.inl (.int x6)), some (.inl (.int x7)), some (.inl (.int x8)), some (.inl (.int x9))] [.inl (.int x8), .inl (.int x6), .inl (.int x9), .inl (.int (((x5 + r2) * (m.1 6 g1 0)) + x4)), .inl (.int x9), .inr (22, 0)] m rfl ⟨trivial, trivial, hg1, trivial, trivial, trivial, trivial, trivial, trivial, trivial⟩ ?_
      refine zk_call R (fun b => some (.inl (.int b))) (fun _ => m) rfl (r_X6_moved) (fun b hb => w_X6_moved d 0 x9 x6 x8 m b hb) (fun r3 => ?_)
      refine zk_st R 1 103 [some (.inr (8, 0)), some (.inr (6, g1)), none, none, some (.inl (.int x4)), some (.inl (.int x5)), some (.inl (.int x6)), some (.inl (.int x7)), some (.inl (.int x8)), some (.inl (.int x9))] [.inl (.int ((((x5 + r2) * (m.1 6 g1 0)) + x4) + r3)), .inl (.int x9), .inr (22, 0)] m rfl ⟨trivial, trivial⟩ ?_
      refine zk_call R (fun _ => none) id rfl (r_X7_put) (fun b hb => w_X7_put_k22 (d + 1) 0 0 (Nat.le_of_ble_eq_true rfl) x9 ((((x5 + r2) * (m.1 6 g1 0)) + x4) + r3) m b hb) (fun r4 => ?_)
      refine zk_st R 2 60 [some (.inr (8, 0)), some (.inr (6, g1)), none, none, some (.inl (.int x4)), some (.inl (.int x5)), some (.inl (.int x6)), some (.inl (.int x7)), some (.inl (.int x8)), some (.inl (.int (x9 + (1 : Int32))))] [] r4 rfl ⟨trivial, trivial, trivial⟩ ?_
      refine zk_mask R [true, true, false, false, true, true, true, true, true, true] rfl ?_
      exact ih x4 x5 x6 x7 x8 (x9 + (1 : Int32)) r4
theorem w_X6_draw (d k : Nat) (g1 : Nat) (hg1 : g1 < zN 6) (x2 : Int32) (x3 : Int32) (m : zM) (a : zM) (ha : f_X6_draw g1 x2 x3 m = some a) : z_Ev z_MT zN zRf (d + 3) (k + 0) 77 [.inr (8, 0), .inr (6, g1), .inl (.int x2), .inl (.int x3)] m ((fun a => (.inl none, a) : zM → zO) a) := by
  refine zk_top (I := (yX6_draw, cX6_draw, 10, none, [], tX6_draw, 8, 3, 8, 0, 0, 0)) (oc := (fun a => (.inl none, a) : zM → zO)) (a := a) rfl (Nat.le_of_ble_eq_true rfl) (fun G R => ?_) ha
  unfold f_X6_draw
  refine zk_st R 2 2 [some (.inr (8, 0)), some (.inr (6, g1)), some (.inl (.int x2)), some (.inl (.int x3)), none, none, none, none, none, none] [.inl (.int x2), .inr (6, g1)] m rfl ⟨trivial, trivial, trivial⟩ ?_
  refine zk_call R (fun b => some (.inl (.int b))) (fun _ => m) rfl (r_X4_columnOf hg1) (fun b hb => w_X4_columnOf (d + 1) 0 g1 hg1 x2 m b hb) (fun r1 => ?_)
  refine zk_st R 3 9 [some (.inr (8, 0)), some (.inr (6, g1)), some (.inl (.int x2)), some (.inl (.int x3)), some (.inl (.int r1)), none, none, none, none, none] [.inl (.int x2), .inr (6, g1)] m rfl ⟨trivial, trivial, trivial, trivial⟩ ?_
  refine zk_call R (fun b => some (.inl (.int b))) (fun _ => m) rfl (r_X4_rowOf hg1) (fun b hb => w_X4_rowOf (d + 1) 0 g1 hg1 x2 m b hb) (fun r2 => ?_)
  refine zk_st R 3 16 [some (.inr (8, 0)), some (.inr (6, g1)), some (.inl (.int x2)), some (.inl (.int x3)), some (.inl (.int r1)), some (.inl (.int r2)), none, none, none, none] [.inl (.int x3), .inr (6, g1)] m rfl ⟨trivial, trivial, trivial, trivial⟩ ?_
  refine zk_call R (fun b => some (.inl (.int b))) (fun _ => m) rfl (r_X4_columnOf hg1) (fun b hb => w_X4_columnOf (d + 1) 0 g1 hg1 x3 m b hb) (fun r3 => ?_)
  refine zk_st R 5 26 [some (.inr (8, 0)), some (.inr (6, g1)), some (.inl (.int x2)), some (.inl (.int x3)), some (.inl (.int r1)), some (.inl (.int r2)), some (.inl (.int (r3 - r1))), none, none, none] [.inl (.int x3), .inr (6, g1)] m rfl ⟨trivial, trivial, trivial, trivial, trivial, trivial⟩ ?_
  refine zk_call R (fun b => some (.inl (.int b))) (fun _ => m) rfl (r_X4_rowOf hg1) (fun b hb => w_X4_rowOf (d + 1) 0 g1 hg1 x3 m b hb) (fun r4 => ?_)
  refine zk_st R 4 36 [some (.inr (8, 0)), some (.inr (6, g1)), some (.inl (.int x2)), some (.inl (.int x3)), some (.inl (.int r1)), some (.inl (.int r2)), some (.inl (.int (r3 - r1))), some (.inl (.int (r4 - r2))), none, none] [.inl (.int (r3 - r1))] m rfl ⟨trivial, trivial, trivial, trivial, trivial⟩ ?_
  refine zk_call R (fun b => some (.inl (.int b))) (fun _ => m) rfl (r_J9_abs_0f7a4) (fun b hb => w_J9_abs_0f7a4 (d + 1) 0 (r3 - r1) m b hb) (fun r5 => ?_)
  refine zk_st R 1 41 [some (.inr (8, 0)), some (.inr (6, g1)), some (.inl (.int x2)), some (.inl (.int x3)), some (.inl (.int r1)), some (.inl (.int r2)), some (.inl (.int (r3 - r1))), some (.inl (.int (r4 - r2))), none, none] [.inl (.int (r4 - r2)), .inl (.int r5)] m rfl ⟨trivial, trivial⟩ ?_
  refine zk_call R (fun b => some (.inl (.int b))) (fun _ => m) rfl (r_J9_abs_0f7a4) (fun b hb => w_J9_abs_0f7a4 (d + 1) 0 (r4 - r2) m b hb) (fun r6 => ?_)
  refine zk_call R (fun b => some (.inl (.int b))) (fun _ => m) rfl (r_J9_max_7cf53) (fun b hb => w_J9_max_7cf53 (d + 1) 0 r5 r6 m b hb) (fun r7 => ?_)
  refine zk_st R 8 60 [some (.inr (8, 0)), some (.inr (6, g1)), some (.inl (.int x2)), some (.inl (.int x3)), some (.inl (.int r1)), some (.inl (.int r2)), some (.inl (.int (r3 - r1))), some (.inl (.int (r4 - r2))), some (.inl (.int r7)), some (.inl (.int (0 : Int32)))] [] (z_sI m 8 0 1 (r7 + (1 : Int32))) rfl ⟨trivial, trivial, trivial, trivial, trivial, (Nat.le_of_ble_eq_true rfl), trivial, trivial, trivial⟩ ?_
  refine zk_mask R [true, true, false, false, true, true, true, true, true, true] rfl ?_
  exact w_X6_draw_60 d k g1 hg1 R zF r1 r2 (r3 - r1) (r4 - r2) r7 (0 : Int32) (z_sI m 8 0 1 (r7 + (1 : Int32)))
theorem r_X6_rises {i : Nat} {t : List zA} (h : i < zN 8) : z_rcv zN (zKD 81) (.inr (8, i) :: t) := by
  rw [show zKD 81 = 8 from rfl]
  exact ⟨rfl, h⟩
noncomputable def f_X6_rises_5 (g1 : Nat) (m : zM) : Nat → Int32 → Int32 → Int32 → Option (Int32)
  | 0, _, _, _ => none
  | j + 1, x2, x3, x4 =>
    if (m.1 8 0 1) ≤ x4 then
      some x3
    else
      Option.bind (f_X6_heightAt g1 x4 m) fun r2 =>
      Option.bind (f_X6_heightAt g1 (x4 - (1 : Int32)) m) fun r3 =>
      Option.bind (f_J9_max_7cf53 (0 : Int32) (x2 * (r2 - r3)) m) fun r4 =>
      f_X6_rises_5 g1 m j x2 (x3 + r4) (x4 + (1 : Int32))
noncomputable def f_X6_rises (g1 : Nat) (x2 : Int32) (m : zM) : Option (Int32) :=
  f_X6_rises_5 g1 m zF x2 (0 : Int32) (1 : Int32)
theorem w_X6_rises_5 (d k : Nat) {o : zO} {G : Nat → Nat → zL → List zA → zM → Prop} (g1 : Nat) (hg1 : g1 < zN 6) (m : zM) (R : zRu (d + 2) tX6_rises 0 (z_hf []) o G) : ∀ (j : Nat) (x2 : Int32) (x3 : Int32) (x4 : Int32), zLK G (fun a => (z_cI a, m) : Int32 → zO) o (f_X6_rises_5 g1 m j x2 x3 x4) some (k + 0) 5 [some (.inr (8, 0)), some (.inr (6, g1)), some (.inl (.int x2)), some (.inl (.int x3)), some (.inl (.int x4))] [] m := by
  intro j
  induction j with
  | zero =>
    intro _ _ _
    exact zk_none
  | succ j ih =>
    intro x2 x3 x4
    unfold f_X6_rises_5
    refine zk_st R 3 11 [some (.inr (8, 0)), some (.inr (6, g1)), some (.inl (.int x2)), some (.inl (.int x3)), some (.inl (.int x4))] [.inl (.int (m.1 8 0 1)), .inl (.int x4)] m rfl ⟨trivial, trivial, (Nat.le_of_ble_eq_true rfl), trivial⟩ ?_
    refine zk_br R rfl (fun _ => ?_) (fun _ => ?_)
    · refine zk_st R 1 47 [some (.inr (8, 0)), some (.inr (6, g1)), some (.inl (.int x2)), some (.inl (.int x3)), some (.inl (.int x4))] [.inl (.int x3)] m rfl ⟨trivial, trivial⟩ ?_
      exact zk_ret R rfl trivial rfl
    · refine zk_st R 6 21 [some (.inr (8, 0)), some (.inr (6, g1)), some (.inl (.int x2)), some (.inl (.int x3)), some (.inl (.int x4))] [.inl (.int x4), .inr (6, g1), .inr (8, 0), .inl (.int x2), .inl (.int (0 : Int32)), .inl (.int x3)] m rfl ⟨trivial, trivial, trivial, trivial, trivial, trivial, trivial⟩ ?_
      refine zk_call R (fun b => some (.inl (.int b))) (fun _ => m) rfl (r_X6_heightAt (Nat.le_of_ble_eq_true rfl)) (fun b hb => w_X6_heightAt d 0 g1 hg1 x4 m b hb) (fun r2 => ?_)
      refine zk_st R 5 30 [some (.inr (8, 0)), some (.inr (6, g1)), some (.inl (.int x2)), some (.inl (.int x3)), some (.inl (.int x4))] [.inl (.int (x4 - (1 : Int32))), .inr (6, g1), .inr (8, 0), .inl (.int r2), .inl (.int x2), .inl (.int (0 : Int32)), .inl (.int x3)] m rfl ⟨trivial, trivial, trivial, trivial, trivial, trivial⟩ ?_
      refine zk_call R (fun b => some (.inl (.int b))) (fun _ => m) rfl (r_X6_heightAt (Nat.le_of_ble_eq_true rfl)) (fun b hb => w_X6_heightAt d 0 g1 hg1 (x4 - (1 : Int32)) m b hb) (fun r3 => ?_)
      refine zk_st R 2 35 [some (.inr (8, 0)), some (.inr (6, g1)), some (.inl (.int x2)), some (.inl (.int x3)), some (.inl (.int x4))] [.inl (.int (x2 * (r2 - r3))), .inl (.int (0 : Int32)), .inl (.int x3)] m rfl ⟨trivial, trivial, trivial⟩ ?_
      refine zk_call R (fun b => some (.inl (.int b))) (fun _ => m) rfl (r_J9_max_7cf53) (fun b hb => w_J9_max_7cf53 (d + 1) 0 (0 : Int32) (x2 * (r2 - r3)) m b hb) (fun r4 => ?_)
      refine zk_st R 4 5 [some (.inr (8, 0)), some (.inr (6, g1)), some (.inl (.int x2)), some (.inl (.int (x3 + r4))), some (.inl (.int (x4 + (1 : Int32))))] [] m rfl ⟨trivial, trivial, trivial, trivial, trivial⟩ ?_
      refine zk_mask R [true, true, true, true, true] rfl ?_
      exact ih x2 (x3 + r4) (x4 + (1 : Int32))
theorem w_X6_rises (d k : Nat) (g1 : Nat) (hg1 : g1 < zN 6) (x2 : Int32) (m : zM) (a : Int32) (ha : f_X6_rises g1 x2 m = some a) : z_Ev z_MT zN zRf (d + 3) (k + 0) 81 [.inr (8, 0), .inr (6, g1), .inl (.int x2)] m ((fun a => (z_cI a, m) : Int32 → zO) a) := by
  refine zk_top (I := (yX6_rises, cX6_rises, 5, (some .int), [], tX6_rises, 8, 2, 8, 0, 0, 0)) (oc := (fun a => (z_cI a, m) : Int32 → zO)) (a := a) rfl (Nat.le_of_ble_eq_true rfl) (fun G R => ?_) ha
  unfold f_X6_rises
  refine zk_st R 4 5 [some (.inr (8, 0)), some (.inr (6, g1)), some (.inl (.int x2)), some (.inl (.int (0 : Int32))), some (.inl (.int (1 : Int32)))] [] m rfl ⟨trivial, trivial, trivial, trivial, trivial⟩ ?_
  refine zk_mask R [true, true, true, true, true] rfl ?_
  exact w_X6_rises_5 d k g1 hg1 m R zF x2 (0 : Int32) (1 : Int32)
theorem r_X6_isOpen {i : Nat} {t : List zA} (h : i < zN 8) : z_rcv zN (zKD 82) (.inr (8, i) :: t) := by
  rw [show zKD 82 = 8 from rfl]
  exact ⟨rfl, h⟩
noncomputable def f_X6_isOpen_31 (g1 : Nat) (m : zM) : Nat → Int32 → Int32 → Int32 → Int32 → Option (Bool)
  | 0, _, _, _, _ => none
  | j + 1, x3, x4, x5, x6 =>
    if x3 ≤ x6 then
      some true
    else
      Option.bind (f_X6_heightAt g1 x6 m) fun r2 =>
      if (x3 * (r2 - x4)) ≤ (x6 * x5) then
        f_X6_isOpen_31 g1 m j x3 x4 x5 (x6 + (1 : Int32))
      else
        some false
noncomputable def f_X6_isOpen (g1 : Nat) (x2 : Int32) (m : zM) : Option (Bool) :=
  Option.bind (f_X6_heightAt g1 (0 : Int32) m) fun r1 =>
  Option.bind (f_X6_heightAt g1 ((m.1 8 0 1) - (1 : Int32)) m) fun r2 =>
  f_X6_isOpen_31 g1 m zF ((m.1 8 0 1) - (1 : Int32)) (r1 + x2) (r2 - (r1 + x2)) (1 : Int32)
theorem w_X6_isOpen_31 (d k : Nat) {o : zO} {G : Nat → Nat → zL → List zA → zM → Prop} (g1 : Nat) (hg1 : g1 < zN 6) (m : zM) (R : zRu (d + 2) tX6_isOpen 1 (z_hf []) o G) : ∀ (j : Nat) (x3 : Int32) (x4 : Int32) (x5 : Int32) (x6 : Int32), zLK G (fun a => (z_cB a, m) : Bool → zO) o (f_X6_isOpen_31 g1 m j x3 x4 x5 x6) some (k + 0) 31 [some (.inr (8, 0)), some (.inr (6, g1)), none, some (.inl (.int x3)), some (.inl (.int x4)), some (.inl (.int x5)), some (.inl (.int x6))] [] m := by
  intro j
  induction j with
  | zero =>
    intro _ _ _ _
    exact zk_none
  | succ j ih =>
    intro x3 x4 x5 x6
    unfold f_X6_isOpen_31
    refine zk_st R 2 34 [some (.inr (8, 0)), some (.inr (6, g1)), none, some (.inl (.int x3)), some (.inl (.int x4)), some (.inl (.int x5)), some (.inl (.int x6))] [.inl (.int x3), .inl (.int x6)] m rfl ⟨trivial, trivial, trivial⟩ ?_
    refine zk_br R rfl (fun _ => ?_) (fun _ => ?_)
    · refine zk_st R 1 66 [some (.inr (8, 0)), some (.inr (6, g1)), none, some (.inl (.int x3)), some (.inl (.int x4)), some (.inl (.int x5)), some (.inl (.int x6))] [.inl (.int (1 : Int32))] m rfl ⟨trivial, trivial⟩ ?_
      exact zk_ret R rfl (Or.inr rfl) rfl
    · refine zk_st R 4 42 [some (.inr (8, 0)), some (.inr (6, g1)), none, some (.inl (.int x3)), some (.inl (.int x4)), some (.inl (.int x5)), some (.inl (.int x6))] [.inl (.int x6), .inr (6, g1), .inr (8, 0), .inl (.int x3)] m rfl ⟨trivial, trivial, trivial, trivial, trivial⟩ ?_
      refine zk_call R (fun b => some (.inl (.int b))) (fun _ => m) rfl (r_X6_heightAt (Nat.le_of_ble_eq_true rfl)) (fun b hb => w_X6_heightAt d 0 g1 hg1 x6 m b hb) (fun r2 => ?_)
      refine zk_st R 6 54 [some (.inr (8, 0)), some (.inr (6, g1)), none, some (.inl (.int x3)), some (.inl (.int x4)), some (.inl (.int x5)), some (.inl (.int x6))] [.inl (.int (x6 * x5)), .inl (.int (x3 * (r2 - x4)))] m rfl ⟨trivial, trivial, trivial, trivial, trivial, trivial, trivial⟩ ?_
      refine zk_br R rfl (fun _ => ?_) (fun _ => ?_)
      · refine zk_st R 2 31 [some (.inr (8, 0)), some (.inr (6, g1)), none, some (.inl (.int x3)), some (.inl (.int x4)), some (.inl (.int x5)), some (.inl (.int (x6 + (1 : Int32))))] [] m rfl ⟨trivial, trivial, trivial⟩ ?_
        refine zk_mask R [true, true, false, true, true, true, true] rfl ?_
        exact ih x3 x4 x5 (x6 + (1 : Int32))
      · refine zk_st R 1 58 [some (.inr (8, 0)), some (.inr (6, g1)), none, some (.inl (.int x3)), some (.inl (.int x4)), some (.inl (.int x5)), some (.inl (.int x6))] [.inl (.int (0 : Int32))] m rfl ⟨trivial, trivial⟩ ?_
        exact zk_ret R rfl (Or.inl rfl) rfl
theorem w_X6_isOpen (d k : Nat) (g1 : Nat) (hg1 : g1 < zN 6) (x2 : Int32) (m : zM) (a : Bool) (ha : f_X6_isOpen g1 x2 m = some a) : z_Ev z_MT zN zRf (d + 3) (k + 0) 82 [.inr (8, 0), .inr (6, g1), .inl (.int x2)] m ((fun a => (z_cB a, m) : Bool → zO) a) := by
  refine zk_top (I := (yX6_isOpen, cX6_isOpen, 7, (some .boolean), [], tX6_isOpen, 8, 2, 8, 0, 0, 0)) (oc := (fun a => (z_cB a, m) : Bool → zO)) (a := a) rfl (Nat.le_of_ble_eq_true rfl) (fun G R => ?_) ha
  unfold f_X6_isOpen
  refine zk_st R 8 10 [some (.inr (8, 0)), some (.inr (6, g1)), some (.inl (.int x2)), some (.inl (.int ((m.1 8 0 1) - (1 : Int32)))), none, none, none] [.inl (.int (0 : Int32)), .inr (6, g1), .inr (8, 0)] m rfl ⟨trivial, (Nat.le_of_ble_eq_true rfl), trivial, trivial, trivial, trivial, trivial, trivial, trivial⟩ ?_
  refine zk_call R (fun b => some (.inl (.int b))) (fun _ => m) rfl (r_X6_heightAt (Nat.le_of_ble_eq_true rfl)) (fun b hb => w_X6_heightAt d 0 g1 hg1 (0 : Int32) m b hb) (fun r1 => ?_)
  refine zk_st R 6 20 [some (.inr (8, 0)), some (.inr (6, g1)), some (.inl (.int x2)), some (.inl (.int ((m.1 8 0 1) - (1 : Int32)))), some (.inl (.int (r1 + x2))), none, none] [.inl (.int ((m.1 8 0 1) - (1 : Int32))), .inr (6, g1), .inr (8, 0)] m rfl ⟨trivial, trivial, trivial, trivial, trivial, trivial, trivial⟩ ?_
  refine zk_call R (fun b => some (.inl (.int b))) (fun _ => m) rfl (r_X6_heightAt (Nat.le_of_ble_eq_true rfl)) (fun b hb => w_X6_heightAt d 0 g1 hg1 ((m.1 8 0 1) - (1 : Int32)) m b hb) (fun r2 => ?_)
  refine zk_st R 5 31 [some (.inr (8, 0)), some (.inr (6, g1)), some (.inl (.int x2)), some (.inl (.int ((m.1 8 0 1) - (1 : Int32)))), some (.inl (.int (r1 + x2))), some (.inl (.int (r2 - (r1 + x2)))), some (.inl (.int (1 : Int32)))] [] m rfl ⟨trivial, trivial, trivial, trivial, trivial, trivial⟩ ?_
  refine zk_mask R [true, true, false, true, true, true, true] rfl ?_
  exact w_X6_isOpen_31 d k g1 hg1 m R zF ((m.1 8 0 1) - (1 : Int32)) (r1 + x2) (r2 - (r1 + x2)) (1 : Int32)
theorem r_X8_findOrders {i : Nat} {t : List zA} (h : i < zN 9) : z_rcv zN (zKD 85) (.inr (9, i) :: t) := by
  rw [show zKD 85 = 9 from rfl]
  exact ⟨rfl, h⟩
noncomputable def f_X8_findOrders_93 (c34 : Int32 → zM → Option (zM)) (x2 : Int32) (x3 : Int32) (s0 : Int32) (m : zM) : Option (zM) :=
  Option.bind (f_X7_put 20 48 x3 s0 m) fun r1 =>
  Option.bind (f_X7_at 20 39 x3 r1) fun r2 =>
  Option.bind (f_X8_feed r2 s0 r1) fun r3 =>
  c34 (x2 + (1 : Int32)) r3
noncomputable def f_X8_findOrders_34 : Nat → Int32 → zM → Option (zM)
  | 0, _, _ => none
  | j + 1, x2, m =>
    if (m.1 5 0 0) ≤ x2 then
      some m
    else
      Option.bind (f_X7_at 20 40 x2 m) fun r2 =>
      Option.bind (f_X7_has (m.2.1 9 0 0) r2 m) fun r3 =>
      if (z_bi r3) = 0 then
        f_X8_findOrders_34 j (x2 + (1 : Int32)) m
      else
        Option.bind (f_X7_at 20 50 r2 m) fun r5 =>
        Option.bind (f_X7_at 20 51 r2 m) fun r6 =>
        if r6 = (1 : Int32) then
          f_X8_findOrders_93 (f_X8_findOrders_34 j) x2 r2 r5 m
        else
          f_X8_findOrders_93 (f_X8_findOrders_34 j) x2 r2 (r5 + (1 : Int32)) m
noncomputable def f_X8_findOrders (m : zM) : Option (zM) :=
  Option.bind (f_J7_fill_53178 20 48 (0 : Int32) m) fun r1 =>
  Option.bind (f_J7_fill_53178 20 49 (0 : Int32) r1) fun r2 =>
  Option.bind (f_J7_fill_53178 20 50 (0 : Int32) r2) fun r3 =>
  Option.bind (f_J7_fill_53178 20 51 (0 : Int32) r3) fun r4 =>
  f_X8_findOrders_34 zF (0 : Int32) r4
theorem w_X8_findOrders_93 (d k : Nat) {o : zO} {G : Nat → Nat → zL → List zA → zM → Prop} (R : zRu (d + 2) tX8_findOrders 0 (z_hf []) o G) (c34 : Int32 → zM → Option (zM)) (hc34 : ∀ (x2 : Int32) (m : zM), zLK G (fun a => (.inl none, a) : zM → zO) o (c34 x2 m) some (k + 0) 34 [some (.inr (9, 0)), some (.inr (5, 0)), some (.inl (.int x2)), none, none, none] [] m) (x2 : Int32) (x3 : Int32) (s0 : Int32) (m : zM) : zLK G (fun a => (.inl none, a) : zM → zO) o (f_X8_findOrders_93 c34 x2 x3 s0 m) some (k + 0) 93 [some (.inr (9, 0)), some (.inr (5, 0)), some (.inl (.int x2)), some (.inl (.int x3)), none, none] [.inl (.int s0)] m := by
  unfold f_X8_findOrders_93
  refine zk_st R 5 102 [some (.inr (9, 0)), some (.inr (5, 0)), some (.inl (.int x2)), some (.inl (.int x3)), none, some (.inl (.int s0))] [.inl (.int s0), .inl (.int x3), .inr (20, 48)] m rfl ⟨trivial, trivial, (Nat.le_of_ble_eq_true rfl), trivial, trivial, trivial⟩ ?_
  refine zk_call R (fun _ => none) id rfl (r_X7_put) (fun b hb => w_X7_put_k20 (d + 1) 0 48 (Nat.le_of_ble_eq_true rfl) x3 s0 m b hb) (fun r1 => ?_)
  refine zk_st R 4 111 [some (.inr (9, 0)), some (.inr (5, 0)), some (.inl (.int x2)), some (.inl (.int x3)), none, some (.inl (.int s0))] [.inl (.int x3), .inr (20, 39), .inr (9, 0)] r1 rfl ⟨trivial, trivial, (Nat.le_of_ble_eq_true rfl), trivial, trivial⟩ ?_
  refine zk_call R (fun b => some (.inl (.int b))) (fun _ => r1) rfl (r_X7_at) (fun b hb => w_X7_at_k20 (d + 1) 0 39 (Nat.le_of_ble_eq_true rfl) x3 r1 b hb) (fun r2 => ?_)
  refine zk_st R 1 116 [some (.inr (9, 0)), some (.inr (5, 0)), some (.inl (.int x2)), some (.inl (.int x3)), none, some (.inl (.int s0))] [.inl (.int s0), .inl (.int r2), .inr (9, 0)] r1 rfl ⟨trivial, trivial⟩ ?_
  refine zk_call R (fun _ => none) id rfl (r_X8_feed (Nat.le_of_ble_eq_true rfl)) (fun b hb => w_X8_feed d 0 r2 s0 r1 b hb) (fun r3 => ?_)
  refine zk_st R 2 34 [some (.inr (9, 0)), some (.inr (5, 0)), some (.inl (.int (x2 + (1 : Int32)))), some (.inl (.int x3)), none, some (.inl (.int s0))] [] r3 rfl ⟨trivial, trivial, trivial⟩ ?_
  refine zk_mask R [true, true, true, false, false, false] rfl ?_
  exact hc34 (x2 + (1 : Int32)) r3
theorem w_X8_findOrders_34 (d k : Nat) {o : zO} {G : Nat → Nat → zL → List zA → zM → Prop} (R : zRu (d + 2) tX8_findOrders 0 (z_hf []) o G) : ∀ (j : Nat) (x2 : Int32) (m : zM), zLK G (fun a => (.inl none, a) : zM → zO) o (f_X8_findOrders_34 j x2 m) some (k + 0) 34 [some (.inr (9, 0)), some (.inr (5, 0)), some (.inl (.int x2)), none, none, none] [] m := by
  intro j
  induction j with
  | zero =>
    intro _ _
    exact zk_none
  | succ j ih =>
    intro x2 m
    unfold f_X8_findOrders_34
    refine zk_st R 3 39 [some (.inr (9, 0)), some (.inr (5, 0)), some (.inl (.int x2)), none, none, none] [.inl (.int (m.1 5 0 0)), .inl (.int x2)] m rfl ⟨trivial, trivial, (Nat.le_of_ble_eq_true rfl), trivial⟩ ?_
    refine zk_br R rfl (fun _ => ?_) (fun _ => ?_)
    · exact zk_ret R rfl trivial rfl
    · refine zk_st R 3 47 [some (.inr (9, 0)), some (.inr (5, 0)), some (.inl (.int x2)), none, none, none] [.inl (.int x2), .inr (20, 40)] m rfl ⟨trivial, (Nat.le_of_ble_eq_true rfl), trivial, trivial⟩ ?_
      refine zk_call R (fun b => some (.inl (.int b))) (fun _ => m) rfl (r_X7_at) (fun b hb => w_X7_at_k20 (d + 1) 0 40 (Nat.le_of_ble_eq_true rfl) x2 m b hb) (fun r2 => ?_)
      refine zk_st R 4 56 [some (.inr (9, 0)), some (.inr (5, 0)), some (.inl (.int x2)), some (.inl (.int r2)), none, none] [.inl (.int r2), .inl (.long (m.2.1 9 0 0))] m rfl ⟨trivial, trivial, (Nat.le_of_ble_eq_true rfl), trivial, trivial⟩ ?_
      refine zk_call R (fun b => some (.inl (.int (z_bi b)))) (fun _ => m) rfl (r_X7_has) (fun b hb => w_X7_has (d + 1) 0 (m.2.1 9 0 0) r2 m b hb) (fun r3 => ?_)
      refine zk_br R rfl (fun _ => ?_) (fun _ => ?_)
      · refine zk_st R 2 34 [some (.inr (9, 0)), some (.inr (5, 0)), some (.inl (.int (x2 + (1 : Int32)))), some (.inl (.int r2)), none, none] [] m rfl ⟨trivial, trivial, trivial⟩ ?_
        refine zk_mask R [true, true, true, false, false, false] rfl ?_
        exact ih (x2 + (1 : Int32)) m
      · refine zk_st R 3 67 [some (.inr (9, 0)), some (.inr (5, 0)), some (.inl (.int x2)), some (.inl (.int r2)), none, none] [.inl (.int r2), .inr (20, 50)] m rfl ⟨trivial, (Nat.le_of_ble_eq_true rfl), trivial, trivial⟩ ?_
        refine zk_call R (fun b => some (.inl (.int b))) (fun _ => m) rfl (r_X7_at) (fun b hb => w_X7_at_k20 (d + 1) 0 50 (Nat.le_of_ble_eq_true rfl) r2 m b hb) (fun r5 => ?_)
        refine zk_st R 4 77 [some (.inr (9, 0)), some (.inr (5, 0)), some (.inl (.int x2)), some (.inl (.int r2)), some (.inl (.int r5)), none] [.inl (.int r2), .inr (20, 51)] m rfl ⟨trivial, trivial, (Nat.le_of_ble_eq_true rfl), trivial, trivial⟩ ?_
        refine zk_call R (fun b => some (.inl (.int b))) (fun _ => m) rfl (r_X7_at) (fun b hb => w_X7_at_k20 (d + 1) 0 51 (Nat.le_of_ble_eq_true rfl) r2 m b hb) (fun r6 => ?_)
        refine zk_st R 1 81 [some (.inr (9, 0)), some (.inr (5, 0)), some (.inl (.int x2)), some (.inl (.int r2)), some (.inl (.int r5)), none] [.inl (.int (1 : Int32)), .inl (.int r6)] m rfl ⟨trivial, trivial⟩ ?_
        refine zk_br R rfl (fun _ => ?_) (fun _ => ?_)
        · refine zk_st R 2 93 [some (.inr (9, 0)), some (.inr (5, 0)), some (.inl (.int x2)), some (.inl (.int r2)), some (.inl (.int r5)), none] [.inl (.int r5)] m rfl ⟨trivial, trivial, trivial⟩ ?_
          refine zk_mask R [true, true, true, true, false, false] rfl ?_
          exact w_X8_findOrders_93 d k R (f_X8_findOrders_34 j) ih x2 r2 r5 m
        · refine zk_st R 3 93 [some (.inr (9, 0)), some (.inr (5, 0)), some (.inl (.int x2)), some (.inl (.int r2)), some (.inl (.int r5)), none] [.inl (.int (r5 + (1 : Int32)))] m rfl ⟨trivial, trivial, trivial, trivial⟩ ?_
          refine zk_mask R [true, true, true, true, false, false] rfl ?_
          exact w_X8_findOrders_93 d k R (f_X8_findOrders_34 j) ih x2 r2 (r5 + (1 : Int32)) m
theorem w_X8_findOrders (d k : Nat) (m : zM) (a : zM) (ha : f_X8_findOrders m = some a) : z_Ev z_MT zN zRf (d + 3) (k + 0) 85 [.inr (9, 0), .inr (5, 0)] m ((fun a => (.inl none, a) : zM → zO) a) := by
  refine zk_top (I := (yX8_findOrders, cX8_findOrders, 6, none, [], tX8_findOrders, 9, 1, 9, 0, 0, 0)) (oc := (fun a => (.inl none, a) : zM → zO)) (a := a) rfl (Nat.le_of_ble_eq_true rfl) (fun G R => ?_) ha
  unfold f_X8_findOrders
  refine zk_st R 3 5 [some (.inr (9, 0)), some (.inr (5, 0)), none, none, none, none] [.inl (.int (0 : Int32)), .inr (20, 48)] m rfl ⟨trivial, (Nat.le_of_ble_eq_true rfl), trivial, trivial⟩ ?_
  refine zk_call R (fun _ => none) id rfl (r_J7_fill_53178) (fun b hb => w_J7_fill_53178_k20 (d + 1) 0 48 (Nat.le_of_ble_eq_true rfl) (0 : Int32) m b hb) (fun r1 => ?_)
  refine zk_st R 3 13 [some (.inr (9, 0)), some (.inr (5, 0)), none, none, none, none] [.inl (.int (0 : Int32)), .inr (20, 49)] r1 rfl ⟨trivial, (Nat.le_of_ble_eq_true rfl), trivial, trivial⟩ ?_
  refine zk_call R (fun _ => none) id rfl (r_J7_fill_53178) (fun b hb => w_J7_fill_53178_k20 (d + 1) 0 49 (Nat.le_of_ble_eq_true rfl) (0 : Int32) r1 b hb) (fun r2 => ?_)
  refine zk_st R 3 21 [some (.inr (9, 0)), some (.inr (5, 0)), none, none, none, none] [.inl (.int (0 : Int32)), .inr (20, 50)] r2 rfl ⟨trivial, (Nat.le_of_ble_eq_true rfl), trivial, trivial⟩ ?_
  refine zk_call R (fun _ => none) id rfl (r_J7_fill_53178) (fun b hb => w_J7_fill_53178_k20 (d + 1) 0 50 (Nat.le_of_ble_eq_true rfl) (0 : Int32) r2 b hb) (fun r3 => ?_)
  refine zk_st R 3 29 [some (.inr (9, 0)), some (.inr (5, 0)), none, none, none, none] [.inl (.int (0 : Int32)), .inr (20, 51)] r3 rfl ⟨trivial, (Nat.le_of_ble_eq_true rfl), trivial, trivial⟩ ?_
  refine zk_call R (fun _ => none) id rfl (r_J7_fill_53178) (fun b hb => w_J7_fill_53178_k20 (d + 1) 0 51 (Nat.le_of_ble_eq_true rfl) (0 : Int32) r3 b hb) (fun r4 => ?_)
  refine zk_st R 2 34 [some (.inr (9, 0)), some (.inr (5, 0)), some (.inl (.int (0 : Int32))), none, none, none] [] r4 rfl ⟨trivial, trivial, trivial⟩ ?_
  refine zk_mask R [true, true, true, false, false, false] rfl ?_
  exact w_X8_findOrders_34 d k R zF (0 : Int32) r4
theorem r_X8_beginReaches {i : Nat} {t : List zA} (h : i < zN 9) : z_rcv zN (zKD 88) (.inr (9, i) :: t) := by
  rw [show zKD 88 = 9 from rfl]
  exact ⟨rfl, h⟩
noncomputable def f_X8_beginReaches_20 (g1 : Nat) : Nat → Int32 → Int32 → zM → Option (zM)
  | 0, _, _, _ => none
  | j + 1, x2, x3, m =>
    if x2 ≤ x3 then
      some m
    else
      Option.bind (f_X8_isBeginning x3 m) fun r2 =>
      if (z_bi r2) = 0 then
        f_X8_beginReaches_20 g1 j x2 (x3 + (1 : Int32)) m
      else
        Option.bind (f_X7_put 20 52 x3 (m.1 9 0 6) m) fun r4 =>
        Option.bind (f_X7_put 20 53 (r4.1 9 0 6) x3 r4) fun r5 =>
        f_X8_beginReaches_20 g1 j x2 (x3 + (1 : Int32)) (z_sI r5 9 0 6 ((r5.1 9 0 6) + (1 : Int32)))
noncomputable def f_X8_beginReaches (g1 : Nat) (m : zM) : Option (zM) :=
  Option.bind (f_J7_fill_53178 20 55 (0 : Int32) m) fun r1 =>
  Option.bind (f_X4_size g1 (z_sI r1 9 0 6 (0 : Int32))) fun r2 =>
  f_X8_beginReaches_20 g1 zF r2 (0 : Int32) (z_sI r1 9 0 6 (0 : Int32))
theorem w_X8_beginReaches_20 (d k : Nat) {o : zO} {G : Nat → Nat → zL → List zA → zM → Prop} (g1 : Nat) (hg1 : g1 < zN 6) (R : zRu (d + 2) tX8_beginReaches 0 (z_hf []) o G) : ∀ (j : Nat) (x2 : Int32) (x3 : Int32) (m : zM), zLK G (fun a => (.inl none, a) : zM → zO) o (f_X8_beginReaches_20 g1 j x2 x3 m) some (k + 0) 20 [some (.inr (9, 0)), none, some (.inl (.int x2)), some (.inl (.int x3))] [] m := by
  intro j
  induction j with
  | zero =>
    intro _ _ _
    exact zk_none
  | succ j ih =>
    intro x2 x3 m
    unfold f_X8_beginReaches_20
    refine zk_st R 2 22 [some (.inr (9, 0)), none, some (.inl (.int x2)), some (.inl (.int x3))] [.inl (.int x2), .inl (.int x3)] m rfl ⟨trivial, trivial, trivial⟩ ?_
    refine zk_br R rfl (fun _ => ?_) (fun _ => ?_)
    · exact zk_ret R rfl trivial rfl
    · refine zk_st R 2 27 [some (.inr (9, 0)), none, some (.inl (.int x2)), some (.inl (.int x3))] [.inl (.int x3), .inr (9, 0)] m rfl ⟨trivial, trivial, trivial⟩ ?_
      refine zk_call R (fun b => some (.inl (.int (z_bi b)))) (fun _ => m) rfl (r_X8_isBeginning (Nat.le_of_ble_eq_true rfl)) (fun b hb => w_X8_isBeginning d 0 x3 m b hb) (fun r2 => ?_)
      refine zk_br R rfl (fun _ => ?_) (fun _ => ?_)
      · refine zk_st R 2 20 [some (.inr (9, 0)), none, some (.inl (.int x2)), some (.inl (.int (x3 + (1 : Int32))))] [] m rfl ⟨trivial, trivial, trivial⟩ ?_
        refine zk_mask R [true, false, true, true] rfl ?_
        exact ih x2 (x3 + (1 : Int32)) m
      · refine zk_st R 5 42 [some (.inr (9, 0)), none, some (.inl (.int x2)), some (.inl (.int x3))] [.inl (.int (m.1 9 0 6)), .inl (.int x3), .inr (20, 52)] m rfl ⟨trivial, (Nat.le_of_ble_eq_true rfl), trivial, trivial, (Nat.le_of_ble_eq_true rfl), trivial⟩ ?_
        refine zk_call R (fun _ => none) id rfl (r_X7_put) (fun b hb => w_X7_put_k20 (d + 1) 0 52 (Nat.le_of_ble_eq_true rfl) x3 (m.1 9 0 6) m b hb) (fun r4 => ?_)
        refine zk_st R 5 54 [some (.inr (9, 0)), none, some (.inl (.int x2)), some (.inl (.int x3))] [.inl (.int x3), .inl (.int (r4.1 9 0 6)), .inr (20, 53)] r4 rfl ⟨trivial, (Nat.le_of_ble_eq_true rfl), trivial, (Nat.le_of_ble_eq_true rfl), trivial, trivial⟩ ?_
        refine zk_call R (fun _ => none) id rfl (r_X7_put) (fun b hb => w_X7_put_k20 (d + 1) 0 53 (Nat.le_of_ble_eq_true rfl) (r4.1 9 0 6) x3 r4 b hb) (fun r5 => ?_)
        refine zk_st R 8 20 [some (.inr (9, 0)), none, some (.inl (.int x2)), some (.inl (.int (x3 + (1 : Int32))))] [] (z_sI r5 9 0 6 ((r5.1 9 0 6) + (1 : Int32))) rfl ⟨trivial, trivial, (Nat.le_of_ble_eq_true rfl), trivial, trivial, (Nat.le_of_ble_eq_true rfl), trivial, trivial, trivial⟩ ?_
        refine zk_mask R [true, false, true, true] rfl ?_
        exact ih x2 (x3 + (1 : Int32)) (z_sI r5 9 0 6 ((r5.1 9 0 6) + (1 : Int32)))
theorem w_X8_beginReaches (d k : Nat) (g1 : Nat) (hg1 : g1 < zN 6) (m : zM) (a : zM) (ha : f_X8_beginReaches g1 m = some a) : z_Ev z_MT zN zRf (d + 3) (k + 0) 88 [.inr (9, 0), .inr (6, g1)] m ((fun a => (.inl none, a) : zM → zO) a) := by
  refine zk_top (I := (yX8_beginReaches, cX8_beginReaches, 4, none, [], tX8_beginReaches, 9, 1, 9, 0, 0, 0)) (oc := (fun a => (.inl none, a) : zM → zO)) (a := a) rfl (Nat.le_of_ble_eq_true rfl) (fun G R => ?_) ha
  unfold f_X8_beginReaches
  refine zk_st R 3 5 [some (.inr (9, 0)), some (.inr (6, g1)), none, none] [.inl (.int (0 : Int32)), .inr (20, 55)] m rfl ⟨trivial, (Nat.le_of_ble_eq_true rfl), trivial, trivial⟩ ?_
  refine zk_call R (fun _ => none) id rfl (r_J7_fill_53178) (fun b hb => w_J7_fill_53178_k20 (d + 1) 0 55 (Nat.le_of_ble_eq_true rfl) (0 : Int32) m b hb) (fun r1 => ?_)
  refine zk_st R 4 14 [some (.inr (9, 0)), some (.inr (6, g1)), none, none] [.inr (6, g1)] (z_sI r1 9 0 6 (0 : Int32)) rfl ⟨trivial, trivial, (Nat.le_of_ble_eq_true rfl), trivial, trivial⟩ ?_
  refine zk_call R (fun b => some (.inl (.int b))) (fun _ => (z_sI r1 9 0 6 (0 : Int32))) rfl (r_X4_size hg1) (fun b hb => w_X4_size (d + 1) 0 g1 hg1 (z_sI r1 9 0 6 (0 : Int32)) b hb) (fun r2 => ?_)
  refine zk_st R 3 20 [some (.inr (9, 0)), some (.inr (6, g1)), some (.inl (.int r2)), some (.inl (.int (0 : Int32)))] [] (z_sI r1 9 0 6 (0 : Int32)) rfl ⟨trivial, trivial, trivial, trivial⟩ ?_
  refine zk_mask R [true, false, true, true] rfl ?_
  exact w_X8_beginReaches_20 d k g1 hg1 R zF r2 (0 : Int32) (z_sI r1 9 0 6 (0 : Int32))
theorem r_X8_followReaches {i : Nat} {t : List zA} (h : i < zN 9) : z_rcv zN (zKD 89) (.inr (9, i) :: t) := by
  rw [show zKD 89 = 9 from rfl]
  exact ⟨rfl, h⟩
noncomputable def f_X8_followReaches_2 : Nat → Int32 → zM → Option (zM)
  | 0, _, _ => none
  | j + 1, x2, m =>
    if (m.1 5 0 0) ≤ x2 then
      some m
    else
      Option.bind (f_X7_at 20 40 x2 m) fun r2 =>
      Option.bind (f_X7_has (m.2.1 9 0 0) r2 m) fun r3 =>
      if (z_bi r3) = 0 then
        f_X8_followReaches_2 j (x2 + (1 : Int32)) m
      else
        Option.bind (f_X7_at 20 52 r2 m) fun r5 =>
        Option.bind (f_X7_put 20 54 r5 r2 m) fun r6 =>
        Option.bind (f_X7_add 20 55 r5 (1 : Int32) r6) fun r7 =>
        Option.bind (f_X7_at 20 39 r2 r7) fun r8 =>
        Option.bind (f_X7_has (r7.2.1 9 0 0) r8 r7) fun r9 =>
        if (z_bi r9) = 0 then
          f_X8_followReaches_2 j (x2 + (1 : Int32)) r7
        else
          Option.bind (f_X8_isBeginning r8 r7) fun r11 =>
          if (z_bi r11) = 0 then
            Option.bind (f_X7_put 20 52 r8 r5 r7) fun r13 =>
            f_X8_followReaches_2 j (x2 + (1 : Int32)) r13
          else
            f_X8_followReaches_2 j (x2 + (1 : Int32)) r7
noncomputable def f_X8_followReaches (m : zM) : Option (zM) :=
  f_X8_followReaches_2 zF (0 : Int32) m
theorem w_X8_followReaches_2 (d k : Nat) {o : zO} {G : Nat → Nat → zL → List zA → zM → Prop} (R : zRu (d + 2) tX8_followReaches 0 (z_hf []) o G) : ∀ (j : Nat) (x2 : Int32) (m : zM), zLK G (fun a => (.inl none, a) : zM → zO) o (f_X8_followReaches_2 j x2 m) some (k + 0) 2 [some (.inr (9, 0)), some (.inr (5, 0)), some (.inl (.int x2)), none, none, none] [] m := by
  intro j
  induction j with
  | zero =>
    intro _ _
    exact zk_none
  | succ j ih =>
    intro x2 m
    unfold f_X8_followReaches_2
    refine zk_st R 3 7 [some (.inr (9, 0)), some (.inr (5, 0)), some (.inl (.int x2)), none, none, none] [.inl (.int (m.1 5 0 0)), .inl (.int x2)] m rfl ⟨trivial, trivial, (Nat.le_of_ble_eq_true rfl), trivial⟩ ?_
    refine zk_br R rfl (fun _ => ?_) (fun _ => ?_)
    · exact zk_ret R rfl trivial rfl
    · refine zk_st R 3 15 [some (.inr (9, 0)), some (.inr (5, 0)), some (.inl (.int x2)), none, none, none] [.inl (.int x2), .inr (20, 40)] m rfl ⟨trivial, (Nat.le_of_ble_eq_true rfl), trivial, trivial⟩ ?_
      refine zk_call R (fun b => some (.inl (.int b))) (fun _ => m) rfl (r_X7_at) (fun b hb => w_X7_at_k20 (d + 1) 0 40 (Nat.le_of_ble_eq_true rfl) x2 m b hb) (fun r2 => ?_)
      refine zk_st R 4 24 [some (.inr (9, 0)), some (.inr (5, 0)), some (.inl (.int x2)), some (.inl (.int r2)), none, none] [.inl (.int r2), .inl (.long (m.2.1 9 0 0))] m rfl ⟨trivial, trivial, (Nat.le_of_ble_eq_true rfl), trivial, trivial⟩ ?_
      refine zk_call R (fun b => some (.inl (.int (z_bi b)))) (fun _ => m) rfl (r_X7_has) (fun b hb => w_X7_has (d + 1) 0 (m.2.1 9 0 0) r2 m b hb) (fun r3 => ?_)
      refine zk_br R rfl (fun _ => ?_) (fun _ => ?_)
      · refine zk_st R 2 2 [some (.inr (9, 0)), some (.inr (5, 0)), some (.inl (.int (x2 + (1 : Int32)))), some (.inl (.int r2)), none, none] [] m rfl ⟨trivial, trivial, trivial⟩ ?_
        refine zk_mask R [true, true, true, false, false, false] rfl ?_
        exact ih (x2 + (1 : Int32)) m
      · refine zk_st R 3 35 [some (.inr (9, 0)), some (.inr (5, 0)), some (.inl (.int x2)), some (.inl (.int r2)), none, none] [.inl (.int r2), .inr (20, 52)] m rfl ⟨trivial, (Nat.le_of_ble_eq_true rfl), trivial, trivial⟩ ?_
        refine zk_call R (fun b => some (.inl (.int b))) (fun _ => m) rfl (r_X7_at) (fun b hb => w_X7_at_k20 (d + 1) 0 52 (Nat.le_of_ble_eq_true rfl) r2 m b hb) (fun r5 => ?_)
        refine zk_st R 5 47 [some (.inr (9, 0)), some (.inr (5, 0)), some (.inl (.int x2)), some (.inl (.int r2)), some (.inl (.int r5)), none] [.inl (.int r2), .inl (.int r5), .inr (20, 54)] m rfl ⟨trivial, trivial, (Nat.le_of_ble_eq_true rfl), trivial, trivial, trivial⟩ ?_
        refine zk_call R (fun _ => none) id rfl (r_X7_put) (fun b hb => w_X7_put_k20 (d + 1) 0 54 (Nat.le_of_ble_eq_true rfl) r5 r2 m b hb) (fun r6 => ?_)
        refine zk_st R 4 57 [some (.inr (9, 0)), some (.inr (5, 0)), some (.inl (.int x2)), some (.inl (.int r2)), some (.inl (.int r5)), none] [.inl (.int (1 : Int32)), .inl (.int r5), .inr (20, 55)] r6 rfl ⟨trivial, (Nat.le_of_ble_eq_true rfl), trivial, trivial, trivial⟩ ?_
        refine zk_call R (fun _ => none) id rfl (r_X7_add) (fun b hb => w_X7_add_k20 (d + 1) 0 55 (Nat.le_of_ble_eq_true rfl) r5 (1 : Int32) r6 b hb) (fun r7 => ?_)
        refine zk_st R 3 65 [some (.inr (9, 0)), some (.inr (5, 0)), some (.inl (.int x2)), some (.inl (.int r2)), some (.inl (.int r5)), none] [.inl (.int r2), .inr (20, 39)] r7 rfl ⟨trivial, (Nat.le_of_ble_eq_true rfl), trivial, trivial⟩ ?_
        refine zk_call R (fun b => some (.inl (.int b))) (fun _ => r7) rfl (r_X7_at) (fun b hb => w_X7_at_k20 (d + 1) 0 39 (Nat.le_of_ble_eq_true rfl) r2 r7 b hb) (fun r8 => ?_)
        refine zk_st R 4 76 [some (.inr (9, 0)), some (.inr (5, 0)), some (.inl (.int x2)), some (.inl (.int r2)), some (.inl (.int r5)), some (.inl (.int r8))] [.inl (.int r8), .inl (.long (r7.2.1 9 0 0))] r7 rfl ⟨trivial, trivial, (Nat.le_of_ble_eq_true rfl), trivial, trivial⟩ ?_
        refine zk_call R (fun b => some (.inl (.int (z_bi b)))) (fun _ => r7) rfl (r_X7_has) (fun b hb => w_X7_has (d + 1) 0 (r7.2.1 9 0 0) r8 r7 b hb) (fun r9 => ?_)
        refine zk_br R rfl (fun _ => ?_) (fun _ => ?_)
        · refine zk_st R 2 2 [some (.inr (9, 0)), some (.inr (5, 0)), some (.inl (.int (x2 + (1 : Int32)))), some (.inl (.int r2)), some (.inl (.int r5)), some (.inl (.int r8))] [] r7 rfl ⟨trivial, trivial, trivial⟩ ?_
          refine zk_mask R [true, true, true, false, false, false] rfl ?_
          exact ih (x2 + (1 : Int32)) r7
        · refine zk_st R 2 85 [some (.inr (9, 0)), some (.inr (5, 0)), some (.inl (.int x2)), some (.inl (.int r2)), some (.inl (.int r5)), some (.inl (.int r8))] [.inl (.int r8), .inr (9, 0)] r7 rfl ⟨trivial, trivial, trivial⟩ ?_
          refine zk_call R (fun b => some (.inl (.int (z_bi b)))) (fun _ => r7) rfl (r_X8_isBeginning (Nat.le_of_ble_eq_true rfl)) (fun b hb => w_X8_isBeginning d 0 r8 r7 b hb) (fun r11 => ?_)
          refine zk_br R rfl (fun _ => ?_) (fun _ => ?_)
          · refine zk_st R 4 99 [some (.inr (9, 0)), some (.inr (5, 0)), some (.inl (.int x2)), some (.inl (.int r2)), some (.inl (.int r5)), some (.inl (.int r8))] [.inl (.int r5), .inl (.int r8), .inr (20, 52)] r7 rfl ⟨trivial, (Nat.le_of_ble_eq_true rfl), trivial, trivial, trivial⟩ ?_
            refine zk_call R (fun _ => none) id rfl (r_X7_put) (fun b hb => w_X7_put_k20 (d + 1) 0 52 (Nat.le_of_ble_eq_true rfl) r8 r5 r7 b hb) (fun r13 => ?_)
            refine zk_st R 2 2 [some (.inr (9, 0)), some (.inr (5, 0)), some (.inl (.int (x2 + (1 : Int32)))), some (.inl (.int r2)), some (.inl (.int r5)), some (.inl (.int r8))] [] r13 rfl ⟨trivial, trivial, trivial⟩ ?_
            refine zk_mask R [true, true, true, false, false, false] rfl ?_
            exact ih (x2 + (1 : Int32)) r13
          · refine zk_st R 2 2 [some (.inr (9, 0)), some (.inr (5, 0)), some (.inl (.int (x2 + (1 : Int32)))), some (.inl (.int r2)), some (.inl (.int r5)), some (.inl (.int r8))] [] r7 rfl ⟨trivial, trivial, trivial⟩ ?_
            refine zk_mask R [true, true, true, false, false, false] rfl ?_
            exact ih (x2 + (1 : Int32)) r7
theorem w_X8_followReaches (d k : Nat) (m : zM) (a : zM) (ha : f_X8_followReaches m = some a) : z_Ev z_MT zN zRf (d + 3) (k + 0) 89 [.inr (9, 0), .inr (5, 0)] m ((fun a => (.inl none, a) : zM → zO) a) := by
  refine zk_top (I := (yX8_followReaches, cX8_followReaches, 6, none, [], tX8_followReaches, 9, 1, 9, 0, 0, 0)) (oc := (fun a => (.inl none, a) : zM → zO)) (a := a) rfl (Nat.le_of_ble_eq_true rfl) (fun G R => ?_) ha
  unfold f_X8_followReaches
  refine zk_st R 2 2 [some (.inr (9, 0)), some (.inr (5, 0)), some (.inl (.int (0 : Int32))), none, none, none] [] m rfl ⟨trivial, trivial, trivial⟩ ?_
  refine zk_mask R [true, true, true, false, false, false] rfl ?_
  exact w_X8_followReaches_2 d k R zF (0 : Int32) m
theorem r_X8_reachBehind {i : Nat} {t : List zA} (h : i < zN 9) : z_rcv zN (zKD 90) (.inr (9, i) :: t) := by
  rw [show zKD 90 = 9 from rfl]
  exact ⟨rfl, h⟩
noncomputable def f_X8_reachBehind (x2 : Int32) (m : zM) : Option (Int32) :=
  Option.bind (f_X7_at 20 54 x2 m) fun r1 =>
  Option.bind (f_X7_at 20 39 r1 m) fun r2 =>
  Option.bind (f_X8_isBeginning r2 m) fun r3 =>
  if (z_bi r3) = 0 then
    some (-1 : Int32)
  else
    Option.bind (f_X7_at 20 52 r2 m) fun r5 =>
    some r5
theorem w_X8_reachBehind (d k : Nat) (x2 : Int32) (m : zM) (a : Int32) (ha : f_X8_reachBehind x2 m = some a) : z_Ev z_MT zN zRf (d + 3) (k + 0) 90 [.inr (9, 0), .inr (5, 0), .inl (.int x2)] m ((fun a => (z_cI a, m) : Int32 → zO) a) := by
  refine zk_top (I := (yX8_reachBehind, cX8_reachBehind, 4, (some .int), [], tX8_reachBehind, 9, 2, 9, 0, 0, 0)) (oc := (fun a => (z_cI a, m) : Int32 → zO)) (a := a) rfl (Nat.le_of_ble_eq_true rfl) (fun G R => ?_) ha
  unfold f_X8_reachBehind
  refine zk_st R 5 9 [some (.inr (9, 0)), some (.inr (5, 0)), some (.inl (.int x2)), none] [.inl (.int x2), .inr (20, 54), .inr (20, 39)] m rfl ⟨trivial, (Nat.le_of_ble_eq_true rfl), trivial, (Nat.le_of_ble_eq_true rfl), trivial, trivial⟩ ?_
  refine zk_call R (fun b => some (.inl (.int b))) (fun _ => m) rfl (r_X7_at) (fun b hb => w_X7_at_k20 (d + 1) 0 54 (Nat.le_of_ble_eq_true rfl) x2 m b hb) (fun r1 => ?_)
  refine zk_call R (fun b => some (.inl (.int b))) (fun _ => m) rfl (r_X7_at) (fun b hb => w_X7_at_k20 (d + 1) 0 39 (Nat.le_of_ble_eq_true rfl) r1 m b hb) (fun r2 => ?_)
  refine zk_st R 3 18 [some (.inr (9, 0)), some (.inr (5, 0)), some (.inl (.int x2)), some (.inl (.int r2))] [.inl (.int r2), .inr (9, 0)] m rfl ⟨trivial, trivial, trivial, trivial⟩ ?_
  refine zk_call R (fun b => some (.inl (.int (z_bi b)))) (fun _ => m) rfl (r_X8_isBeginning (Nat.le_of_ble_eq_true rfl)) (fun b hb => w_X8_isBeginning d 0 r2 m b hb) (fun r3 => ?_)
  refine zk_br R rfl (fun _ => ?_) (fun _ => ?_)
  · refine zk_st R 1 36 [some (.inr (9, 0)), some (.inr (5, 0)), some (.inl (.int x2)), some (.inl (.int r2))] [.inl (.int (-1 : Int32))] m rfl ⟨trivial, trivial⟩ ?_
    exact zk_ret R rfl trivial rfl
  · refine zk_st R 3 29 [some (.inr (9, 0)), some (.inr (5, 0)), some (.inl (.int x2)), some (.inl (.int r2))] [.inl (.int r2), .inr (20, 52)] m rfl ⟨trivial, (Nat.le_of_ble_eq_true rfl), trivial, trivial⟩ ?_
    refine zk_call R (fun b => some (.inl (.int b))) (fun _ => m) rfl (r_X7_at) (fun b hb => w_X7_at_k20 (d + 1) 0 52 (Nat.le_of_ble_eq_true rfl) r2 m b hb) (fun r5 => ?_)
    refine zk_st R 1 36 [some (.inr (9, 0)), some (.inr (5, 0)), some (.inl (.int x2)), some (.inl (.int r2))] [.inl (.int r5)] m rfl ⟨trivial, trivial⟩ ?_
    exact zk_ret R rfl trivial rfl
theorem r_X9_readNumber {i : Nat} {t : List zA} (h : i < zN 10) : z_rcv zN (zKD 101) (.inr (10, i) :: t) := by
  rw [show zKD 101 = 10 from rfl]
  exact ⟨rfl, h⟩
noncomputable def f_X9_readNumber (m : zM) : Option (Int32 × zM) :=
  Option.bind (f_X9_readDigit m) fun r1 =>
  if r1.1 = 0 then
    some (r1.1, r1.2)
  else
    Option.bind (f_X9_isDigit r1.2) fun r3 =>
    if (z_bi r3) = 0 then
      some (r1.1, r1.2)
    else
      Option.bind (f_X9_readDigit r1.2) fun r5 =>
      some (((r1.1 * (10 : Int32)) + r5.1), r5.2)
theorem w_X9_readNumber (d k : Nat) (m : zM) (a : Int32 × zM) (ha : f_X9_readNumber m = some a) : z_Ev z_MT zN zRf (d + 3) (k + 0) 101 [.inr (10, 0)] m ((fun a => (z_cI a.1, a.2) : Int32 × zM → zO) a) := by
  refine zk_top (I := (yX9_readNumber, cX9_readNumber, 2, (some .int), [], tX9_readNumber, 10, 0, 10, 0, 0, 0)) (oc := (fun a => (z_cI a.1, a.2) : Int32 × zM → zO)) (a := a) rfl (Nat.le_of_ble_eq_true rfl) (fun G R => ?_) ha
  unfold f_X9_readNumber
  refine zk_st R 1 1 [some (.inr (10, 0)), none] [.inr (10, 0)] m rfl ⟨trivial, trivial⟩ ?_
  refine zk_call R (fun b => some (.inl (.int b.1))) (fun b => b.2) rfl (r_X9_readDigit (Nat.le_of_ble_eq_true rfl)) (fun b hb => w_X9_readDigit d 0 m b hb) (fun r1 => ?_)
  refine zk_st R 2 6 [some (.inr (10, 0)), some (.inl (.int r1.1))] [.inl (.int r1.1)] r1.2 rfl ⟨trivial, trivial, trivial⟩ ?_
  refine zk_br R rfl (fun _ => ?_) (fun _ => ?_)
  · refine zk_st R 1 29 [some (.inr (10, 0)), some (.inl (.int r1.1))] [.inl (.int r1.1)] r1.2 rfl ⟨trivial, trivial⟩ ?_
    exact zk_ret R rfl trivial rfl
  · refine zk_st R 1 10 [some (.inr (10, 0)), some (.inl (.int r1.1))] [.inr (10, 0)] r1.2 rfl ⟨trivial, trivial⟩ ?_
    refine zk_call R (fun b => some (.inl (.int (z_bi b)))) (fun _ => r1.2) rfl (r_X9_isDigit (Nat.le_of_ble_eq_true rfl)) (fun b hb => w_X9_isDigit d 0 r1.2 b hb) (fun r3 => ?_)
    refine zk_br R rfl (fun _ => ?_) (fun _ => ?_)
    · refine zk_st R 1 29 [some (.inr (10, 0)), some (.inl (.int r1.1))] [.inl (.int r1.1)] r1.2 rfl ⟨trivial, trivial⟩ ?_
      exact zk_ret R rfl trivial rfl
    · refine zk_st R 4 21 [some (.inr (10, 0)), some (.inl (.int r1.1))] [.inr (10, 0), .inl (.int (r1.1 * (10 : Int32)))] r1.2 rfl ⟨trivial, trivial, trivial, trivial, trivial⟩ ?_
      refine zk_call R (fun b => some (.inl (.int b.1))) (fun b => b.2) rfl (r_X9_readDigit (Nat.le_of_ble_eq_true rfl)) (fun b hb => w_X9_readDigit d 0 r1.2 b hb) (fun r5 => ?_)
      refine zk_st R 2 29 [some (.inr (10, 0)), some (.inl (.int r1.1))] [.inl (.int ((r1.1 * (10 : Int32)) + r5.1))] r5.2 rfl ⟨trivial, trivial, trivial⟩ ?_
      exact zk_ret R rfl trivial rfl
theorem r_X11_cell {i : Nat} {t : List zA} (h : i < zN 12) : z_rcv zN (zKD 111) (.inr (12, i) :: t) := by
  rw [show zKD 111 = 12 from rfl]
  exact ⟨rfl, h⟩
noncomputable def f_X11_cell (x1 : Int32) (x2 : Int32) (m : zM) : Option ((Int32 ⊕ Nat) × zM) :=
  z_bx (f_X11_requireCell x1 m) (fun r1 m2 =>
  z_bx (f_X11_requireRange x2 (0 : Int32) (3 : Int32) m2) (fun r3 m4 =>
  if x2 = (0 : Int32) then
    Option.bind (f_X7_at 20 0 x1 m4) fun r6 =>
    some (.inl r6, m4)
  else if x2 = (1 : Int32) then
    Option.bind (f_X7_at 20 1 x1 m4) fun r8 =>
    some (.inl r8, m4)
  else if x2 = (2 : Int32) then
    Option.bind (f_X7_at 20 2 x1 m4) fun r10 =>
    some (.inl r10, m4)
  else
    Option.bind (f_X4_isOutlet 0 x1 m4) fun r11 =>
    if (z_bi r11) = 0 then
      some (.inl (0 : Int32), m4)
    else
      some (.inl (1 : Int32), m4)) id) id
theorem w_X11_cell (d k : Nat) (x1 : Int32) (x2 : Int32) (m : zM) (a : (Int32 ⊕ Nat) × zM) (ha : f_X11_cell x1 x2 m = some a) : z_Ev z_MT zN zRf (d + 3) (k + 2) 111 [.inr (12, 0), .inl (.int x1), .inl (.int x2)] m ((fun a => (z_cX z_cI a.1, a.2) : (Int32 ⊕ Nat) × zM → zO) a) := by
  refine zk_top (I := (yX11_cell, cX11_cell, 3, (some .int), [], tX11_cell, 12, 2, 12, 0, 0, 0)) (oc := (fun a => (z_cX z_cI a.1, a.2) : (Int32 ⊕ Nat) × zM → zO)) (a := a) rfl (Nat.le_of_ble_eq_true rfl) (fun G R => ?_) ha
  unfold f_X11_cell
  refine zk_st R 2 2 [some (.inr (12, 0)), some (.inl (.int x1)), some (.inl (.int x2))] [.inl (.int x1), .inr (12, 0)] m rfl ⟨trivial, trivial, trivial⟩ ?_
  refine zk_callz R (k + 1) 1 (fun _ => none) rfl (r_X11_requireCell (Nat.le_of_ble_eq_true rfl)) (fun b m' hb => w_X11_requireCell d 0 x1 m _ hb) (fun e m' hb => w_X11_requireCell d 0 x1 m _ hb) (fun _ => rfl) (fun _ _ => rfl) (fun r1 m2 => ?_)
  refine zk_st R 3 8 [some (.inr (12, 0)), some (.inl (.int x1)), some (.inl (.int x2))] [.inl (.int (3 : Int32)), .inl (.int (0 : Int32)), .inl (.int x2)] m2 rfl ⟨trivial, trivial, trivial, trivial⟩ ?_
  refine zk_callz R (k + 0) 1 (fun _ => none) rfl (r_X11_requireRange) (fun b m' hb => w_X11_requireRange (d + 1) 0 x2 (0 : Int32) (3 : Int32) m2 _ hb) (fun e m' hb => w_X11_requireRange (d + 1) 0 x2 (0 : Int32) (3 : Int32) m2 _ hb) (fun _ => rfl) (fun _ _ => rfl) (fun r3 m4 => ?_)
  refine zk_st R 1 12 [some (.inr (12, 0)), some (.inl (.int x1)), some (.inl (.int x2))] [.inl (.int x2)] m4 rfl ⟨trivial, trivial⟩ ?_
  refine zk_if (fun e5 => ?_) (fun e5 => ?_)
  · refine zk_tsw R rfl (z_swv e5 (by decide +kernel : _ = 40)) ?_
    refine zk_st R 4 48 [some (.inr (12, 0)), some (.inl (.int x1)), some (.inl (.int x2))] [.inl (.int x1), .inr (20, 0)] m4 rfl ⟨trivial, (Nat.le_of_ble_eq_true rfl), (Nat.le_of_ble_eq_true rfl), trivial, trivial⟩ ?_
    refine zk_call R (fun b => some (.inl (.int b))) (fun _ => m4) rfl (r_X7_at) (fun b hb => w_X7_at_k20 (d + 1) 0 0 (Nat.le_of_ble_eq_true rfl) x1 m4 b hb) (fun r6 => ?_)
    exact zk_ret R rfl trivial rfl
  refine zk_if (fun e7 => ?_) (fun e7 => ?_)
  · refine zk_tsw R rfl (z_swv e7 (by decide +kernel : _ = 52)) ?_
    refine zk_st R 4 60 [some (.inr (12, 0)), some (.inl (.int x1)), some (.inl (.int x2))] [.inl (.int x1), .inr (20, 1)] m4 rfl ⟨trivial, (Nat.le_of_ble_eq_true rfl), (Nat.le_of_ble_eq_true rfl), trivial, trivial⟩ ?_
    refine zk_call R (fun b => some (.inl (.int b))) (fun _ => m4) rfl (r_X7_at) (fun b hb => w_X7_at_k20 (d + 1) 0 1 (Nat.le_of_ble_eq_true rfl) x1 m4 b hb) (fun r8 => ?_)
    exact zk_ret R rfl trivial rfl
  refine zk_if (fun e9 => ?_) (fun e9 => ?_)
  · refine zk_tsw R rfl (z_swv e9 (by decide +kernel : _ = 64)) ?_
    refine zk_st R 4 72 [some (.inr (12, 0)), some (.inl (.int x1)), some (.inl (.int x2))] [.inl (.int x1), .inr (20, 2)] m4 rfl ⟨trivial, (Nat.le_of_ble_eq_true rfl), (Nat.le_of_ble_eq_true rfl), trivial, trivial⟩ ?_
    refine zk_call R (fun b => some (.inl (.int b))) (fun _ => m4) rfl (r_X7_at) (fun b hb => w_X7_at_k20 (d + 1) 0 2 (Nat.le_of_ble_eq_true rfl) x1 m4 b hb) (fun r10 => ?_)
    exact zk_ret R rfl trivial rfl
  refine zk_tsw R rfl (z_swd 3 (by decide) (fun i hi => ?_) (by decide : _ = 76)) ?_
  · have hi' : i = 0 ∨ i = 1 ∨ i = 2 := by omega
    rcases hi' with rfl | rfl | rfl
    · exact e5
    · exact e7
    · exact e9
  · refine zk_st R 3 81 [some (.inr (12, 0)), some (.inl (.int x1)), some (.inl (.int x2))] [.inl (.int x1), .inr (6, 0)] m4 rfl ⟨trivial, (Nat.le_of_ble_eq_true rfl), trivial, trivial⟩ ?_
    refine zk_call R (fun b => some (.inl (.int (z_bi b)))) (fun _ => m4) rfl (r_X4_isOutlet (Nat.le_of_ble_eq_true rfl)) (fun b hb => w_X4_isOutlet d 0 0 (Nat.le_of_ble_eq_true rfl) x1 m4 b hb) (fun r11 => ?_)
    refine zk_br R rfl (fun _ => ?_) (fun _ => ?_)
    · refine zk_st R 1 92 [some (.inr (12, 0)), some (.inl (.int x1)), some (.inl (.int x2))] [.inl (.int (0 : Int32))] m4 rfl ⟨trivial, trivial⟩ ?_
      exact zk_ret R rfl trivial rfl
    · refine zk_st R 2 92 [some (.inr (12, 0)), some (.inl (.int x1)), some (.inl (.int x2))] [.inl (.int (1 : Int32))] m4 rfl ⟨trivial, trivial, trivial⟩ ?_
      exact zk_ret R rfl trivial rfl
