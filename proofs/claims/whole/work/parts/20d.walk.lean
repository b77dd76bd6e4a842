theorem r_X2_findDepths {i : Nat} {t : List zA} (h : i < zN 4) : z_rcv zN (zKD 58) (.inr (4, i) :: t) := by
  rw [show zKD 58 = 4 from rfl]
  exact ⟨rfl, h⟩
noncomputable def f_X2_findDepths_12 (g1 : Nat) : Nat → Int32 → Int32 → zM → Option (zM)
  | 0, _, _, _ => none
  | j + 1, x2, x3, m =>
    if x2 ≤ x3 then
      some m
    else
      Option.bind (f_X7_at 20 33 x3 m) fun r2 =>
      Option.bind (f_X7_at 20 (3 * g1) x3 m) fun r3 =>
      Option.bind (f_X7_put 20 34 x3 (r2 - r3) m) fun r4 =>
      if (r2 - r3) ≤ 0 then
        f_X2_findDepths_12 g1 j x2 (x3 + (1 : Int32)) r4
      else
        f_X2_findDepths_12 g1 j x2 (x3 + (1 : Int32)) (z_sL r4 4 0 5 ((r4.2.1 4 0 5) ||| (z_shl (1 : Int64) x3)))
noncomputable def f_X2_findDepths (g1 : Nat) (m : zM) : Option (zM) :=
  Option.bind (f_X4_size g1 (z_sL m 4 0 5 (0 : Int64))) fun r1 =>
  f_X2_findDepths_12 g1 zF r1 (0 : Int32) (z_sL m 4 0 5 (0 : Int64))
theorem w_X2_findDepths_12 (d k : Nat) {o : zO} {G : Nat → Nat → zL → List zA → zM → Prop} (g1 : Nat) (hg1 : g1 < zN 6) (R : zRu (d + 1) tX2_findDepths 0 (z_hf []) o G) : ∀ (j : Nat) (x2 : Int32) (x3 : Int32) (m : zM), zLK G (fun a => (.inl none, a) : zM → zO) o (f_X2_findDepths_12 g1 j x2 x3 m) some (k + 0) 12 [some (.inr (4, 0)), some (.inr (6, g1)), some (.inl (.int x2)), some (.inl (.int x3)), none] [] m := by
  intro j
  induction j with
  | zero =>
    intro _ _ _
    exact zk_none
  | succ j ih =>
    intro x2 x3 m
    unfold f_X2_findDepths_12
    refine zk_st R 2 14 [some (.inr (4, 0)), some (.inr (6, g1)), some (.inl (.int x2)), some (.inl (.int x3)), none] [.inl (.int x2), .inl (.int x3)] m rfl ⟨trivial, trivial, trivial⟩ ?_
    refine zk_br R rfl (fun _ => ?_) (fun _ => ?_)
    · exact zk_ret R rfl trivial rfl
    · refine zk_st R 3 22 [some (.inr (4, 0)), some (.inr (6, g1)), some (.inl (.int x2)), some (.inl (.int x3)), none] [.inl (.int x3), .inr (20, 33)] m rfl ⟨trivial, (Nat.le_of_ble_eq_true rfl), trivial, trivial⟩ ?_
      refine zk_call R (fun b => some (.inl (.int b))) (fun _ => m) rfl (r_X7_at) (fun b hb => w_X7_at_k20 d 0 33 (Nat.le_of_ble_eq_true rfl) x3 m b hb) (fun r2 => ?_)
      refine zk_st R 3 30 [some (.inr (4, 0)), some (.inr (6, g1)), some (.inl (.int x2)), some (.inl (.int x3)), none] [.inl (.int x3), .inr (20, 3 * g1), .inl (.int r2)] m rfl ⟨trivial, hg1, trivial, trivial⟩ ?_
      refine zk_call R (fun b => some (.inl (.int b))) (fun _ => m) rfl (r_X7_at) (fun b hb => w_X7_at_k20 d 0 (3 * g1) (z_g0 hg1) x3 m b hb) (fun r3 => ?_)
      refine zk_st R 6 43 [some (.inr (4, 0)), some (.inr (6, g1)), some (.inl (.int x2)), some (.inl (.int x3)), some (.inl (.int (r2 - r3)))] [.inl (.int (r2 - r3)), .inl (.int x3), .inr (20, 34)] m rfl ⟨trivial, trivial, trivial, (Nat.le_of_ble_eq_true rfl), trivial, trivial, trivial⟩ ?_
      refine zk_call R (fun _ => none) id rfl (r_X7_put) (fun b hb => w_X7_put_k20 d 0 34 (Nat.le_of_ble_eq_true rfl) x3 (r2 - r3) m b hb) (fun r4 => ?_)
      refine zk_st R 1 48 [some (.inr (4, 0)), some (.inr (6, g1)), some (.inl (.int x2)), some (.inl (.int x3)), some (.inl (.int (r2 - r3)))] [.inl (.int (r2 - r3))] r4 rfl ⟨trivial, trivial⟩ ?_
      refine zk_br R rfl (fun _ => ?_) (fun _ => ?_)
      · refine zk_st R 2 12 [some (.inr (4, 0)), some (.inr (6, g1)), some (.inl (.int x2)), some (.inl (.int (x3 + (1 : Int32)))), some (.inl (.int (r2 - r3)))] [] r4 rfl ⟨trivial, trivial, trivial⟩ ?_
        refine zk_mask R [true, true, true, true, false] rfl ?_
        exact ih x2 (x3 + (1 : Int32)) r4
      · refine zk_st R 10 12 [some (.inr (4, 0)), some (.inr (6, g1)), some (.inl (.int x2)), some (.inl (.int (x3 + (1 : Int32)))), some (.inl (.int (r2 - r3)))] [] (z_sL r4 4 0 5 ((r4.2.1 4 0 5) ||| (z_shl (1 : Int64) x3))) rfl ⟨trivial, trivial, (Nat.le_of_ble_eq_true rfl), trivial, trivial, trivial, trivial, (Nat.le_of_ble_eq_true rfl), trivial, trivial, trivial⟩ ?_
        refine zk_mask R [true, true, true, true, false] rfl ?_
        exact ih x2 (x3 + (1 : Int32)) (z_sL r4 4 0 5 ((r4.2.1 4 0 5) ||| (z_shl (1 : Int64) x3)))
theorem w_X2_findDepths (d k : Nat) (g1 : Nat) (hg1 : g1 < zN 6) (m : zM) (a : zM) (ha : f_X2_findDepths g1 m = some a) : z_Ev z_MT zN zRf (d + 2) (k + 0) 58 [.inr (4, 0), .inr (6, g1)] m ((fun a => (.inl none, a) : zM → zO) a) := by
  refine zk_top (I := (yX2_findDepths, cX2_findDepths, 5, none, [], tX2_findDepths, 4, 1, 4, 0, 0, 0)) (oc := (fun a => (.inl none, a) : zM → zO)) (a := a) rfl (Nat.le_of_ble_eq_true rfl) (fun G R => ?_) ha
  unfold f_X2_findDepths
  refine zk_st R 4 6 [some (.inr (4, 0)), some (.inr (6, g1)), none, none, none] [.inr (6, g1)] (z_sL m 4 0 5 (0 : Int64)) rfl ⟨trivial, trivial, (Nat.le_of_ble_eq_true rfl), trivial, trivial⟩ ?_
  refine zk_call R (fun b => some (.inl (.int b))) (fun _ => (z_sL m 4 0 5 (0 : Int64))) rfl (r_X4_size hg1) (fun b hb => w_X4_size d 0 g1 hg1 (z_sL m 4 0 5 (0 : Int64)) b hb) (fun r1 => ?_)
  refine zk_st R 3 12 [some (.inr (4, 0)), some (.inr (6, g1)), some (.inl (.int r1)), some (.inl (.int (0 : Int32))), none] [] (z_sL m 4 0 5 (0 : Int64)) rfl ⟨trivial, trivial, trivial, trivial⟩ ?_
  refine zk_mask R [true, true, true, true, false] rfl ?_
  exact w_X2_findDepths_12 d k g1 hg1 R zF r1 (0 : Int32) (z_sL m 4 0 5 (0 : Int64))
theorem r_X2_wetAtLevel {i : Nat} {t : List zA} (h : i < zN 4) : z_rcv zN (zKD 60) (.inr (4, i) :: t) := by
  rw [show zKD 60 = 4 from rfl]
  exact ⟨rfl, h⟩
noncomputable def f_X2_wetAtLevel_5 (m : zM) : Nat → Int32 → Int64 → Int32 → Option (Int64)
  | 0, _, _, _ => none
  | j + 1, x1, x2, x4 =>
    if (64 : Int32) ≤ x4 then
      some x2
    else
      Option.bind (f_X7_has (m.2.1 4 0 5) x4 m) fun r2 =>
      if (z_bi r2) = 0 then
        f_X2_wetAtLevel_5 m j x1 x2 (x4 + (1 : Int32))
      else
        Option.bind (f_X7_at 20 33 x4 m) fun r4 =>
        if r4 = x1 then
          f_X2_wetAtLevel_5 m j x1 (x2 ||| (z_shl (1 : Int64) x4)) (x4 + (1 : Int32))
        else
          f_X2_wetAtLevel_5 m j x1 x2 (x4 + (1 : Int32))
noncomputable def f_X2_wetAtLevel (x1 : Int32) (m : zM) : Option (Int64) :=
  f_X2_wetAtLevel_5 m zF x1 (0 : Int64) (0 : Int32)
theorem w_X2_wetAtLevel_5 (d k : Nat) {o : zO} {G : Nat → Nat → zL → List zA → zM → Prop} (m : zM) (R : zRu (d + 1) tX2_wetAtLevel 0 (z_hf []) o G) : ∀ (j : Nat) (x1 : Int32) (x2 : Int64) (x4 : Int32), zLK G (fun a => (z_cL a, m) : Int64 → zO) o (f_X2_wetAtLevel_5 m j x1 x2 x4) some (k + 0) 5 [some (.inr (4, 0)), some (.inl (.int x1)), some (.inl (.long x2)), none, some (.inl (.int x4))] [] m := by
  intro j
  induction j with
  | zero =>
    intro _ _ _
    exact zk_none
  | succ j ih =>
    intro x1 x2 x4
    unfold f_X2_wetAtLevel_5
    refine zk_st R 2 9 [some (.inr (4, 0)), some (.inl (.int x1)), some (.inl (.long x2)), none, some (.inl (.int x4))] [.inl (.int (64 : Int32)), .inl (.int x4)] m rfl ⟨trivial, trivial, trivial⟩ ?_
    refine zk_br R rfl (fun _ => ?_) (fun _ => ?_)
    · refine zk_st R 1 51 [some (.inr (4, 0)), some (.inl (.int x1)), some (.inl (.long x2)), none, some (.inl (.int x4))] [.inl (.long x2)] m rfl ⟨trivial, trivial⟩ ?_
      exact zk_ret R rfl trivial rfl
    · refine zk_st R 3 18 [some (.inr (4, 0)), some (.inl (.int x1)), some (.inl (.long x2)), none, some (.inl (.int x4))] [.inl (.int x4), .inl (.long (m.2.1 4 0 5))] m rfl ⟨trivial, (Nat.le_of_ble_eq_true rfl), trivial, trivial⟩ ?_
      refine zk_call R (fun b => some (.inl (.int (z_bi b)))) (fun _ => m) rfl (r_X7_has) (fun b hb => w_X7_has d 0 (m.2.1 4 0 5) x4 m b hb) (fun r2 => ?_)
      refine zk_br R rfl (fun _ => ?_) (fun _ => ?_)
      · refine zk_st R 2 5 [some (.inr (4, 0)), some (.inl (.int x1)), some (.inl (.long x2)), none, some (.inl (.int (x4 + (1 : Int32))))] [] m rfl ⟨trivial, trivial, trivial⟩ ?_
        refine zk_mask R [true, true, true, false, true] rfl ?_
        exact ih x1 x2 (x4 + (1 : Int32))
      · refine zk_st R 3 30 [some (.inr (4, 0)), some (.inl (.int x1)), some (.inl (.long x2)), none, some (.inl (.int x4))] [.inl (.int x4), .inr (20, 33)] m rfl ⟨trivial, (Nat.le_of_ble_eq_true rfl), trivial, trivial⟩ ?_
        refine zk_call R (fun b => some (.inl (.int b))) (fun _ => m) rfl (r_X7_at) (fun b hb => w_X7_at_k20 d 0 33 (Nat.le_of_ble_eq_true rfl) x4 m b hb) (fun r4 => ?_)
        refine zk_st R 1 34 [some (.inr (4, 0)), some (.inl (.int x1)), some (.inl (.long x2)), none, some (.inl (.int x4))] [.inl (.int x1), .inl (.int r4)] m rfl ⟨trivial, trivial⟩ ?_
        refine zk_br R rfl (fun _ => ?_) (fun _ => ?_)
        · refine zk_st R 8 5 [some (.inr (4, 0)), some (.inl (.int x1)), some (.inl (.long (x2 ||| (z_shl (1 : Int64) x4)))), none, some (.inl (.int (x4 + (1 : Int32))))] [] m rfl ⟨trivial, trivial, trivial, trivial, trivial, trivial, trivial, trivial, trivial⟩ ?_
          refine zk_mask R [true, true, true, false, true] rfl ?_
          exact ih x1 (x2 ||| (z_shl (1 : Int64) x4)) (x4 + (1 : Int32))
        · refine zk_st R 2 5 [some (.inr (4, 0)), some (.inl (.int x1)), some (.inl (.long x2)), none, some (.inl (.int (x4 + (1 : Int32))))] [] m rfl ⟨trivial, trivial, trivial⟩ ?_
          refine zk_mask R [true, true, true, false, true] rfl ?_
          exact ih x1 x2 (x4 + (1 : Int32))
theorem w_X2_wetAtLevel (d k : Nat) (x1 : Int32) (m : zM) (a : Int64) (ha : f_X2_wetAtLevel x1 m = some a) : z_Ev z_MT zN zRf (d + 2) (k + 0) 60 [.inr (4, 0), .inl (.int x1)] m ((fun a => (z_cL a, m) : Int64 → zO) a) := by
  refine zk_top (I := (yX2_wetAtLevel, cX2_wetAtLevel, 5, (some .long), [], tX2_wetAtLevel, 4, 1, 4, 0, 0, 0)) (oc := (fun a => (z_cL a, m) : Int64 → zO)) (a := a) rfl (Nat.le_of_ble_eq_true rfl) (fun G R => ?_) ha
  unfold f_X2_wetAtLevel
  refine zk_st R 4 5 [some (.inr (4, 0)), some (.inl (.int x1)), some (.inl (.long (0 : Int64))), none, some (.inl (.int (0 : Int32)))] [] m rfl ⟨trivial, trivial, trivial, trivial, trivial⟩ ?_
  refine zk_mask R [true, true, true, false, true] rfl ?_
  exact w_X2_wetAtLevel_5 d k m R zF x1 (0 : Int64) (0 : Int32)
theorem r_X2_numberLake {i : Nat} {t : List zA} (h : i < zN 4) : z_rcv zN (zKD 61) (.inr (4, i) :: t) := by
  rw [show zKD 61 = 4 from rfl]
  exact ⟨rfl, h⟩
noncomputable def f_X2_numberLake_2 : Nat → Int64 → Int32 → zM → Option (zM)
  | 0, _, _, _ => none
  | j + 1, x1, x3, m =>
    if (64 : Int32) ≤ x3 then
      some m
    else
      Option.bind (f_X7_has x1 x3 m) fun r2 =>
      if (z_bi r2) = 0 then
        f_X2_numberLake_2 j x1 (x3 + (1 : Int32)) m
      else
        Option.bind (f_X7_put 20 35 x3 (m.1 4 0 4) m) fun r4 =>
        f_X2_numberLake_2 j x1 (x3 + (1 : Int32)) r4
noncomputable def f_X2_numberLake (x1 : Int64) (m : zM) : Option (zM) :=
  f_X2_numberLake_2 zF x1 (0 : Int32) m
theorem w_X2_numberLake_2 (d k : Nat) {o : zO} {G : Nat → Nat → zL → List zA → zM → Prop} (R : zRu (d + 1) tX2_numberLake 0 (z_hf []) o G) : ∀ (j : Nat) (x1 : Int64) (x3 : Int32) (m : zM), zLK G (fun a => (.inl none, a) : zM → zO) o (f_X2_numberLake_2 j x1 x3 m) some (k + 0) 2 [some (.inr (4, 0)), some (.inl (.long x1)), none, some (.inl (.int x3))] [] m := by
  intro j
  induction j with
  | zero =>
    intro _ _ _
    exact zk_none
  | succ j ih =>
    intro x1 x3 m
    unfold f_X2_numberLake_2
    refine zk_st R 2 5 [some (.inr (4, 0)), some (.inl (.long x1)), none, some (.inl (.int x3))] [.inl (.int (64 : Int32)), .inl (.int x3)] m rfl ⟨trivial, trivial, trivial⟩ ?_
    refine zk_br R rfl (fun _ => ?_) (fun _ => ?_)
    · exact zk_ret R rfl trivial rfl
    · refine zk_st R 2 10 [some (.inr (4, 0)), some (.inl (.long x1)), none, some (.inl (.int x3))] [.inl (.int x3), .inl (.long x1)] m rfl ⟨trivial, trivial, trivial⟩ ?_
      refine zk_call R (fun b => some (.inl (.int (z_bi b)))) (fun _ => m) rfl (r_X7_has) (fun b hb => w_X7_has d 0 x1 x3 m b hb) (fun r2 => ?_)
      refine zk_br R rfl (fun _ => ?_) (fun _ => ?_)
      · refine zk_st R 2 2 [some (.inr (4, 0)), some (.inl (.long x1)), none, some (.inl (.int (x3 + (1 : Int32))))] [] m rfl ⟨trivial, trivial, trivial⟩ ?_
        refine zk_mask R [true, true, false, true] rfl ?_
        exact ih x1 (x3 + (1 : Int32)) m
      · refine zk_st R 5 25 [some (.inr (4, 0)), some (.inl (.long x1)), none, some (.inl (.int x3))] [.inl (.int (m.1 4 0 4)), .inl (.int x3), .inr (20, 35)] m rfl ⟨trivial, (Nat.le_of_ble_eq_true rfl), trivial, trivial, (Nat.le_of_ble_eq_true rfl), trivial⟩ ?_
        refine zk_call R (fun _ => none) id rfl (r_X7_put) (fun b hb => w_X7_put_k20 d 0 35 (Nat.le_of_ble_eq_true rfl) x3 (m.1 4 0 4) m b hb) (fun r4 => ?_)
        refine zk_st R 2 2 [some (.inr (4, 0)), some (.inl (.long x1)), none, some (.inl (.int (x3 + (1 : Int32))))] [] r4 rfl ⟨trivial, trivial, trivial⟩ ?_
        refine zk_mask R [true, true, false, true] rfl ?_
        exact ih x1 (x3 + (1 : Int32)) r4
theorem w_X2_numberLake (d k : Nat) (x1 : Int64) (m : zM) (a : zM) (ha : f_X2_numberLake x1 m = some a) : z_Ev z_MT zN zRf (d + 2) (k + 0) 61 [.inr (4, 0), .inl (.long x1)] m ((fun a => (.inl none, a) : zM → zO) a) := by
  refine zk_top (I := (yX2_numberLake, cX2_numberLake, 4, none, [], tX2_numberLake, 4, 1, 4, 0, 0, 0)) (oc := (fun a => (.inl none, a) : zM → zO)) (a := a) rfl (Nat.le_of_ble_eq_true rfl) (fun G R => ?_) ha
  unfold f_X2_numberLake
  refine zk_st R 2 2 [some (.inr (4, 0)), some (.inl (.long x1)), none, some (.inl (.int (0 : Int32)))] [] m rfl ⟨trivial, trivial, trivial⟩ ?_
  refine zk_mask R [true, true, false, true] rfl ?_
  exact w_X2_numberLake_2 d k R zF x1 (0 : Int32) m
theorem r_X3_isOnLevel {i : Nat} {t : List zA} (h : i < zN 5) : z_rcv zN (zKD 67) (.inr (5, i) :: t) := by
  rw [show zKD 67 = 5 from rfl]
  exact ⟨rfl, h⟩
noncomputable def f_X3_isOnLevel (x2 : Int32) (x3 : Int32) (x4 : Int32) (m : zM) : Option (Bool) :=
  if x3 = (-1 : Int32) then
    some false
  else
    Option.bind (f_X7_at 20 36 x3 m) fun r2 =>
    if r2 = x4 then
      Option.bind (f_X7_at 20 33 x3 m) fun r4 =>
      Option.bind (f_X7_at 20 33 x2 m) fun r5 =>
      if r4 = r5 then
        some true
      else
        some false
    else
      some false
theorem w_X3_isOnLevel (d k : Nat) (x2 : Int32) (x3 : Int32) (x4 : Int32) (m : zM) (a : Bool) (ha : f_X3_isOnLevel x2 x3 x4 m = some a) : z_Ev z_MT zN zRf (d + 2) (k + 0) 67 [.inr (5, 0), .inr (4, 0), .inl (.int x2), .inl (.int x3), .inl (.int x4)] m ((fun a => (z_cB a, m) : Bool → zO) a) := by
  refine zk_top (I := (yX3_isOnLevel, cX3_isOnLevel, 5, (some .boolean), [], tX3_isOnLevel, 5, 4, 5, 0, 0, 0)) (oc := (fun a => (z_cB a, m) : Bool → zO)) (a := a) rfl (Nat.le_of_ble_eq_true rfl) (fun G R => ?_) ha
  unfold f_X3_isOnLevel
  refine zk_st R 2 2 [some (.inr (5, 0)), some (.inr (4, 0)), some (.inl (.int x2)), some (.inl (.int x3)), some (.inl (.int x4))] [.inl (.int (-1 : Int32)), .inl (.int x3)] m rfl ⟨trivial, trivial, trivial⟩ ?_
  refine zk_br R rfl (fun _ => ?_) (fun _ => ?_)
  · refine zk_st R 1 42 [some (.inr (5, 0)), some (.inr (4, 0)), some (.inl (.int x2)), some (.inl (.int x3)), some (.inl (.int x4))] [.inl (.int (0 : Int32))] m rfl ⟨trivial, trivial⟩ ?_
    exact zk_ret R rfl (Or.inl rfl) rfl
  · refine zk_st R 3 10 [some (.inr (5, 0)), some (.inr (4, 0)), some (.inl (.int x2)), some (.inl (.int x3)), some (.inl (.int x4))] [.inl (.int x3), .inr (20, 36)] m rfl ⟨trivial, (Nat.le_of_ble_eq_true rfl), trivial, trivial⟩ ?_
    refine zk_call R (fun b => some (.inl (.int b))) (fun _ => m) rfl (r_X7_at) (fun b hb => w_X7_at_k20 d 0 36 (Nat.le_of_ble_eq_true rfl) x3 m b hb) (fun r2 => ?_)
    refine zk_st R 1 15 [some (.inr (5, 0)), some (.inr (4, 0)), some (.inl (.int x2)), some (.inl (.int x3)), some (.inl (.int x4))] [.inl (.int x4), .inl (.int r2)] m rfl ⟨trivial, trivial⟩ ?_
    refine zk_br R rfl (fun _ => ?_) (fun _ => ?_)
    · refine zk_st R 3 23 [some (.inr (5, 0)), some (.inr (4, 0)), some (.inl (.int x2)), some (.inl (.int x3)), some (.inl (.int x4))] [.inl (.int x3), .inr (20, 33)] m rfl ⟨trivial, (Nat.le_of_ble_eq_true rfl), trivial, trivial⟩ ?_
      refine zk_call R (fun b => some (.inl (.int b))) (fun _ => m) rfl (r_X7_at) (fun b hb => w_X7_at_k20 d 0 33 (Nat.le_of_ble_eq_true rfl) x3 m b hb) (fun r4 => ?_)
      refine zk_st R 3 31 [some (.inr (5, 0)), some (.inr (4, 0)), some (.inl (.int x2)), some (.inl (.int x3)), some (.inl (.int x4))] [.inl (.int x2), .inr (20, 33), .inl (.int r4)] m rfl ⟨trivial, (Nat.le_of_ble_eq_true rfl), trivial, trivial⟩ ?_
      refine zk_call R (fun b => some (.inl (.int b))) (fun _ => m) rfl (r_X7_at) (fun b hb => w_X7_at_k20 d 0 33 (Nat.le_of_ble_eq_true rfl) x2 m b hb) (fun r5 => ?_)
      refine zk_br R rfl (fun _ => ?_) (fun _ => ?_)
      · refine zk_st R 2 42 [some (.inr (5, 0)), some (.inr (4, 0)), some (.inl (.int x2)), some (.inl (.int x3)), some (.inl (.int x4))] [.inl (.int (1 : Int32))] m rfl ⟨trivial, trivial, trivial⟩ ?_
        exact zk_ret R rfl (Or.inr rfl) rfl
      · refine zk_st R 1 42 [some (.inr (5, 0)), some (.inr (4, 0)), some (.inl (.int x2)), some (.inl (.int x3)), some (.inl (.int x4))] [.inl (.int (0 : Int32))] m rfl ⟨trivial, trivial⟩ ?_
        exact zk_ret R rfl (Or.inl rfl) rfl
    · refine zk_st R 1 42 [some (.inr (5, 0)), some (.inr (4, 0)), some (.inl (.int x2)), some (.inl (.int x3)), some (.inl (.int x4))] [.inl (.int (0 : Int32))] m rfl ⟨trivial, trivial⟩ ?_
      exact zk_ret R rfl (Or.inl rfl) rfl
theorem r_X3_findSequence {i : Nat} {t : List zA} (h : i < zN 5) : z_rcv zN (zKD 69) (.inr (5, i) :: t) := by
  rw [show zKD 69 = 5 from rfl]
  exact ⟨rfl, h⟩
noncomputable def f_X3_findSequence_83 : Nat → Int32 → Int32 → zM → Option (zM)
  | 0, _, _, _ => none
  | j + 1, x1, x2, m =>
    if (m.1 5 0 0) ≤ x2 then
      some m
    else
      Option.bind (f_X7_at 20 40 x2 m) fun r2 =>
      Option.bind (f_X7_at 20 39 r2 m) fun r3 =>
      Option.bind (f_X7_add 20 41 r3 (-1 : Int32) m) fun r4 =>
      if r3 = (-1 : Int32) then
        f_X3_findSequence_83 j x1 (x2 + (1 : Int32)) r4
      else
        Option.bind (f_X7_at 20 41 r3 r4) fun r6 =>
        if r6 = 0 then
          Option.bind (f_X7_put 20 40 x1 r3 r4) fun r8 =>
          f_X3_findSequence_83 j (x1 + (1 : Int32)) (x2 + (1 : Int32)) r8
        else
          f_X3_findSequence_83 j x1 (x2 + (1 : Int32)) r4
noncomputable def f_X3_findSequence_44 : Nat → Int32 → Int32 → zM → Option (zM)
  | 0, _, _, _ => none
  | j + 1, x1, x2, m =>
    if (m.1 5 0 0) ≤ x2 then
      f_X3_findSequence_83 zF x1 (0 : Int32) m
    else
      Option.bind (f_X7_at 20 41 x2 m) fun r2 =>
      if r2 = 0 then
        Option.bind (f_X7_put 20 40 x1 x2 m) fun r4 =>
        f_X3_findSequence_44 j (x1 + (1 : Int32)) (x2 + (1 : Int32)) r4
      else
        f_X3_findSequence_44 j x1 (x2 + (1 : Int32)) m
noncomputable def f_X3_findSequence_10 : Nat → Int32 → zM → Option (zM)
  | 0, _, _ => none
  | j + 1, x1, m =>
    if (m.1 5 0 0) ≤ x1 then
      f_X3_findSequence_44 zF (0 : Int32) (0 : Int32) m
    else
      Option.bind (f_X7_at 20 39 x1 m) fun r2 =>
      Option.bind (f_X7_add 20 41 r2 (1 : Int32) m) fun r3 =>
      f_X3_findSequence_10 j (x1 + (1 : Int32)) r3
noncomputable def f_X3_findSequence (m : zM) : Option (zM) :=
  Option.bind (f_J7_fill_53178 20 41 (0 : Int32) m) fun r1 =>
  f_X3_findSequence_10 zF (0 : Int32) r1
theorem w_X3_findSequence_83 (d k : Nat) {o : zO} {G : Nat → Nat → zL → List zA → zM → Prop} (R : zRu (d + 1) tX3_findSequence 0 (z_hf []) o G) : ∀ (j : Nat) (x1 : Int32) (x2 : Int32) (m : zM), zLK G (fun a => (.inl none, a) : zM → zO) o (f_X3_findSequence_83 j x1 x2 m) some (k + 0) 83 [some (.inr (5, 0)), some (.inl (.int x1)), some (.inl (.int x2)), none] [] m := by
  intro j
  induction j with
  | zero =>
    intro _ _ _
    exact zk_none
  | succ j ih =>
    intro x1 x2 m
    unfold f_X3_findSequence_83
    refine zk_st R 3 88 [some (.inr (5, 0)), some (.inl (.int x1)), some (.inl (.int x2)), none] [.inl (.int (m.1 5 0 0)), .inl (.int x2)] m rfl ⟨trivial, trivial, (Nat.le_of_ble_eq_true rfl), trivial⟩ ?_
    refine zk_br R rfl (fun _ => ?_) (fun _ => ?_)
    · exact zk_ret R rfl trivial rfl
    · refine zk_st R 5 100 [some (.inr (5, 0)), some (.inl (.int x1)), some (.inl (.int x2)), none] [.inl (.int x2), .inr (20, 40), .inr (20, 39)] m rfl ⟨trivial, (Nat.le_of_ble_eq_true rfl), trivial, (Nat.le_of_ble_eq_true rfl), trivial, trivial⟩ ?_
      refine zk_call R (fun b => some (.inl (.int b))) (fun _ => m) rfl (r_X7_at) (fun b hb => w_X7_at_k20 d 0 40 (Nat.le_of_ble_eq_true rfl) x2 m b hb) (fun r2 => ?_)
      refine zk_call R (fun b => some (.inl (.int b))) (fun _ => m) rfl (r_X7_at) (fun b hb => w_X7_at_k20 d 0 39 (Nat.le_of_ble_eq_true rfl) r2 m b hb) (fun r3 => ?_)
      refine zk_st R 5 113 [some (.inr (5, 0)), some (.inl (.int x1)), some (.inl (.int x2)), some (.inl (.int r3))] [.inl (.int (-1 : Int32)), .inl (.int r3), .inr (20, 41)] m rfl ⟨trivial, trivial, (Nat.le_of_ble_eq_true rfl), trivial, trivial, trivial⟩ ?_
      refine zk_call R (fun _ => none) id rfl (r_X7_add) (fun b hb => w_X7_add_k20 d 0 41 (Nat.le_of_ble_eq_true rfl) r3 (-1 : Int32) m b hb) (fun r4 => ?_)
      refine zk_st R 2 118 [some (.inr (5, 0)), some (.inl (.int x1)), some (.inl (.int x2)), some (.inl (.int r3))] [.inl (.int (-1 : Int32)), .inl (.int r3)] r4 rfl ⟨trivial, trivial, trivial⟩ ?_
      refine zk_br R rfl (fun _ => ?_) (fun _ => ?_)
      · refine zk_st R 2 83 [some (.inr (5, 0)), some (.inl (.int x1)), some (.inl (.int (x2 + (1 : Int32)))), some (.inl (.int r3))] [] r4 rfl ⟨trivial, trivial, trivial⟩ ?_
        refine zk_mask R [true, true, true, false] rfl ?_
        exact ih x1 (x2 + (1 : Int32)) r4
      · refine zk_st R 3 126 [some (.inr (5, 0)), some (.inl (.int x1)), some (.inl (.int x2)), some (.inl (.int r3))] [.inl (.int r3), .inr (20, 41)] r4 rfl ⟨trivial, (Nat.le_of_ble_eq_true rfl), trivial, trivial⟩ ?_
        refine zk_call R (fun b => some (.inl (.int b))) (fun _ => r4) rfl (r_X7_at) (fun b hb => w_X7_at_k20 d 0 41 (Nat.le_of_ble_eq_true rfl) r3 r4 b hb) (fun r6 => ?_)
        refine zk_br R rfl (fun _ => ?_) (fun _ => ?_)
        · refine zk_st R 4 138 [some (.inr (5, 0)), some (.inl (.int x1)), some (.inl (.int x2)), some (.inl (.int r3))] [.inl (.int r3), .inl (.int x1), .inr (20, 40)] r4 rfl ⟨trivial, (Nat.le_of_ble_eq_true rfl), trivial, trivial, trivial⟩ ?_
          refine zk_call R (fun _ => none) id rfl (r_X7_put) (fun b hb => w_X7_put_k20 d 0 40 (Nat.le_of_ble_eq_true rfl) x1 r3 r4 b hb) (fun r8 => ?_)
          refine zk_st R 3 83 [some (.inr (5, 0)), some (.inl (.int (x1 + (1 : Int32)))), some (.inl (.int (x2 + (1 : Int32)))), some (.inl (.int r3))] [] r8 rfl ⟨trivial, trivial, trivial, trivial⟩ ?_
          refine zk_mask R [true, true, true, false] rfl ?_
          exact ih (x1 + (1 : Int32)) (x2 + (1 : Int32)) r8
        · refine zk_st R 2 83 [some (.inr (5, 0)), some (.inl (.int x1)), some (.inl (.int (x2 + (1 : Int32)))), some (.inl (.int r3))] [] r4 rfl ⟨trivial, trivial, trivial⟩ ?_
          refine zk_mask R [true, true, true, false] rfl ?_
          exact ih x1 (x2 + (1 : Int32)) r4
theorem w_X3_findSequence_44 (d k : Nat) {o : zO} {G : Nat → Nat → zL → List zA → zM → Prop} (R : zRu (d + 1) tX3_findSequence 0 (z_hf []) o G) : ∀ (j : Nat) (x1 : Int32) (x2 : Int32) (m : zM), zLK G (fun a => (.inl none, a) : zM → zO) o (f_X3_findSequence_44 j x1 x2 m) some (k + 0) 44 [some (.inr (5, 0)), some (.inl (.int x1)), some (.inl (.int x2)), none] [] m := by
  intro j
  induction j with
  | zero =>
    intro _ _ _
    exact zk_none
  | succ j ih =>
    intro x1 x2 m
    unfold f_X3_findSequence_44
    refine zk_st R 3 49 [some (.inr (5, 0)), some (.inl (.int x1)), some (.inl (.int x2)), none] [.inl (.int (m.1 5 0 0)), .inl (.int x2)] m rfl ⟨trivial, trivial, (Nat.le_of_ble_eq_true rfl), trivial⟩ ?_
    refine zk_br R rfl (fun _ => ?_) (fun _ => ?_)
    · refine zk_st R 2 83 [some (.inr (5, 0)), some (.inl (.int x1)), some (.inl (.int (0 : Int32))), none] [] m rfl ⟨trivial, trivial, trivial⟩ ?_
      refine zk_mask R [true, true, true, false] rfl ?_
      exact w_X3_findSequence_83 d k R zF x1 (0 : Int32) m
    · refine zk_st R 3 57 [some (.inr (5, 0)), some (.inl (.int x1)), some (.inl (.int x2)), none] [.inl (.int x2), .inr (20, 41)] m rfl ⟨trivial, (Nat.le_of_ble_eq_true rfl), trivial, trivial⟩ ?_
      refine zk_call R (fun b => some (.inl (.int b))) (fun _ => m) rfl (r_X7_at) (fun b hb => w_X7_at_k20 d 0 41 (Nat.le_of_ble_eq_true rfl) x2 m b hb) (fun r2 => ?_)
      refine zk_br R rfl (fun _ => ?_) (fun _ => ?_)
      · refine zk_st R 4 69 [some (.inr (5, 0)), some (.inl (.int x1)), some (.inl (.int x2)), none] [.inl (.int x2), .inl (.int x1), .inr (20, 40)] m rfl ⟨trivial, (Nat.le_of_ble_eq_true rfl), trivial, trivial, trivial⟩ ?_
        refine zk_call R (fun _ => none) id rfl (r_X7_put) (fun b hb => w_X7_put_k20 d 0 40 (Nat.le_of_ble_eq_true rfl) x1 x2 m b hb) (fun r4 => ?_)
        refine zk_st R 3 44 [some (.inr (5, 0)), some (.inl (.int (x1 + (1 : Int32)))), some (.inl (.int (x2 + (1 : Int32)))), none] [] r4 rfl ⟨trivial, trivial, trivial, trivial⟩ ?_
        refine zk_mask R [true, true, true, false] rfl ?_
        exact ih (x1 + (1 : Int32)) (x2 + (1 : Int32)) r4
      · refine zk_st R 2 44 [some (.inr (5, 0)), some (.inl (.int x1)), some (.inl (.int (x2 + (1 : Int32)))), none] [] m rfl ⟨trivial, trivial, trivial⟩ ?_
        refine zk_mask R [true, true, true, false] rfl ?_
        exact ih x1 (x2 + (1 : Int32)) m
theorem w_X3_findSequence_10 (d k : Nat) {o : zO} {G : Nat → Nat → zL → List zA → zM → Prop} (R : zRu (d + 1) tX3_findSequence 0 (z_hf []) o G) : ∀ (j : Nat) (x1 : Int32) (m : zM), zLK G (fun a => (.inl none, a) : zM → zO) o (f_X3_findSequence_10 j x1 m) some (k + 0) 10 [some (.inr (5, 0)), some (.inl (.int x1)), none, none] [] m := by
  intro j
  induction j with
  | zero =>
    intro _ _
    exact zk_none
  | succ j ih =>
    intro x1 m
    unfold f_X3_findSequence_10
    refine zk_st R 3 15 [some (.inr (5, 0)), some (.inl (.int x1)), none, none] [.inl (.int (m.1 5 0 0)), .inl (.int x1)] m rfl ⟨trivial, trivial, (Nat.le_of_ble_eq_true rfl), trivial⟩ ?_
    refine zk_br R rfl (fun _ => ?_) (fun _ => ?_)
    · refine zk_st R 4 44 [some (.inr (5, 0)), some (.inl (.int (0 : Int32))), some (.inl (.int (0 : Int32))), none] [] m rfl ⟨trivial, trivial, trivial, trivial, trivial⟩ ?_
      refine zk_mask R [true, true, true, false] rfl ?_
      exact w_X3_findSequence_44 d k R zF (0 : Int32) (0 : Int32) m
    · refine zk_st R 5 27 [some (.inr (5, 0)), some (.inl (.int x1)), none, none] [.inl (.int x1), .inr (20, 39), .inr (20, 41)] m rfl ⟨trivial, (Nat.le_of_ble_eq_true rfl), trivial, (Nat.le_of_ble_eq_true rfl), trivial, trivial⟩ ?_
      refine zk_call R (fun b => some (.inl (.int b))) (fun _ => m) rfl (r_X7_at) (fun b hb => w_X7_at_k20 d 0 39 (Nat.le_of_ble_eq_true rfl) x1 m b hb) (fun r2 => ?_)
      refine zk_st R 1 31 [some (.inr (5, 0)), some (.inl (.int x1)), none, none] [.inl (.int (1 : Int32)), .inl (.int r2), .inr (20, 41)] m rfl ⟨trivial, trivial⟩ ?_
      refine zk_call R (fun _ => none) id rfl (r_X7_add) (fun b hb => w_X7_add_k20 d 0 41 (Nat.le_of_ble_eq_true rfl) r2 (1 : Int32) m b hb) (fun r3 => ?_)
      refine zk_st R 2 10 [some (.inr (5, 0)), some (.inl (.int (x1 + (1 : Int32)))), none, none] [] r3 rfl ⟨trivial, trivial, trivial⟩ ?_
      refine zk_mask R [true, true, false, false] rfl ?_
      exact ih (x1 + (1 : Int32)) r3
theorem w_X3_findSequence (d k : Nat) (m : zM) (a : zM) (ha : f_X3_findSequence m = some a) : z_Ev z_MT zN zRf (d + 2) (k + 0) 69 [.inr (5, 0)] m ((fun a => (.inl none, a) : zM → zO) a) := by
  refine zk_top (I := (yX3_findSequence, cX3_findSequence, 4, none, [], tX3_findSequence, 5, 0, 5, 0, 0, 0)) (oc := (fun a => (.inl none, a) : zM → zO)) (a := a) rfl (Nat.le_of_ble_eq_true rfl) (fun G R => ?_) ha
  unfold f_X3_findSequence
  refine zk_st R 3 5 [some (.inr (5, 0)), none, none, none] [.inl (.int (0 : Int32)), .inr (20, 41)] m rfl ⟨trivial, (Nat.le_of_ble_eq_true rfl), trivial, trivial⟩ ?_
  refine zk_call R (fun _ => none) id rfl (r_J7_fill_53178) (fun b hb => w_J7_fill_53178_k20 d 0 41 (Nat.le_of_ble_eq_true rfl) (0 : Int32) m b hb) (fun r1 => ?_)
  refine zk_st R 2 10 [some (.inr (5, 0)), some (.inl (.int (0 : Int32))), none, none] [] r1 rfl ⟨trivial, trivial, trivial⟩ ?_
  refine zk_mask R [true, true, false, false] rfl ?_
  exact w_X3_findSequence_10 d k R zF (0 : Int32) r1
theorem r_X3_findMouths {i : Nat} {t : List zA} (h : i < zN 5) : z_rcv zN (zKD 70) (.inr (5, i) :: t) := by
  rw [show zKD 70 = 5 from rfl]
  exact ⟨rfl, h⟩
noncomputable def f_X3_findMouths_78 (c7 : Int32 → zM → Option (zM)) (x1 : Int32) (s1 : Int32) (s2 : Int32) (m : zM) : Option (zM) :=
  Option.bind (f_X7_put 20 43 s1 s2 m) fun r1 =>
  c7 (x1 + (-1 : Int32)) r1
noncomputable def f_X3_findMouths_51 (c7 : Int32 → zM → Option (zM)) (x1 : Int32) (x2 : Int32) (x3 : Int32) (s1 : Int32) (s2 : Int32) (m : zM) : Option (zM) :=
  Option.bind (f_X7_put 20 42 s1 s2 m) fun r1 =>
  if x3 = (-1 : Int32) then
    f_X3_findMouths_78 c7 x1 x2 (0 : Int32) r1
  else
    Option.bind (f_X7_at 20 43 x3 r1) fun r3 =>
    f_X3_findMouths_78 c7 x1 x2 (r3 + (1 : Int32)) r1
noncomputable def f_X3_findMouths_7 : Nat → Int32 → zM → Option (zM)
  | 0, _, _ => none
  | j + 1, x1, m =>
    if x1 < 0 then
      some m
    else
      Option.bind (f_X7_at 20 40 x1 m) fun r2 =>
      Option.bind (f_X7_at 20 39 r2 m) fun r3 =>
      if r3 = (-1 : Int32) then
        f_X3_findMouths_51 (f_X3_findMouths_7 j) x1 r2 r3 r2 r2 m
      else
        Option.bind (f_X7_at 20 42 r3 m) fun r5 =>
        f_X3_findMouths_51 (f_X3_findMouths_7 j) x1 r2 r3 r2 r5 m
noncomputable def f_X3_findMouths (m : zM) : Option (zM) :=
  f_X3_findMouths_7 zF ((m.1 5 0 0) - (1 : Int32)) m
theorem w_X3_findMouths_78 (d k : Nat) {o : zO} {G : Nat → Nat → zL → List zA → zM → Prop} (R : zRu (d + 1) tX3_findMouths 0 (z_hf []) o G) (c7 : Int32 → zM → Option (zM)) (hc7 : ∀ (x1 : Int32) (m : zM), zLK G (fun a => (.inl none, a) : zM → zO) o (c7 x1 m) some (k + 0) 7 [some (.inr (5, 0)), some (.inl (.int x1)), none, none] [] m) (x1 : Int32) (s1 : Int32) (s2 : Int32) (m : zM) : zLK G (fun a => (.inl none, a) : zM → zO) o (f_X3_findMouths_78 c7 x1 s1 s2 m) some (k + 0) 78 [some (.inr (5, 0)), some (.inl (.int x1)), none, none] [.inl (.int s2), .inl (.int s1), .inr (20, 43)] m := by
  unfold f_X3_findMouths_78
  refine zk_call R (fun _ => none) id rfl (r_X7_put) (fun b hb => w_X7_put_k20 d 0 43 (Nat.le_of_ble_eq_true rfl) s1 s2 m b hb) (fun r1 => ?_)
  refine zk_st R 2 7 [some (.inr (5, 0)), some (.inl (.int (x1 + (-1 : Int32)))), none, none] [] r1 rfl ⟨trivial, trivial, trivial⟩ ?_
  refine zk_mask R [true, true, false, false] rfl ?_
  exact hc7 (x1 + (-1 : Int32)) r1
theorem w_X3_findMouths_51 (d k : Nat) {o : zO} {G : Nat → Nat → zL → List zA → zM → Prop} (R : zRu (d + 1) tX3_findMouths 0 (z_hf []) o G) (c7 : Int32 → zM → Option (zM)) (hc7 : ∀ (x1 : Int32) (m : zM), zLK G (fun a => (.inl none, a) : zM → zO) o (c7 x1 m) some (k + 0) 7 [some (.inr (5, 0)), some (.inl (.int x1)), none, none] [] m) (x1 : Int32) (x2 : Int32) (x3 : Int32) (s1 : Int32) (s2 : Int32) (m : zM) : zLK G (fun a => (.inl none, a) : zM → zO) o (f_X3_findMouths_51 c7 x1 x2 x3 s1 s2 m) some (k + 0) 51 [some (.inr (5, 0)), some (.inl (.int x1)), some (.inl (.int x2)), some (.inl (.int x3))] [.inl (.int s2), .inl (.int s1), .inr (20, 42)] m := by
  unfold f_X3_findMouths_51
  refine zk_call R (fun _ => none) id rfl (r_X7_put) (fun b hb => w_X7_put_k20 d 0 42 (Nat.le_of_ble_eq_true rfl) s1 s2 m b hb) (fun r1 => ?_)
  refine zk_st R 5 61 [some (.inr (5, 0)), some (.inl (.int x1)), some (.inl (.int x2)), some (.inl (.int x3))] [.inl (.int (-1 : Int32)), .inl (.int x3), .inl (.int x2), .inr (20, 43)] r1 rfl ⟨trivial, (Nat.le_of_ble_eq_true rfl), trivial, trivial, trivial, trivial⟩ ?_
  refine zk_br R rfl (fun _ => ?_) (fun _ => ?_)
  · refine zk_st R 2 78 [some (.inr (5, 0)), some (.inl (.int x1)), some (.inl (.int x2)), some (.inl (.int x3))] [.inl (.int (0 : Int32)), .inl (.int x2), .inr (20, 43)] r1 rfl ⟨trivial, trivial, trivial⟩ ?_
    refine zk_mask R [true, true, false, false] rfl ?_
    exact w_X3_findMouths_78 d k R c7 hc7 x1 x2 (0 : Int32) r1
  · refine zk_st R 3 73 [some (.inr (5, 0)), some (.inl (.int x1)), some (.inl (.int x2)), some (.inl (.int x3))] [.inl (.int x3), .inr (20, 43), .inl (.int x2), .inr (20, 43)] r1 rfl ⟨trivial, (Nat.le_of_ble_eq_true rfl), trivial, trivial⟩ ?_
    refine zk_call R (fun b => some (.inl (.int b))) (fun _ => r1) rfl (r_X7_at) (fun b hb => w_X7_at_k20 d 0 43 (Nat.le_of_ble_eq_true rfl) x3 r1 b hb) (fun r3 => ?_)
    refine zk_st R 2 78 [some (.inr (5, 0)), some (.inl (.int x1)), some (.inl (.int x2)), some (.inl (.int x3))] [.inl (.int (r3 + (1 : Int32))), .inl (.int x2), .inr (20, 43)] r1 rfl ⟨trivial, trivial, trivial⟩ ?_
    refine zk_mask R [true, true, false, false] rfl ?_
    exact w_X3_findMouths_78 d k R c7 hc7 x1 x2 (r3 + (1 : Int32)) r1
theorem w_X3_findMouths_7 (d k : Nat) {o : zO} {G : Nat → Nat → zL → List zA → zM → Prop} (R : zRu (d + 1) tX3_findMouths 0 (z_hf []) o G) : ∀ (j : Nat) (x1 : Int32) (m : zM), zLK G (fun a => (.inl none, a) : zM → zO) o (f_X3_findMouths_7 j x1 m) some (k + 0) 7 [some (.inr (5, 0)), some (.inl (.int x1)), none, none] [] m := by
  intro j
  induction j with
  | zero =>
    intro _ _
    exact zk_none
  | succ j ih =>
    intro x1 m
    unfold f_X3_findMouths_7
    refine zk_st R 1 8 [some (.inr (5, 0)), some (.inl (.int x1)), none, none] [.inl (.int x1)] m rfl ⟨trivial, trivial⟩ ?_
    refine zk_br R rfl (fun _ => ?_) (fun _ => ?_)
    · exact zk_ret R rfl trivial rfl
    · refine zk_st R 3 16 [some (.inr (5, 0)), some (.inl (.int x1)), none, none] [.inl (.int x1), .inr (20, 40)] m rfl ⟨trivial, (Nat.le_of_ble_eq_true rfl), trivial, trivial⟩ ?_
      refine zk_call R (fun b => some (.inl (.int b))) (fun _ => m) rfl (r_X7_at) (fun b hb => w_X7_at_k20 d 0 40 (Nat.le_of_ble_eq_true rfl) x1 m b hb) (fun r2 => ?_)
      refine zk_st R 4 25 [some (.inr (5, 0)), some (.inl (.int x1)), some (.inl (.int r2)), none] [.inl (.int r2), .inr (20, 39)] m rfl ⟨trivial, trivial, (Nat.le_of_ble_eq_true rfl), trivial, trivial⟩ ?_
      refine zk_call R (fun b => some (.inl (.int b))) (fun _ => m) rfl (r_X7_at) (fun b hb => w_X7_at_k20 d 0 39 (Nat.le_of_ble_eq_true rfl) r2 m b hb) (fun r3 => ?_)
      refine zk_st R 6 36 [some (.inr (5, 0)), some (.inl (.int x1)), some (.inl (.int r2)), some (.inl (.int r3))] [.inl (.int (-1 : Int32)), .inl (.int r3), .inl (.int r2), .inr (20, 42)] m rfl ⟨trivial, trivial, (Nat.le_of_ble_eq_true rfl), trivial, trivial, trivial, trivial⟩ ?_
      refine zk_br R rfl (fun _ => ?_) (fun _ => ?_)
      · refine zk_st R 2 51 [some (.inr (5, 0)), some (.inl (.int x1)), some (.inl (.int r2)), some (.inl (.int r3))] [.inl (.int r2), .inl (.int r2), .inr (20, 42)] m rfl ⟨trivial, trivial, trivial⟩ ?_
        refine zk_mask R [true, true, true, true] rfl ?_
        exact w_X3_findMouths_51 d k R (f_X3_findMouths_7 j) ih x1 r2 r3 r2 r2 m
      · refine zk_st R 3 48 [some (.inr (5, 0)), some (.inl (.int x1)), some (.inl (.int r2)), some (.inl (.int r3))] [.inl (.int r3), .inr (20, 42), .inl (.int r2), .inr (20, 42)] m rfl ⟨trivial, (Nat.le_of_ble_eq_true rfl), trivial, trivial⟩ ?_
        refine zk_call R (fun b => some (.inl (.int b))) (fun _ => m) rfl (r_X7_at) (fun b hb => w_X7_at_k20 d 0 42 (Nat.le_of_ble_eq_true rfl) r3 m b hb) (fun r5 => ?_)
        refine zk_mask R [true, true, true, true] rfl ?_
        exact w_X3_findMouths_51 d k R (f_X3_findMouths_7 j) ih x1 r2 r3 r2 r5 m
theorem w_X3_findMouths (d k : Nat) (m : zM) (a : zM) (ha : f_X3_findMouths m = some a) : z_Ev z_MT zN zRf (d + 2) (k + 0) 70 [.inr (5, 0)] m ((fun a => (.inl none, a) : zM → zO) a) := by
  refine zk_top (I := (yX3_findMouths, cX3_findMouths, 4, none, [], tX3_findMouths, 5, 0, 5, 0, 0, 0)) (oc := (fun a => (.inl none, a) : zM → zO)) (a := a) rfl (Nat.le_of_ble_eq_true rfl) (fun G R => ?_) ha
  unfold f_X3_findMouths
  refine zk_st R 5 7 [some (.inr (5, 0)), some (.inl (.int ((m.1 5 0 0) - (1 : Int32)))), none, none] [] m rfl ⟨trivial, (Nat.le_of_ble_eq_true rfl), trivial, trivial, trivial, trivial⟩ ?_
  refine zk_mask R [true, true, false, false] rfl ?_
  exact w_X3_findMouths_7 d k R zF ((m.1 5 0 0) - (1 : Int32)) m
theorem r_X3_downstream {i : Nat} {t : List zA} (h : i < zN 5) : z_rcv zN (zKD 71) (.inr (5, i) :: t) := by
  rw [show zKD 71 = 5 from rfl]
  exact ⟨rfl, h⟩
noncomputable def f_X3_downstream_5 (m : zM) : Nat → Int32 → Int32 → Int32 → Option (Int32)
  | 0, _, _, _ => none
  | j + 1, x2, x3, x4 =>
    if x2 ≤ x4 then
      some x3
    else
      if (64 : Int32) ≤ x4 then
        some x3
      else
        Option.bind (f_X7_at 20 39 x3 m) fun r3 =>
        f_X3_downstream_5 m j x2 r3 (x4 + (1 : Int32))
noncomputable def f_X3_downstream (x1 : Int32) (x2 : Int32) (m : zM) : Option (Int32) :=
  f_X3_downstream_5 m zF x2 x1 (0 : Int32)
theorem w_X3_downstream_5 (d k : Nat) {o : zO} {G : Nat → Nat → zL → List zA → zM → Prop} (m : zM) (R : zRu (d + 1) tX3_downstream 0 (z_hf []) o G) : ∀ (j : Nat) (x2 : Int32) (x3 : Int32) (x4 : Int32), zLK G (fun a => (z_cI a, m) : Int32 → zO) o (f_X3_downstream_5 m j x2 x3 x4) some (k + 0) 5 [some (.inr (5, 0)), none, some (.inl (.int x2)), some (.inl (.int x3)), some (.inl (.int x4))] [] m := by
  intro j
  induction j with
  | zero =>
    intro _ _ _
    exact zk_none
  | succ j ih =>
    intro x2 x3 x4
    unfold f_X3_downstream_5
    refine zk_st R 2 8 [some (.inr (5, 0)), none, some (.inl (.int x2)), some (.inl (.int x3)), some (.inl (.int x4))] [.inl (.int x2), .inl (.int x4)] m rfl ⟨trivial, trivial, trivial⟩ ?_
    refine zk_br R rfl (fun _ => ?_) (fun _ => ?_)
    · refine zk_st R 1 34 [some (.inr (5, 0)), none, some (.inl (.int x2)), some (.inl (.int x3)), some (.inl (.int x4))] [.inl (.int x3)] m rfl ⟨trivial, trivial⟩ ?_
      exact zk_ret R rfl trivial rfl
    · refine zk_st R 2 15 [some (.inr (5, 0)), none, some (.inl (.int x2)), some (.inl (.int x3)), some (.inl (.int x4))] [.inl (.int (64 : Int32)), .inl (.int x4)] m rfl ⟨trivial, trivial, trivial⟩ ?_
      refine zk_br R rfl (fun _ => ?_) (fun _ => ?_)
      · refine zk_st R 1 34 [some (.inr (5, 0)), none, some (.inl (.int x2)), some (.inl (.int x3)), some (.inl (.int x4))] [.inl (.int x3)] m rfl ⟨trivial, trivial⟩ ?_
        exact zk_ret R rfl trivial rfl
      · refine zk_st R 3 23 [some (.inr (5, 0)), none, some (.inl (.int x2)), some (.inl (.int x3)), some (.inl (.int x4))] [.inl (.int x3), .inr (20, 39)] m rfl ⟨trivial, (Nat.le_of_ble_eq_true rfl), trivial, trivial⟩ ?_
        refine zk_call R (fun b => some (.inl (.int b))) (fun _ => m) rfl (r_X7_at) (fun b hb => w_X7_at_k20 d 0 39 (Nat.le_of_ble_eq_true rfl) x3 m b hb) (fun r3 => ?_)
        refine zk_st R 3 5 [some (.inr (5, 0)), none, some (.inl (.int x2)), some (.inl (.int r3)), some (.inl (.int (x4 + (1 : Int32))))] [] m rfl ⟨trivial, trivial, trivial, trivial⟩ ?_
        refine zk_mask R [true, false, true, true, true] rfl ?_
        exact ih x2 r3 (x4 + (1 : Int32))
theorem w_X3_downstream (d k : Nat) (x1 : Int32) (x2 : Int32) (m : zM) (a : Int32) (ha : f_X3_downstream x1 x2 m = some a) : z_Ev z_MT zN zRf (d + 2) (k + 0) 71 [.inr (5, 0), .inl (.int x1), .inl (.int x2)] m ((fun a => (z_cI a, m) : Int32 → zO) a) := by
  refine zk_top (I := (yX3_downstream, cX3_downstream, 5, (some .int), [], tX3_downstream, 5, 2, 5, 0, 0, 0)) (oc := (fun a => (z_cI a, m) : Int32 → zO)) (a := a) rfl (Nat.le_of_ble_eq_true rfl) (fun G R => ?_) ha
  unfold f_X3_downstream
  refine zk_st R 4 5 [some (.inr (5, 0)), some (.inl (.int x1)), some (.inl (.int x2)), some (.inl (.int x1)), some (.inl (.int (0 : Int32)))] [] m rfl ⟨trivial, trivial, trivial, trivial, trivial⟩ ?_
  refine zk_mask R [true, false, true, true, true] rfl ?_
  exact w_X3_downstream_5 d k m R zF x2 x1 (0 : Int32)
theorem r_X3_firstOutside {i : Nat} {t : List zA} (h : i < zN 5) : z_rcv zN (zKD 72) (.inr (5, i) :: t) := by
  rw [show zKD 72 = 5 from rfl]
  exact ⟨rfl, h⟩
noncomputable def f_X3_firstOutside_6 (m : zM) : Nat → Int64 → Int32 → Int32 → Option (Int32)
  | 0, _, _, _ => none
  | j + 1, x2, x4, x5 =>
    if (64 : Int32) ≤ x5 then
      some x4
    else
      Option.bind (f_X7_has x2 x4 m) fun r2 =>
      if (z_bi r2) = 0 then
        some x4
      else
        Option.bind (f_X7_at 20 39 x4 m) fun r4 =>
        f_X3_firstOutside_6 m j x2 r4 (x5 + (1 : Int32))
noncomputable def f_X3_firstOutside (x1 : Int32) (x2 : Int64) (m : zM) : Option (Int32) :=
  f_X3_firstOutside_6 m zF x2 x1 (0 : Int32)
theorem w_X3_firstOutside_6 (d k : Nat) {o : zO} {G : Nat → Nat → zL → List zA → zM → Prop} (m : zM) (R : zRu (d + 1) tX3_firstOutside 0 (z_hf []) o G) : ∀ (j : Nat) (x2 : Int64) (x4 : Int32) (x5 : Int32), zLK G (fun a => (z_cI a, m) : Int32 → zO) o (f_X3_firstOutside_6 m j x2 x4 x5) some (k + 0) 6 [some (.inr (5, 0)), none, some (.inl (.long x2)), none, some (.inl (.int x4)), some (.inl (.int x5))] [] m := by
  intro j
  induction j with
  | zero =>
    intro _ _ _
    exact zk_none
  | succ j ih =>
    intro x2 x4 x5
    unfold f_X3_firstOutside_6
    refine zk_st R 2 10 [some (.inr (5, 0)), none, some (.inl (.long x2)), none, some (.inl (.int x4)), some (.inl (.int x5))] [.inl (.int (64 : Int32)), .inl (.int x5)] m rfl ⟨trivial, trivial, trivial⟩ ?_
    refine zk_br R rfl (fun _ => ?_) (fun _ => ?_)
    · refine zk_st R 1 41 [some (.inr (5, 0)), none, some (.inl (.long x2)), none, some (.inl (.int x4)), some (.inl (.int x5))] [.inl (.int x4)] m rfl ⟨trivial, trivial⟩ ?_
      exact zk_ret R rfl trivial rfl
    · refine zk_st R 2 16 [some (.inr (5, 0)), none, some (.inl (.long x2)), none, some (.inl (.int x4)), some (.inl (.int x5))] [.inl (.int x4), .inl (.long x2)] m rfl ⟨trivial, trivial, trivial⟩ ?_
      refine zk_call R (fun b => some (.inl (.int (z_bi b)))) (fun _ => m) rfl (r_X7_has) (fun b hb => w_X7_has d 0 x2 x4 m b hb) (fun r2 => ?_)
      refine zk_br R rfl (fun _ => ?_) (fun _ => ?_)
      · refine zk_st R 1 41 [some (.inr (5, 0)), none, some (.inl (.long x2)), none, some (.inl (.int x4)), some (.inl (.int x5))] [.inl (.int x4)] m rfl ⟨trivial, trivial⟩ ?_
        exact zk_ret R rfl trivial rfl
      · refine zk_st R 3 28 [some (.inr (5, 0)), none, some (.inl (.long x2)), none, some (.inl (.int x4)), some (.inl (.int x5))] [.inl (.int x4), .inr (20, 39)] m rfl ⟨trivial, (Nat.le_of_ble_eq_true rfl), trivial, trivial⟩ ?_
        refine zk_call R (fun b => some (.inl (.int b))) (fun _ => m) rfl (r_X7_at) (fun b hb => w_X7_at_k20 d 0 39 (Nat.le_of_ble_eq_true rfl) x4 m b hb) (fun r4 => ?_)
        refine zk_st R 3 6 [some (.inr (5, 0)), none, some (.inl (.long x2)), none, some (.inl (.int r4)), some (.inl (.int (x5 + (1 : Int32))))] [] m rfl ⟨trivial, trivial, trivial, trivial⟩ ?_
        refine zk_mask R [true, false, true, false, true, true] rfl ?_
        exact ih x2 r4 (x5 + (1 : Int32))
theorem w_X3_firstOutside (d k : Nat) (x1 : Int32) (x2 : Int64) (m : zM) (a : Int32) (ha : f_X3_firstOutside x1 x2 m = some a) : z_Ev z_MT zN zRf (d + 2) (k + 0) 72 [.inr (5, 0), .inl (.int x1), .inl (.long x2)] m ((fun a => (z_cI a, m) : Int32 → zO) a) := by
  refine zk_top (I := (yX3_firstOutside, cX3_firstOutside, 6, (some .int), [], tX3_firstOutside, 5, 2, 5, 0, 0, 0)) (oc := (fun a => (z_cI a, m) : Int32 → zO)) (a := a) rfl (Nat.le_of_ble_eq_true rfl) (fun G R => ?_) ha
  unfold f_X3_firstOutside
  refine zk_st R 4 6 [some (.inr (5, 0)), some (.inl (.int x1)), some (.inl (.long x2)), none, some (.inl (.int x1)), some (.inl (.int (0 : Int32)))] [] m rfl ⟨trivial, trivial, trivial, trivial, trivial⟩ ?_
  refine zk_mask R [true, false, true, false, true, true] rfl ?_
  exact w_X3_firstOutside_6 d k m R zF x2 x1 (0 : Int32)
theorem r_X3_above {i : Nat} {t : List zA} (h : i < zN 5) : z_rcv zN (zKD 73) (.inr (5, i) :: t) := by
  rw [show zKD 73 = 5 from rfl]
  exact ⟨rfl, h⟩
noncomputable def f_X3_above_12 (m : zM) : Nat → Int64 → Int32 → Option (Int64)
  | 0, _, _ => none
  | j + 1, x2, x4 =>
    if x4 < 0 then
      some x2
    else
      Option.bind (f_X7_at 20 40 x4 m) fun r2 =>
      Option.bind (f_X7_at 20 39 r2 m) fun r3 =>
      Option.bind (f_X7_has x2 r3 m) fun r4 =>
      if (z_bi r4) = 0 then
        f_X3_above_12 m j x2 (x4 + (-1 : Int32))
      else
        f_X3_above_12 m j (x2 ||| (z_shl (1 : Int64) r2)) (x4 + (-1 : Int32))
noncomputable def f_X3_above (x1 : Int32) (m : zM) : Option (Int64) :=
  f_X3_above_12 m zF (z_shl (1 : Int64) x1) ((m.1 5 0 0) - (1 : Int32))
theorem w_X3_above_12 (d k : Nat) {o : zO} {G : Nat → Nat → zL → List zA → zM → Prop} (m : zM) (R : zRu (d + 1) tX3_above 0 (z_hf []) o G) : ∀ (j : Nat) (x2 : Int64) (x4 : Int32), zLK G (fun a => (z_cL a, m) : Int64 → zO) o (f_X3_above_12 m j x2 x4) some (k + 0) 12 [some (.inr (5, 0)), none, some (.inl (.long x2)), none, some (.inl (.int x4)), none] [] m := by
  intro j
  induction j with
  | zero =>
    intro _ _
    exact zk_none
  | succ j ih =>
    intro x2 x4
    unfold f_X3_above_12
    refine zk_st R 1 14 [some (.inr (5, 0)), none, some (.inl (.long x2)), none, some (.inl (.int x4)), none] [.inl (.int x4)] m rfl ⟨trivial, trivial⟩ ?_
    refine zk_br R rfl (fun _ => ?_) (fun _ => ?_)
    · refine zk_st R 1 58 [some (.inr (5, 0)), none, some (.inl (.long x2)), none, some (.inl (.int x4)), none] [.inl (.long x2)] m rfl ⟨trivial, trivial⟩ ?_
      exact zk_ret R rfl trivial rfl
    · refine zk_st R 3 23 [some (.inr (5, 0)), none, some (.inl (.long x2)), none, some (.inl (.int x4)), none] [.inl (.int x4), .inr (20, 40)] m rfl ⟨trivial, (Nat.le_of_ble_eq_true rfl), trivial, trivial⟩ ?_
      refine zk_call R (fun b => some (.inl (.int b))) (fun _ => m) rfl (r_X7_at) (fun b hb => w_X7_at_k20 d 0 40 (Nat.le_of_ble_eq_true rfl) x4 m b hb) (fun r2 => ?_)
      refine zk_st R 5 35 [some (.inr (5, 0)), none, some (.inl (.long x2)), none, some (.inl (.int x4)), some (.inl (.int r2))] [.inl (.int r2), .inr (20, 39), .inl (.long x2)] m rfl ⟨trivial, trivial, trivial, (Nat.le_of_ble_eq_true rfl), trivial, trivial⟩ ?_
      refine zk_call R (fun b => some (.inl (.int b))) (fun _ => m) rfl (r_X7_at) (fun b hb => w_X7_at_k20 d 0 39 (Nat.le_of_ble_eq_true rfl) r2 m b hb) (fun r3 => ?_)
      refine zk_call R (fun b => some (.inl (.int (z_bi b)))) (fun _ => m) rfl (r_X7_has) (fun b hb => w_X7_has d 0 x2 r3 m b hb) (fun r4 => ?_)
      refine zk_br R rfl (fun _ => ?_) (fun _ => ?_)
      · refine zk_st R 2 12 [some (.inr (5, 0)), none, some (.inl (.long x2)), none, some (.inl (.int (x4 + (-1 : Int32)))), some (.inl (.int r2))] [] m rfl ⟨trivial, trivial, trivial⟩ ?_
        refine zk_mask R [true, false, true, false, true, false] rfl ?_
        exact ih x2 (x4 + (-1 : Int32))
      · refine zk_st R 8 12 [some (.inr (5, 0)), none, some (.inl (.long (x2 ||| (z_shl (1 : Int64) r2)))), none, some (.inl (.int (x4 + (-1 : Int32)))), some (.inl (.int r2))] [] m rfl ⟨trivial, trivial, trivial, trivial, trivial, trivial, trivial, trivial, trivial⟩ ?_
        refine zk_mask R [true, false, true, false, true, false] rfl ?_
        exact ih (x2 ||| (z_shl (1 : Int64) r2)) (x4 + (-1 : Int32))
theorem w_X3_above (d k : Nat) (x1 : Int32) (m : zM) (a : Int64) (ha : f_X3_above x1 m = some a) : z_Ev z_MT zN zRf (d + 2) (k + 0) 73 [.inr (5, 0), .inl (.int x1)] m ((fun a => (z_cL a, m) : Int64 → zO) a) := by
  refine zk_top (I := (yX3_above, cX3_above, 6, (some .long), [], tX3_above, 5, 1, 5, 0, 0, 0)) (oc := (fun a => (z_cL a, m) : Int64 → zO)) (a := a) rfl (Nat.le_of_ble_eq_true rfl) (fun G R => ?_) ha
  unfold f_X3_above
  refine zk_st R 9 12 [some (.inr (5, 0)), some (.inl (.int x1)), some (.inl (.long (z_shl (1 : Int64) x1))), none, some (.inl (.int ((m.1 5 0 0) - (1 : Int32)))), none] [] m rfl ⟨trivial, trivial, trivial, trivial, trivial, (Nat.le_of_ble_eq_true rfl), trivial, trivial, trivial, trivial⟩ ?_
  refine zk_mask R [true, false, true, false, true, false] rfl ?_
  exact w_X3_above_12 d k m R zF (z_shl (1 : Int64) x1) ((m.1 5 0 0) - (1 : Int32))
theorem r_X6_moved {as : List zA} : z_rcv zN (zKD 78) as := by
  rw [show zKD 78 = 0 from rfl]
  trivial
noncomputable def f_X6_moved (x0 : Int32) (x1 : Int32) (x2 : Int32) (m : zM) : Option (Int32) :=
  if x2 ≤ 0 then
    some (0 : Int32)
  else
    Option.bind (f_J9_floorDiv_7cf53 ((((2 : Int32) * x0) * x1) + x2) ((2 : Int32) * x2) m) fun r2 =>
    some r2
theorem w_X6_moved (d k : Nat) (x0 : Int32) (x1 : Int32) (x2 : Int32) (m : zM) (a : Int32) (ha : f_X6_moved x0 x1 x2 m = some a) : z_Ev z_MT zN zRf (d + 2) (k + 0) 78 [.inl (.int x0), .inl (.int x1), .inl (.int x2)] m ((fun a => (z_cI a, m) : Int32 → zO) a) := by
  refine zk_top (I := (yX6_moved, cX6_moved, 3, (some .int), [], tX6_moved, 0, 3, 8, 0, 0, 0)) (oc := (fun a => (z_cI a, m) : Int32 → zO)) (a := a) rfl (Nat.le_of_ble_eq_true rfl) (fun G R => ?_) ha
  unfold f_X6_moved
  refine zk_st R 1 1 [some (.inl (.int x0)), some (.inl (.int x1)), some (.inl (.int x2))] [.inl (.int x2)] m rfl ⟨trivial, trivial⟩ ?_
  refine zk_br R rfl (fun _ => ?_) (fun _ => ?_)
  · refine zk_st R 1 21 [some (.inl (.int x0)), some (.inl (.int x1)), some (.inl (.int x2))] [.inl (.int (0 : Int32))] m rfl ⟨trivial, trivial⟩ ?_
    exact zk_ret R rfl trivial rfl
  · refine zk_st R 10 14 [some (.inl (.int x0)), some (.inl (.int x1)), some (.inl (.int x2))] [.inl (.int ((2 : Int32) * x2)), .inl (.int ((((2 : Int32) * x0) * x1) + x2))] m rfl ⟨trivial, trivial, trivial, trivial, trivial, trivial, trivial, trivial, trivial, trivial, trivial⟩ ?_
    refine zk_call R (fun b => some (.inl (.int b))) (fun _ => m) rfl (r_J9_floorDiv_7cf53) (fun b hb => w_J9_floorDiv_7cf53 d 0 ((((2 : Int32) * x0) * x1) + x2) ((2 : Int32) * x2) m b hb) (fun r2 => ?_)
    refine zk_st R 1 21 [some (.inl (.int x0)), some (.inl (.int x1)), some (.inl (.int x2))] [.inl (.int r2)] m rfl ⟨trivial, trivial⟩ ?_
    exact zk_ret R rfl trivial rfl
theorem r_X6_cellSet {i : Nat} {t : List zA} (h : i < zN 8) : z_rcv zN (zKD 79) (.inr (8, i) :: t) := by
  rw [show zKD 79 = 8 from rfl]
  exact ⟨rfl, h⟩
noncomputable def f_X6_cellSet_4 (m : zM) : Nat → Int64 → Int32 → Option (Int64)
  | 0, _, _ => none
  | j + 1, x1, x3 =>
    if (m.1 8 0 1) ≤ x3 then
      some x1
    else
      Option.bind (f_X7_at 22 0 x3 m) fun r2 =>
      f_X6_cellSet_4 m j (x1 ||| (z_shl (1 : Int64) r2)) (x3 + (1 : Int32))
noncomputable def f_X6_cellSet (m : zM) : Option (Int64) :=
  f_X6_cellSet_4 m zF (0 : Int64) (0 : Int32)
theorem w_X6_cellSet_4 (d k : Nat) {o : zO} {G : Nat → Nat → zL → List zA → zM → Prop} (m : zM) (R : zRu (d + 1) tX6_cellSet 0 (z_hf []) o G) : ∀ (j : Nat) (x1 : Int64) (x3 : Int32), zLK G (fun a => (z_cL a, m) : Int64 → zO) o (f_X6_cellSet_4 m j x1 x3) some (k + 0) 4 [some (.inr (8, 0)), some (.inl (.long x1)), none, some (.inl (.int x3))] [] m := by
  intro j
  induction j with
  | zero =>
    intro _ _
    exact zk_none
  | succ j ih =>
    intro x1 x3
    unfold f_X6_cellSet_4
    refine zk_st R 3 9 [some (.inr (8, 0)), some (.inl (.long x1)), none, some (.inl (.int x3))] [.inl (.int (m.1 8 0 1)), .inl (.int x3)] m rfl ⟨trivial, trivial, (Nat.le_of_ble_eq_true rfl), trivial⟩ ?_
    refine zk_br R rfl (fun _ => ?_) (fun _ => ?_)
    · refine zk_st R 1 32 [some (.inr (8, 0)), some (.inl (.long x1)), none, some (.inl (.int x3))] [.inl (.long x1)] m rfl ⟨trivial, trivial⟩ ?_
      exact zk_ret R rfl trivial rfl
    · refine zk_st R 5 19 [some (.inr (8, 0)), some (.inl (.long x1)), none, some (.inl (.int x3))] [.inl (.int x3), .inr (22, 0), .inl (.long (1 : Int64)), .inl (.long x1)] m rfl ⟨trivial, trivial, trivial, (Nat.le_of_ble_eq_true rfl), trivial, trivial⟩ ?_
      refine zk_call R (fun b => some (.inl (.int b))) (fun _ => m) rfl (r_X7_at) (fun b hb => w_X7_at_k22 d 0 0 (Nat.le_of_ble_eq_true rfl) x3 m b hb) (fun r2 => ?_)
      refine zk_st R 5 4 [some (.inr (8, 0)), some (.inl (.long (x1 ||| (z_shl (1 : Int64) r2)))), none, some (.inl (.int (x3 + (1 : Int32))))] [] m rfl ⟨trivial, trivial, trivial, trivial, trivial, trivial⟩ ?_
      refine zk_mask R [true, true, false, true] rfl ?_
      exact ih (x1 ||| (z_shl (1 : Int64) r2)) (x3 + (1 : Int32))
theorem w_X6_cellSet (d k : Nat) (m : zM) (a : Int64) (ha : f_X6_cellSet m = some a) : z_Ev z_MT zN zRf (d + 2) (k + 0) 79 [.inr (8, 0)] m ((fun a => (z_cL a, m) : Int64 → zO) a) := by
  refine zk_top (I := (yX6_cellSet, cX6_cellSet, 4, (some .long), [], tX6_cellSet, 8, 0, 8, 0, 0, 0)) (oc := (fun a => (z_cL a, m) : Int64 → zO)) (a := a) rfl (Nat.le_of_ble_eq_true rfl) (fun G R => ?_) ha
  unfold f_X6_cellSet
  refine zk_st R 4 4 [some (.inr (8, 0)), some (.inl (.long (0 : Int64))), none, some (.inl (.int (0 : Int32)))] [] m rfl ⟨trivial, trivial, trivial, trivial, trivial⟩ ?_
  refine zk_mask R [true, true, false, true] rfl ?_
  exact w_X6_cellSet_4 d k m R zF (0 : Int64) (0 : Int32)
theorem r_X6_heightAt {i : Nat} {t : List zA} (h : i < zN 8) : z_rcv zN (zKD 80) (.inr (8, i) :: t) := by
  rw [show zKD 80 = 8 from rfl]
  exact ⟨rfl, h⟩
noncomputable def f_X6_heightAt (g1 : Nat) (x2 : Int32) (m : zM) : Option (Int32) :=
  Option.bind (f_X7_at 22 0 x2 m) fun r1 =>
  Option.bind (f_X7_at 20 (3 * g1) r1 m) fun r2 =>
  some r2
theorem w_X6_heightAt (d k : Nat) (g1 : Nat) (hg1 : g1 < zN 6) (x2 : Int32) (m : zM) (a : Int32) (ha : f_X6_heightAt g1 x2 m = some a) : z_Ev z_MT zN zRf (d + 2) (k + 0) 80 [.inr (8, 0), .inr (6, g1), .inl (.int x2)] m ((fun a => (z_cI a, m) : Int32 → zO) a) := by
  refine zk_top (I := (yX6_heightAt, cX6_heightAt, 3, (some .int), [], tX6_heightAt, 8, 2, 8, 0, 0, 0)) (oc := (fun a => (z_cI a, m) : Int32 → zO)) (a := a) rfl (Nat.le_of_ble_eq_true rfl) (fun G R => ?_) ha
  unfold f_X6_heightAt
  refine zk_st R 5 9 [some (.inr (8, 0)), some (.inr (6, g1)), some (.inl (.int x2))] [.inl (.int x2), .inr (22, 0), .inr (20, 3 * g1)] m rfl ⟨trivial, hg1, trivial, (Nat.le_of_ble_eq_true rfl), trivial, trivial⟩ ?_
  refine zk_call R (fun b => some (.inl (.int b))) (fun _ => m) rfl (r_X7_at) (fun b hb => w_X7_at_k22 d 0 0 (Nat.le_of_ble_eq_true rfl) x2 m b hb) (fun r1 => ?_)
  refine zk_call R (fun b => some (.inl (.int b))) (fun _ => m) rfl (r_X7_at) (fun b hb => w_X7_at_k20 d 0 (3 * g1) (z_g0 hg1) r1 m b hb) (fun r2 => ?_)
  exact zk_ret R rfl trivial rfl
theorem r_X8_findCells {i : Nat} {t : List zA} (h : i < zN 9) : z_rcv zN (zKD 84) (.inr (9, i) :: t) := by
  rw [show zKD 84 = 9 from rfl]
  exact ⟨rfl, h⟩
noncomputable def f_X8_findCells_13 (g1 : Nat) : Nat → Int32 → Int32 → zM → Option (zM)
  | 0, _, _, _ => none
  | j + 1, x3, x4, m =>
    if x3 ≤ x4 then
      some m
    else
      Option.bind (f_X7_at 20 45 x4 m) fun r2 =>
      if r2 < (m.1 6 g1 2) then
        f_X8_findCells_13 g1 j x3 (x4 + (1 : Int32)) m
      else
        f_X8_findCells_13 g1 j x3 (x4 + (1 : Int32)) (z_sL m 9 0 0 ((m.2.1 9 0 0) ||| (z_shl (1 : Int64) x4)))
noncomputable def f_X8_findCells (g1 : Nat) (m : zM) : Option (zM) :=
  Option.bind (f_X4_size g1 (z_sL m 9 0 0 (0 : Int64))) fun r1 =>
  f_X8_findCells_13 g1 zF r1 (0 : Int32) (z_sL m 9 0 0 (0 : Int64))
theorem w_X8_findCells_13 (d k : Nat) {o : zO} {G : Nat → Nat → zL → List zA → zM → Prop} (g1 : Nat) (hg1 : g1 < zN 6) (R : zRu (d + 1) tX8_findCells 0 (z_hf []) o G) : ∀ (j : Nat) (x3 : Int32) (x4 : Int32) (m : zM), zLK G (fun a => (.inl none, a) : zM → zO) o (f_X8_findCells_13 g1 j x3 x4 m) some (k + 0) 13 [some (.inr (9, 0)), some (.inr (6, g1)), some (.inr (11, 0)), some (.inl (.int x3)), some (.inl (.int x4))] [] m := by
  intro j
  induction j with
  | zero =>
    intro _ _ _
    exact zk_none
  | succ j ih =>
    intro x3 x4 m
    unfold f_X8_findCells_13
    refine zk_st R 2 16 [some (.inr (9, 0)), some (.inr (6, g1)), some (.inr (11, 0)), some (.inl (.int x3)), some (.inl (.int x4))] [.inl (.int x3), .inl (.int x4)] m rfl ⟨trivial, trivial, trivial⟩ ?_
    refine zk_br R rfl (fun _ => ?_) (fun _ => ?_)
    · exact zk_ret R rfl trivial rfl
    · refine zk_st R 3 25 [some (.inr (9, 0)), some (.inr (6, g1)), some (.inr (11, 0)), some (.inl (.int x3)), some (.inl (.int x4))] [.inl (.int x4), .inr (20, 45)] m rfl ⟨trivial, (Nat.le_of_ble_eq_true rfl), trivial, trivial⟩ ?_
      refine zk_call R (fun b => some (.inl (.int b))) (fun _ => m) rfl (r_X7_at) (fun b hb => w_X7_at_k20 d 0 45 (Nat.le_of_ble_eq_true rfl) x4 m b hb) (fun r2 => ?_)
      refine zk_st R 2 32 [some (.inr (9, 0)), some (.inr (6, g1)), some (.inr (11, 0)), some (.inl (.int x3)), some (.inl (.int x4))] [.inl (.int (m.1 6 g1 2)), .inl (.int r2)] m rfl ⟨trivial, hg1, trivial⟩ ?_
      refine zk_br R rfl (fun _ => ?_) (fun _ => ?_)
      · refine zk_st R 2 13 [some (.inr (9, 0)), some (.inr (6, g1)), some (.inr (11, 0)), some (.inl (.int x3)), some (.inl (.int (x4 + (1 : Int32))))] [] m rfl ⟨trivial, trivial, trivial⟩ ?_
        refine zk_mask R [true, true, true, true, true] rfl ?_
        exact ih x3 (x4 + (1 : Int32)) m
      · refine zk_st R 10 13 [some (.inr (9, 0)), some (.inr (6, g1)), some (.inr (11, 0)), some (.inl (.int x3)), some (.inl (.int (x4 + (1 : Int32))))] [] (z_sL m 9 0 0 ((m.2.1 9 0 0) ||| (z_shl (1 : Int64) x4))) rfl ⟨trivial, trivial, (Nat.le_of_ble_eq_true rfl), trivial, trivial, trivial, trivial, (Nat.le_of_ble_eq_true rfl), trivial, trivial, trivial⟩ ?_
        refine zk_mask R [true, true, true, true, true] rfl ?_
        exact ih x3 (x4 + (1 : Int32)) (z_sL m 9 0 0 ((m.2.1 9 0 0) ||| (z_shl (1 : Int64) x4)))
theorem w_X8_findCells (d k : Nat) (g1 : Nat) (hg1 : g1 < zN 6) (m : zM) (a : zM) (ha : f_X8_findCells g1 m = some a) : z_Ev z_MT zN zRf (d + 2) (k + 0) 84 [.inr (9, 0), .inr (6, g1), .inr (11, 0)] m ((fun a => (.inl none, a) : zM → zO) a) := by
  refine zk_top (I := (yX8_findCells, cX8_findCells, 5, none, [], tX8_findCells, 9, 2, 9, 0, 0, 0)) (oc := (fun a => (.inl none, a) : zM → zO)) (a := a) rfl (Nat.le_of_ble_eq_true rfl) (fun G R => ?_) ha
  unfold f_X8_findCells
  refine zk_st R 4 6 [some (.inr (9, 0)), some (.inr (6, g1)), some (.inr (11, 0)), none, none] [.inr (6, g1)] (z_sL m 9 0 0 (0 : Int64)) rfl ⟨trivial, trivial, (Nat.le_of_ble_eq_true rfl), trivial, trivial⟩ ?_
  refine zk_call R (fun b => some (.inl (.int b))) (fun _ => (z_sL m 9 0 0 (0 : Int64))) rfl (r_X4_size hg1) (fun b hb => w_X4_size d 0 g1 hg1 (z_sL m 9 0 0 (0 : Int64)) b hb) (fun r1 => ?_)
  refine zk_st R 3 13 [some (.inr (9, 0)), some (.inr (6, g1)), some (.inr (11, 0)), some (.inl (.int r1)), some (.inl (.int (0 : Int32)))] [] (z_sL m 9 0 0 (0 : Int64)) rfl ⟨trivial, trivial, trivial, trivial⟩ ?_
  refine zk_mask R [true, true, true, true, true] rfl ?_
  exact w_X8_findCells_13 d k g1 hg1 R zF r1 (0 : Int32) (z_sL m 9 0 0 (0 : Int64))
theorem r_X8_feed {i : Nat} {t : List zA} (h : i < zN 9) : z_rcv zN (zKD 86) (.inr (9, i) :: t) := by
  rw [show zKD 86 = 9 from rfl]
  exact ⟨rfl, h⟩
noncomputable def f_X8_feed (x1 : Int32) (x2 : Int32) (m : zM) : Option (zM) :=
  Option.bind (f_X7_has (m.2.1 9 0 0) x1 m) fun r1 =>
  if (z_bi r1) = 0 then
    some m
  else
    Option.bind (f_X7_add 20 49 x1 (1 : Int32) m) fun r3 =>
    Option.bind (f_X7_at 20 50 x1 r3) fun r4 =>
    if x2 ≤ r4 then
      Option.bind (f_X7_at 20 50 x1 r3) fun r6 =>
      if x2 = r6 then
        Option.bind (f_X7_add 20 51 x1 (1 : Int32) r3) fun r8 =>
        some r8
      else
        some r3
    else
      Option.bind (f_X7_put 20 50 x1 x2 r3) fun r9 =>
      Option.bind (f_X7_put 20 51 x1 (1 : Int32) r9) fun r10 =>
      some r10
theorem w_X8_feed (d k : Nat) (x1 : Int32) (x2 : Int32) (m : zM) (a : zM) (ha : f_X8_feed x1 x2 m = some a) : z_Ev z_MT zN zRf (d + 2) (k + 0) 86 [.inr (9, 0), .inl (.int x1), .inl (.int x2)] m ((fun a => (.inl none, a) : zM → zO) a) := by
  refine zk_top (I := (yX8_feed, cX8_feed, 3, none, [], tX8_feed, 9, 2, 9, 0, 0, 0)) (oc := (fun a => (.inl none, a) : zM → zO)) (a := a) rfl (Nat.le_of_ble_eq_true rfl) (fun G R => ?_) ha
  unfold f_X8_feed
  refine zk_st R 3 5 [some (.inr (9, 0)), some (.inl (.int x1)), some (.inl (.int x2))] [.inl (.int x1), .inl (.long (m.2.1 9 0 0))] m rfl ⟨trivial, (Nat.le_of_ble_eq_true rfl), trivial, trivial⟩ ?_
  refine zk_call R (fun b => some (.inl (.int (z_bi b)))) (fun _ => m) rfl (r_X7_has) (fun b hb => w_X7_has d 0 (m.2.1 9 0 0) x1 m b hb) (fun r1 => ?_)
  refine zk_br R rfl (fun _ => ?_) (fun _ => ?_)
  · exact zk_ret R rfl trivial rfl
  · refine zk_st R 4 18 [some (.inr (9, 0)), some (.inl (.int x1)), some (.inl (.int x2))] [.inl (.int (1 : Int32)), .inl (.int x1), .inr (20, 49)] m rfl ⟨trivial, (Nat.le_of_ble_eq_true rfl), trivial, trivial, trivial⟩ ?_
    refine zk_call R (fun _ => none) id rfl (r_X7_add) (fun b hb => w_X7_add_k20 d 0 49 (Nat.le_of_ble_eq_true rfl) x1 (1 : Int32) m b hb) (fun r3 => ?_)
    refine zk_st R 4 27 [some (.inr (9, 0)), some (.inl (.int x1)), some (.inl (.int x2))] [.inl (.int x1), .inr (20, 50), .inl (.int x2)] r3 rfl ⟨trivial, trivial, (Nat.le_of_ble_eq_true rfl), trivial, trivial⟩ ?_
    refine zk_call R (fun b => some (.inl (.int b))) (fun _ => r3) rfl (r_X7_at) (fun b hb => w_X7_at_k20 d 0 50 (Nat.le_of_ble_eq_true rfl) x1 r3 b hb) (fun r4 => ?_)
    refine zk_br R rfl (fun _ => ?_) (fun _ => ?_)
    · refine zk_st R 4 60 [some (.inr (9, 0)), some (.inl (.int x1)), some (.inl (.int x2))] [.inl (.int x1), .inr (20, 50), .inl (.int x2)] r3 rfl ⟨trivial, trivial, (Nat.le_of_ble_eq_true rfl), trivial, trivial⟩ ?_
      refine zk_call R (fun b => some (.inl (.int b))) (fun _ => r3) rfl (r_X7_at) (fun b hb => w_X7_at_k20 d 0 50 (Nat.le_of_ble_eq_true rfl) x1 r3 b hb) (fun r6 => ?_)
      refine zk_br R rfl (fun _ => ?_) (fun _ => ?_)
      · refine zk_st R 4 72 [some (.inr (9, 0)), some (.inl (.int x1)), some (.inl (.int x2))] [.inl (.int (1 : Int32)), .inl (.int x1), .inr (20, 51)] r3 rfl ⟨trivial, (Nat.le_of_ble_eq_true rfl), trivial, trivial, trivial⟩ ?_
        refine zk_call R (fun _ => none) id rfl (r_X7_add) (fun b hb => w_X7_add_k20 d 0 51 (Nat.le_of_ble_eq_true rfl) x1 (1 : Int32) r3 b hb) (fun r8 => ?_)
        exact zk_ret R rfl trivial rfl
      · exact zk_ret R rfl trivial rfl
    · refine zk_st R 4 39 [some (.inr (9, 0)), some (.inl (.int x1)), some (.inl (.int x2))] [.inl (.int x2), .inl (.int x1), .inr (20, 50)] r3 rfl ⟨trivial, (Nat.le_of_ble_eq_true rfl), trivial, trivial, trivial⟩ ?_
      refine zk_call R (fun _ => none) id rfl (r_X7_put) (fun b hb => w_X7_put_k20 d 0 50 (Nat.le_of_ble_eq_true rfl) x1 x2 r3 b hb) (fun r9 => ?_)
      refine zk_st R 4 48 [some (.inr (9, 0)), some (.inl (.int x1)), some (.inl (.int x2))] [.inl (.int (1 : Int32)), .inl (.int x1), .inr (20, 51)] r9 rfl ⟨trivial, (Nat.le_of_ble_eq_true rfl), trivial, trivial, trivial⟩ ?_
      refine zk_call R (fun _ => none) id rfl (r_X7_put) (fun b hb => w_X7_put_k20 d 0 51 (Nat.le_of_ble_eq_true rfl) x1 (1 : Int32) r9 b hb) (fun r10 => ?_)
      refine zk_st R 1 75 [some (.inr (9, 0)), some (.inl (.int x1)), some (.inl (.int x2))] [] r10 rfl ⟨trivial, trivial⟩ ?_
      exact zk_ret R rfl trivial rfl
theorem r_X8_isBeginning {i : Nat} {t : List zA} (h : i < zN 9) : z_rcv zN (zKD 87) (.inr (9, i) :: t) := by
  rw [show zKD 87 = 9 from rfl]
  exact ⟨rfl, h⟩
noncomputable def f_X8_isBeginning (x1 : Int32) (m : zM) : Option (Bool) :=
  Option.bind (f_X7_has (m.2.1 9 0 0) x1 m) fun r1 =>
  if (z_bi r1) = 0 then
    some false
  else
    Option.bind (f_X7_at 20 49 x1 m) fun r3 =>
    if r3 = (1 : Int32) then
      some false
    else
      some true
theorem w_X8_isBeginning (d k : Nat) (x1 : Int32) (m : zM) (a : Bool) (ha : f_X8_isBeginning x1 m = some a) : z_Ev z_MT zN zRf (d + 2) (k + 0) 87 [.inr (9, 0), .inl (.int x1)] m ((fun a => (z_cB a, m) : Bool → zO) a) := by
  refine zk_top (I := (yX8_isBeginning, cX8_isBeginning, 2, (some .boolean), [], tX8_isBeginning, 9, 1, 9, 0, 0, 0)) (oc := (fun a => (z_cB a, m) : Bool → zO)) (a := a) rfl (Nat.le_of_ble_eq_true rfl) (fun G R => ?_) ha
  unfold f_X8_isBeginning
  refine zk_st R 3 5 [some (.inr (9, 0)), some (.inl (.int x1))] [.inl (.int x1), .inl (.long (m.2.1 9 0 0))] m rfl ⟨trivial, (Nat.le_of_ble_eq_true rfl), trivial, trivial⟩ ?_
  refine zk_call R (fun b => some (.inl (.int (z_bi b)))) (fun _ => m) rfl (r_X7_has) (fun b hb => w_X7_has d 0 (m.2.1 9 0 0) x1 m b hb) (fun r1 => ?_)
  refine zk_br R rfl (fun _ => ?_) (fun _ => ?_)
  · refine zk_st R 1 28 [some (.inr (9, 0)), some (.inl (.int x1))] [.inl (.int (0 : Int32))] m rfl ⟨trivial, trivial⟩ ?_
    exact zk_ret R rfl (Or.inl rfl) rfl
  · refine zk_st R 3 16 [some (.inr (9, 0)), some (.inl (.int x1))] [.inl (.int x1), .inr (20, 49)] m rfl ⟨trivial, (Nat.le_of_ble_eq_true rfl), trivial, trivial⟩ ?_
    refine zk_call R (fun b => some (.inl (.int b))) (fun _ => m) rfl (r_X7_at) (fun b hb => w_X7_at_k20 d 0 49 (Nat.le_of_ble_eq_true rfl) x1 m b hb) (fun r3 => ?_)
    refine zk_st R 1 20 [some (.inr (9, 0)), some (.inl (.int x1))] [.inl (.int (1 : Int32)), .inl (.int r3)] m rfl ⟨trivial, trivial⟩ ?_
    refine zk_br R rfl (fun _ => ?_) (fun _ => ?_)
    · refine zk_st R 1 28 [some (.inr (9, 0)), some (.inl (.int x1))] [.inl (.int (0 : Int32))] m rfl ⟨trivial, trivial⟩ ?_
      exact zk_ret R rfl (Or.inl rfl) rfl
    · refine zk_st R 2 28 [some (.inr (9, 0)), some (.inl (.int x1))] [.inl (.int (1 : Int32))] m rfl ⟨trivial, trivial, trivial⟩ ?_
      exact zk_ret R rfl (Or.inr rfl) rfl
