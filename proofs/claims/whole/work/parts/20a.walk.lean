theorem r_J6_numberOfTrailingZeros_0f7a4 {as : List zA} : z_rcv zN (zKD 0) as := by
  rw [show zKD 0 = 0 from rfl]
  trivial
noncomputable def f_J6_numberOfTrailingZeros_0f7a4_74 (m : zM) (x0 : Int32) (x1 : Int32) : Option (Int32) :=
  some (x1 + (z_iushr x0 (1 : Int32)))
noncomputable def f_J6_numberOfTrailingZeros_0f7a4_62 (m : zM) (x0 : Int32) (x1 : Int32) : Option (Int32) :=
  if x0 ≤ (4 : Int32) then
    f_J6_numberOfTrailingZeros_0f7a4_74 m x0 x1
  else
    f_J6_numberOfTrailingZeros_0f7a4_74 m (z_iushr x0 (2 : Int32)) (x1 + (2 : Int32))
noncomputable def f_J6_numberOfTrailingZeros_0f7a4_49 (m : zM) (x0 : Int32) (x1 : Int32) : Option (Int32) :=
  if x0 ≤ (16 : Int32) then
    f_J6_numberOfTrailingZeros_0f7a4_62 m x0 x1
  else
    f_J6_numberOfTrailingZeros_0f7a4_62 m (z_iushr x0 (4 : Int32)) (x1 + (4 : Int32))
noncomputable def f_J6_numberOfTrailingZeros_0f7a4_34 (m : zM) (x0 : Int32) (x1 : Int32) : Option (Int32) :=
  if x0 ≤ (256 : Int32) then
    f_J6_numberOfTrailingZeros_0f7a4_49 m x0 x1
  else
    f_J6_numberOfTrailingZeros_0f7a4_49 m (z_iushr x0 (8 : Int32)) (x1 + (8 : Int32))
noncomputable def f_J6_numberOfTrailingZeros_0f7a4 (x0 : Int32) (m : zM) : Option (Int32) :=
  if 0 < ((x0 ^^^ (-1 : Int32)) &&& (x0 - (1 : Int32))) then
    if ((x0 ^^^ (-1 : Int32)) &&& (x0 - (1 : Int32))) ≤ (65536 : Int32) then
      f_J6_numberOfTrailingZeros_0f7a4_34 m ((x0 ^^^ (-1 : Int32)) &&& (x0 - (1 : Int32))) (1 : Int32)
    else
      f_J6_numberOfTrailingZeros_0f7a4_34 m (z_iushr ((x0 ^^^ (-1 : Int32)) &&& (x0 - (1 : Int32))) (16 : Int32)) ((1 : Int32) + (16 : Int32))
  else
    some (((x0 ^^^ (-1 : Int32)) &&& (x0 - (1 : Int32))) &&& (32 : Int32))
theorem w_J6_numberOfTrailingZeros_0f7a4_74 (d k : Nat) {o : zO} {G : Nat → Nat → zL → List zA → zM → Prop} (m : zM) (R : zRu (d + 0) tJ6_numberOfTrailingZeros_0f7a4 0 (z_hf []) o G) (x0 : Int32) (x1 : Int32) : zLK G (fun a => (z_cI a, m) : Int32 → zO) o (f_J6_numberOfTrailingZeros_0f7a4_74 m x0 x1) some (k + 0) 74 [some (.inl (.int x0)), some (.inl (.int x1))] [] m := by
  unfold f_J6_numberOfTrailingZeros_0f7a4_74
  refine zk_st R 5 79 [some (.inl (.int x0)), some (.inl (.int x1))] [.inl (.int (x1 + (z_iushr x0 (1 : Int32))))] m rfl ⟨trivial, trivial, trivial, trivial, trivial, trivial⟩ ?_
  exact zk_ret R rfl trivial rfl
theorem w_J6_numberOfTrailingZeros_0f7a4_62 (d k : Nat) {o : zO} {G : Nat → Nat → zL → List zA → zM → Prop} (m : zM) (R : zRu (d + 0) tJ6_numberOfTrailingZeros_0f7a4 0 (z_hf []) o G) (x0 : Int32) (x1 : Int32) : zLK G (fun a => (z_cI a, m) : Int32 → zO) o (f_J6_numberOfTrailingZeros_0f7a4_62 m x0 x1) some (k + 0) 62 [some (.inl (.int x0)), some (.inl (.int x1))] [] m := by
  unfold f_J6_numberOfTrailingZeros_0f7a4_62
  refine zk_st R 2 64 [some (.inl (.int x0)), some (.inl (.int x1))] [.inl (.int (4 : Int32)), .inl (.int x0)] m rfl ⟨trivial, trivial, trivial⟩ ?_
  refine zk_br R rfl (fun _ => ?_) (fun _ => ?_)
  · refine zk_mask R [true, true] rfl ?_
    exact w_J6_numberOfTrailingZeros_0f7a4_74 d k m R x0 x1
  · refine zk_st R 5 74 [some (.inl (.int (z_iushr x0 (2 : Int32)))), some (.inl (.int (x1 + (2 : Int32))))] [] m rfl ⟨trivial, trivial, trivial, trivial, trivial, trivial⟩ ?_
    refine zk_mask R [true, true] rfl ?_
    exact w_J6_numberOfTrailingZeros_0f7a4_74 d k m R (z_iushr x0 (2 : Int32)) (x1 + (2 : Int32))
theorem w_J6_numberOfTrailingZeros_0f7a4_49 (d k : Nat) {o : zO} {G : Nat → Nat → zL → List zA → zM → Prop} (m : zM) (R : zRu (d + 0) tJ6_numberOfTrailingZeros_0f7a4 0 (z_hf []) o G) (x0 : Int32) (x1 : Int32) : zLK G (fun a => (z_cI a, m) : Int32 → zO) o (f_J6_numberOfTrailingZeros_0f7a4_49 m x0 x1) some (k + 0) 49 [some (.inl (.int x0)), some (.inl (.int x1))] [] m := by
  unfold f_J6_numberOfTrailingZeros_0f7a4_49
  refine zk_st R 2 52 [some (.inl (.int x0)), some (.inl (.int x1))] [.inl (.int (16 : Int32)), .inl (.int x0)] m rfl ⟨trivial, trivial, trivial⟩ ?_
  refine zk_br R rfl (fun _ => ?_) (fun _ => ?_)
  · refine zk_mask R [true, true] rfl ?_
    exact w_J6_numberOfTrailingZeros_0f7a4_62 d k m R x0 x1
  · refine zk_st R 5 62 [some (.inl (.int (z_iushr x0 (4 : Int32)))), some (.inl (.int (x1 + (4 : Int32))))] [] m rfl ⟨trivial, trivial, trivial, trivial, trivial, trivial⟩ ?_
    refine zk_mask R [true, true] rfl ?_
    exact w_J6_numberOfTrailingZeros_0f7a4_62 d k m R (z_iushr x0 (4 : Int32)) (x1 + (4 : Int32))
theorem w_J6_numberOfTrailingZeros_0f7a4_34 (d k : Nat) {o : zO} {G : Nat → Nat → zL → List zA → zM → Prop} (m : zM) (R : zRu (d + 0) tJ6_numberOfTrailingZeros_0f7a4 0 (z_hf []) o G) (x0 : Int32) (x1 : Int32) : zLK G (fun a => (z_cI a, m) : Int32 → zO) o (f_J6_numberOfTrailingZeros_0f7a4_34 m x0 x1) some (k + 0) 34 [some (.inl (.int x0)), some (.inl (.int x1))] [] m := by
  unfold f_J6_numberOfTrailingZeros_0f7a4_34
  refine zk_st R 2 38 [some (.inl (.int x0)), some (.inl (.int x1))] [.inl (.int (256 : Int32)), .inl (.int x0)] m rfl ⟨trivial, trivial, trivial⟩ ?_
  refine zk_br R rfl (fun _ => ?_) (fun _ => ?_)
  · refine zk_mask R [true, true] rfl ?_
    exact w_J6_numberOfTrailingZeros_0f7a4_49 d k m R x0 x1
  · refine zk_st R 5 49 [some (.inl (.int (z_iushr x0 (8 : Int32)))), some (.inl (.int (x1 + (8 : Int32))))] [] m rfl ⟨trivial, trivial, trivial, trivial, trivial, trivial⟩ ?_
    refine zk_mask R [true, true] rfl ?_
    exact w_J6_numberOfTrailingZeros_0f7a4_49 d k m R (z_iushr x0 (8 : Int32)) (x1 + (8 : Int32))
theorem w_J6_numberOfTrailingZeros_0f7a4 (d k : Nat) (x0 : Int32) (m : zM) (a : Int32) (ha : f_J6_numberOfTrailingZeros_0f7a4 x0 m = some a) : z_Ev z_MT zN zRf (d + 1) (k + 0) 0 [.inl (.int x0)] m ((fun a => (z_cI a, m) : Int32 → zO) a) := by
  refine zk_top (I := (yJ6_numberOfTrailingZeros_0f7a4, cJ6_numberOfTrailingZeros_0f7a4, 2, (some .int), [], tJ6_numberOfTrailingZeros_0f7a4, 0, 1, 15, 0, 0, 0)) (oc := (fun a => (z_cI a, m) : Int32 → zO)) (a := a) rfl (Nat.le_of_ble_eq_true rfl) (fun G R => ?_) ha
  unfold f_J6_numberOfTrailingZeros_0f7a4
  refine zk_st R 9 9 [some (.inl (.int ((x0 ^^^ (-1 : Int32)) &&& (x0 - (1 : Int32))))), none] [.inl (.int ((x0 ^^^ (-1 : Int32)) &&& (x0 - (1 : Int32))))] m rfl ⟨trivial, trivial, trivial, trivial, trivial, trivial, trivial, trivial, trivial, trivial⟩ ?_
  refine zk_br R rfl (fun _ => ?_) (fun _ => ?_)
  · refine zk_st R 4 23 [some (.inl (.int ((x0 ^^^ (-1 : Int32)) &&& (x0 - (1 : Int32))))), some (.inl (.int (1 : Int32)))] [.inl (.int (65536 : Int32)), .inl (.int ((x0 ^^^ (-1 : Int32)) &&& (x0 - (1 : Int32))))] m rfl ⟨trivial, trivial, trivial, trivial, trivial⟩ ?_
    refine zk_br R rfl (fun _ => ?_) (fun _ => ?_)
    · refine zk_mask R [true, true] rfl ?_
      exact w_J6_numberOfTrailingZeros_0f7a4_34 d k m R ((x0 ^^^ (-1 : Int32)) &&& (x0 - (1 : Int32))) (1 : Int32)
    · refine zk_st R 5 34 [some (.inl (.int (z_iushr ((x0 ^^^ (-1 : Int32)) &&& (x0 - (1 : Int32))) (16 : Int32)))), some (.inl (.int ((1 : Int32) + (16 : Int32))))] [] m rfl ⟨trivial, trivial, trivial, trivial, trivial, trivial⟩ ?_
      refine zk_mask R [true, true] rfl ?_
      exact w_J6_numberOfTrailingZeros_0f7a4_34 d k m R (z_iushr ((x0 ^^^ (-1 : Int32)) &&& (x0 - (1 : Int32))) (16 : Int32)) ((1 : Int32) + (16 : Int32))
  · refine zk_st R 3 16 [some (.inl (.int ((x0 ^^^ (-1 : Int32)) &&& (x0 - (1 : Int32))))), none] [.inl (.int (((x0 ^^^ (-1 : Int32)) &&& (x0 - (1 : Int32))) &&& (32 : Int32)))] m rfl ⟨trivial, trivial, trivial, trivial⟩ ?_
    exact zk_ret R rfl trivial rfl
theorem r_J13_bitCount_95d88 {as : List zA} : z_rcv zN (zKD 2) as := by
  rw [show zKD 2 = 0 from rfl]
  trivial
noncomputable def f_J13_bitCount_95d88 (x0 : Int64) (m : zM) : Option (Int32) :=
  some ((Int64.toInt32 ((((((((x0 - ((z_ushr x0 (1 : Int32)) &&& (6148914691236517205 : Int64))) &&& (3689348814741910323 : Int64)) + ((z_ushr (x0 - ((z_ushr x0 (1 : Int32)) &&& (6148914691236517205 : Int64))) (2 : Int32)) &&& (3689348814741910323 : Int64))) + (z_ushr (((x0 - ((z_ushr x0 (1 : Int32)) &&& (6148914691236517205 : Int64))) &&& (3689348814741910323 : Int64)) + ((z_ushr (x0 - ((z_ushr x0 (1 : Int32)) &&& (6148914691236517205 : Int64))) (2 : Int32)) &&& (3689348814741910323 : Int64))) (4 : Int32))) &&& (1085102592571150095 : Int64)) + (z_ushr (((((x0 - ((z_ushr x0 (1 : Int32)) &&& (6148914691236517205 : Int64))) &&& (3689348814741910323 : Int64)) + ((z_ushr (x0 - ((z_ushr x0 (1 : Int32)) &&& (6148914691236517205 : Int64))) (2 : Int32)) &&& (3689348814741910323 : Int64))) + (z_ushr (((x0 - ((z_ushr x0 (1 : Int32)) &&& (6148914691236517205 : Int64))) &&& (3689348814741910323 : Int64)) + ((z_ushr (x0 - ((z_ushr x0 (1 : Int32)) &&& (6148914691236517205 : Int64))) (2 : Int32)) &&& (3689348814741910323 : Int64))) (4 : Int32))) &&& (1085102592571150095 : Int64)) (8 : Int32))) + (z_ushr ((((((x0 - ((z_ushr x0 (1 : Int32)) &&& (6148914691236517205 : Int64))) &&& (3689348814741910323 : Int64)) + ((z_ushr (x0 - ((z_ushr x0 (1 : Int32)) &&& (6148914691236517205 : Int64))) (2 : Int32)) &&& (3689348814741910323 : Int64))) + (z_ushr (((x0 - ((z_ushr x0 (1 : Int32)) &&& (6148914691236517205 : Int64))) &&& (3689348814741910323 : Int64)) + ((z_ushr (x0 - ((z_ushr x0 (1 : Int32)) &&& (6148914691236517205 : Int64))) (2 : Int32)) &&& (3689348814741910323 : Int64))) (4 : Int32))) &&& (1085102592571150095 : Int64)) + (z_ushr (((((x0 - ((z_ushr x0 (1 : Int32)) &&& (6148914691236517205 : Int64))) &&& (3689348814741910323 : Int64)) + ((z_ushr (x0 - ((z_ushr x0 (1 : Int32)) &&& (6148914691236517205 : Int64))) (2 : Int32)) &&& (3689348814741910323 : Int64))) + (z_ushr (((x0 - ((z_ushr x0 (1 : Int32)) &&& (6148914691236517205 : Int64))) &&& (3689348814741910323 : Int64)) + ((z_ushr (x0 - ((z_ushr x0 (1 : Int32)) &&& (6148914691236517205 : Int64))) (2 : Int32)) &&& (3689348814741910323 : Int64))) (4 : Int32))) &&& (1085102592571150095 : Int64)) (8 : Int32))) (16 : Int32))) + (z_ushr (((((((x0 - ((z_ushr x0 (1 : Int32)) &&& (6148914691236517205 : Int64))) &&& (3689348814741910323 : Int64)) + ((z_ushr (x0 - ((z_ushr x0 (1 : Int32)) &&& (6148914691236517205 : Int64))) (2 : Int32)) &&& (3689348814741910323 : Int64))) + (z_ushr (((x0 - ((z_ushr x0 (1 : Int32)) &&& (6148914691236517205 : Int64))) &&& (3689348814741910323 : Int64)) + ((z_ushr (x0 - ((z_ushr x0 (1 : Int32)) &&& (6148914691236517205 : Int64))) (2 : Int32)) &&& (3689348814741910323 : Int64))) (4 : Int32))) &&& (1085102592571150095 : Int64)) + (z_ushr (((((x0 - ((z_ushr x0 (1 : Int32)) &&& (6148914691236517205 : Int64))) &&& (3689348814741910323 : Int64)) + ((z_ushr (x0 - ((z_ushr x0 (1 : Int32)) &&& (6148914691236517205 : Int64))) (2 : Int32)) &&& (3689348814741910323 : Int64))) + (z_ushr (((x0 - ((z_ushr x0 (1 : Int32)) &&& (6148914691236517205 : Int64))) &&& (3689348814741910323 : Int64)) + ((z_ushr (x0 - ((z_ushr x0 (1 : Int32)) &&& (6148914691236517205 : Int64))) (2 : Int32)) &&& (3689348814741910323 : Int64))) (4 : Int32))) &&& (1085102592571150095 : Int64)) (8 : Int32))) + (z_ushr ((((((x0 - ((z_ushr x0 (1 : Int32)) &&& (6148914691236517205 : Int64))) &&& (3689348814741910323 : Int64)) + ((z_ushr (x0 - ((z_ushr x0 (1 : Int32)) &&& (6148914691236517205 : Int64))) (2 : Int32)) &&& (3689348814741910323 : Int64))) + (z_ushr (((x0 - ((z_ushr x0 (1 : Int32)) &&& (6148914691236517205 : Int64))) &&& (3689348814741910323 : Int64)) + ((z_ushr (x0 - ((z_ushr x0 (1 : Int32)) &&& (6148914691236517205 : Int64))) (2 : Int32)) &&& (3689348814741910323 : Int64))) (4 : Int32))) &&& (1085102592571150095 : Int64)) + (z_ushr (((((x0 - ((z_ushr x0 (1 : Int32)) &&& (6148914691236517205 : Int64))) &&& (3689348814741910323 : Int64)) + ((z_ushr (x0 - ((z_ushr x0 (1 : Int32)) &&& (6148914691236517205 : Int64))) (2 : Int32)) &&& (3689348814741910323 : Int64))) + (z_ushr (((x0 - ((z_ushr x0 (1 : Int32)) &&& (6148914691236517205 : Int64))) &&& (3689348814741910323 : Int64)) + ((z_ushr (x0 - ((z_ushr x0 (1 : Int32)) &&& (6148914691236517205 : Int64))) (2 : Int32)) &&& (3689348814741910323 : Int64))) (4 : Int32))) &&& (1085102592571150095 : Int64)) (8 : Int32))) (16 : Int32))) (32 : Int32)))) &&& (127 : Int32))
theorem w_J13_bitCount_95d88 (d k : Nat) (x0 : Int64) (m : zM) (a : Int32) (ha : f_J13_bitCount_95d88 x0 m = some a) : z_Ev z_MT zN zRf (d + 1) (k + 0) 2 [.inl (.long x0)] m ((fun a => (z_cI a, m) : Int32 → zO) a) := by
  refine zk_top (I := (yJ13_bitCount_95d88, cJ13_bitCount_95d88, 2, (some .int), [], tJ13_bitCount_95d88, 0, 1, 14, 0, 0, 0)) (oc := (fun a => (z_cI a, m) : Int32 → zO)) (a := a) rfl (Nat.le_of_ble_eq_true rfl) (fun G R => ?_) ha
  unfold f_J13_bitCount_95d88
  refine zk_st R 48 60 [some (.inl (.long ((((((((x0 - ((z_ushr x0 (1 : Int32)) &&& (6148914691236517205 : Int64))) &&& (3689348814741910323 : Int64)) + ((z_ushr (x0 - ((z_ushr x0 (1 : Int32)) &&& (6148914691236517205 : Int64))) (2 : Int32)) &&& (3689348814741910323 : Int64))) + (z_ushr (((x0 - ((z_ushr x0 (1 : Int32)) &&& (6148914691236517205 : Int64))) &&& (3689348814741910323 : Int64)) + ((z_ushr (x0 - ((z_ushr x0 (1 : Int32)) &&& (6148914691236517205 : Int64))) (2 : Int32)) &&& (3689348814741910323 : Int64))) (4 : Int32))) &&& (1085102592571150095 : Int64)) + (z_ushr (((((x0 - ((z_ushr x0 (1 : Int32)) &&& (6148914691236517205 : Int64))) &&& (3689348814741910323 : Int64)) + ((z_ushr (x0 - ((z_ushr x0 (1 : Int32)) &&& (6148914691236517205 : Int64))) (2 : Int32)) &&& (3689348814741910323 : Int64))) + (z_ushr (((x0 - ((z_ushr x0 (1 : Int32)) &&& (6148914691236517205 : Int64))) &&& (3689348814741910323 : Int64)) + ((z_ushr (x0 - ((z_ushr x0 (1 : Int32)) &&& (6148914691236517205 : Int64))) (2 : Int32)) &&& (3689348814741910323 : Int64))) (4 : Int32))) &&& (1085102592571150095 : Int64)) (8 : Int32))) + (z_ushr ((((((x0 - ((z_ushr x0 (1 : Int32)) &&& (6148914691236517205 : Int64))) &&& (3689348814741910323 : Int64)) + ((z_ushr (x0 - ((z_ushr x0 (1 : Int32)) &&& (6148914691236517205 : Int64))) (2 : Int32)) &&& (3689348814741910323 : Int64))) + (z_ushr (((x0 - ((z_ushr x0 (1 : Int32)) &&& (6148914691236517205 : Int64))) &&& (3689348814741910323 : Int64)) + ((z_ushr (x0 - ((z_ushr x0 (1 : Int32)) &&& (6148914691236517205 : Int64))) (2 : Int32)) &&& (3689348814741910323 : Int64))) (4 : Int32))) &&& (1085102592571150095 : Int64)) + (z_ushr (((((x0 - ((z_ushr x0 (1 : Int32)) &&& (6148914691236517205 : Int64))) &&& (3689348814741910323 : Int64)) + ((z_ushr (x0 - ((z_ushr x0 (1 : Int32)) &&& (6148914691236517205 : Int64))) (2 : Int32)) &&& (3689348814741910323 : Int64))) + (z_ushr (((x0 - ((z_ushr x0 (1 : Int32)) &&& (6148914691236517205 : Int64))) &&& (3689348814741910323 : Int64)) + ((z_ushr (x0 - ((z_ushr x0 (1 : Int32)) &&& (6148914691236517205 : Int64))) (2 : Int32)) &&& (3689348814741910323 : Int64))) (4 : Int32))) &&& (1085102592571150095 : Int64)) (8 : Int32))) (16 : Int32))) + (z_ushr (((((((x0 - ((z_ushr x0 (1 : Int32)) &&& (6148914691236517205 : Int64))) &&& (3689348814741910323 : Int64)) + ((z_ushr (x0 - ((z_ushr x0 (1 : Int32)) &&& (6148914691236517205 : Int64))) (2 : Int32)) &&& (3689348814741910323 : Int64))) + (z_ushr (((x0 - ((z_ushr x0 (1 : Int32)) &&& (6148914691236517205 : Int64))) &&& (3689348814741910323 : Int64)) + ((z_ushr (x0 - ((z_ushr x0 (1 : Int32)) &&& (6148914691236517205 : Int64))) (2 : Int32)) &&& (3689348814741910323 : Int64))) (4 : Int32))) &&& (1085102592571150095 : Int64)) + (z_ushr (((((x0 - ((z_ushr x0 (1 : Int32)) &&& (6148914691236517205 : Int64))) &&& (3689348814741910323 : Int64)) + ((z_ushr (x0 - ((z_ushr x0 (1 : Int32)) &&& (6148914691236517205 : Int64))) (2 : Int32)) &&& (3689348814741910323 : Int64))) + (z_ushr (((x0 - ((z_ushr x0 (1 : Int32)) &&& (6148914691236517205 : Int64))) &&& (3689348814741910323 : Int64)) + ((z_ushr (x0 - ((z_ushr x0 (1 : Int32)) &&& (6148914691236517205 : Int64))) (2 : Int32)) &&& (3689348814741910323 : Int64))) (4 : Int32))) &&& (1085102592571150095 : Int64)) (8 : Int32))) + (z_ushr ((((((x0 - ((z_ushr x0 (1 : Int32)) &&& (6148914691236517205 : Int64))) &&& (3689348814741910323 : Int64)) + ((z_ushr (x0 - ((z_ushr x0 (1 : Int32)) &&& (6148914691236517205 : Int64))) (2 : Int32)) &&& (3689348814741910323 : Int64))) + (z_ushr (((x0 - ((z_ushr x0 (1 : Int32)) &&& (6148914691236517205 : Int64))) &&& (3689348814741910323 : Int64)) + ((z_ushr (x0 - ((z_ushr x0 (1 : Int32)) &&& (6148914691236517205 : Int64))) (2 : Int32)) &&& (3689348814741910323 : Int64))) (4 : Int32))) &&& (1085102592571150095 : Int64)) + (z_ushr (((((x0 - ((z_ushr x0 (1 : Int32)) &&& (6148914691236517205 : Int64))) &&& (3689348814741910323 : Int64)) + ((z_ushr (x0 - ((z_ushr x0 (1 : Int32)) &&& (6148914691236517205 : Int64))) (2 : Int32)) &&& (3689348814741910323 : Int64))) + (z_ushr (((x0 - ((z_ushr x0 (1 : Int32)) &&& (6148914691236517205 : Int64))) &&& (3689348814741910323 : Int64)) + ((z_ushr (x0 - ((z_ushr x0 (1 : Int32)) &&& (6148914691236517205 : Int64))) (2 : Int32)) &&& (3689348814741910323 : Int64))) (4 : Int32))) &&& (1085102592571150095 : Int64)) (8 : Int32))) (16 : Int32))) (32 : Int32))))), none] [.inl (.int ((Int64.toInt32 ((((((((x0 - ((z_ushr x0 (1 : Int32)) &&& (6148914691236517205 : Int64))) &&& (3689348814741910323 : Int64)) + ((z_ushr (x0 - ((z_ushr x0 (1 : Int32)) &&& (6148914691236517205 : Int64))) (2 : Int32)) &&& (3689348814741910323 : Int64))) + (z_ushr (((x0 - ((z_ushr x0 (1 : Int32)) &&& (6148914691236517205 : Int64))) &&& (3689348814741910323 : Int64)) + ((z_ushr (x0 - ((z_ushr x0 (1 : Int32)) &&& (6148914691236517205 : Int64))) (2 : Int32)) &&& (3689348814741910323 : Int64))) (4 : Int32))) &&& (1085102592571150095 : Int64)) + (z_ushr (((((x0 - ((z_ushr x0 (1 : Int32)) &&& (6148914691236517205 : Int64))) &&& (3689348814741910323 : Int64)) + ((z_ushr (x0 - ((z_ushr x0 (1 : Int32)) &&& (6148914691236517205 : Int64))) (2 : Int32)) &&& (3689348814741910323 : Int64))) + (z_ushr (((x0 - ((z_ushr x0 (1 : Int32)) &&& (6148914691236517205 : Int64))) &&& (3689348814741910323 : Int64)) + ((z_ushr (x0 - ((z_ushr x0 (1 : Int32)) &&& (6148914691236517205 : Int64))) (2 : Int32)) &&& (3689348814741910323 : Int64))) (4 : Int32))) &&& (1085102592571150095 : Int64)) (8 : Int32))) + (z_ushr ((((((x0 - ((z_ushr x0 (1 : Int32)) &&& (6148914691236517205 : Int64))) &&& (3689348814741910323 : Int64)) + ((z_ushr (x0 - ((z_ushr x0 (1 : Int32)) &&& (6148914691236517205 : Int64))) (2 : Int32)) &&& (3689348814741910323 : Int64))) + (z_ushr (((x0 - ((z_ushr x0 (1 : Int32)) &&& (6148914691236517205 : Int64))) &&& (3689348814741910323 : Int64)) + ((z_ushr (x0 - ((z_ushr x0 (1 : Int32)) &&& (6148914691236517205 : Int64))) (2 : Int32)) &&& (3689348814741910323 : Int64))) (4 : Int32))) &&& (1085102592571150095 : Int64)) + (z_ushr (((((x0 - ((z_ushr x0 (1 : Int32)) &&& (6148914691236517205 : Int64))) &&& (3689348814741910323 : Int64)) + ((z_ushr (x0 - ((z_ushr x0 (1 : Int32)) &&& (6148914691236517205 : Int64))) (2 : Int32)) &&& (3689348814741910323 : Int64))) + (z_ushr (((x0 - ((z_ushr x0 (1 : Int32)) &&& (6148914691236517205 : Int64))) &&& (3689348814741910323 : Int64)) + ((z_ushr (x0 - ((z_ushr x0 (1 : Int32)) &&& (6148914691236517205 : Int64))) (2 : Int32)) &&& (3689348814741910323 : Int64))) (4 : Int32))) &&& (1085102592571150095 : Int64)) (8 : Int32))) (16 : Int32))) + (z_ushr (((((((x0 - ((z_ushr x0 (1 : Int32)) &&& (6148914691236517205 : Int64))) &&& (3689348814741910323 : Int64)) + ((z_ushr (x0 - ((z_ushr x0 (1 : Int32)) &&& (6148914691236517205 : Int64))) (2 : Int32)) &&& (3689348814741910323 : Int64))) + (z_ushr (((x0 - ((z_ushr x0 (1 : Int32)) &&& (6148914691236517205 : Int64))) &&& (3689348814741910323 : Int64)) + ((z_ushr (x0 - ((z_ushr x0 (1 : Int32)) &&& (6148914691236517205 : Int64))) (2 : Int32)) &&& (3689348814741910323 : Int64))) (4 : Int32))) &&& (1085102592571150095 : Int64)) + (z_ushr (((((x0 - ((z_ushr x0 (1 : Int32)) &&& (6148914691236517205 : Int64))) &&& (3689348814741910323 : Int64)) + ((z_ushr (x0 - ((z_ushr x0 (1 : Int32)) &&& (6148914691236517205 : Int64))) (2 : Int32)) &&& (3689348814741910323 : Int64))) + (z_ushr (((x0 - ((z_ushr x0 (1 : Int32)) &&& (6148914691236517205 : Int64))) &&& (3689348814741910323 : Int64)) + ((z_ushr (x0 - ((z_ushr x0 (1 : Int32)) &&& (6148914691236517205 : Int64))) (2 : Int32)) &&& (3689348814741910323 : Int64))) (4 : Int32))) &&& (1085102592571150095 : Int64)) (8 : Int32))) + (z_ushr ((((((x0 - ((z_ushr x0 (1 : Int32)) &&& (6148914691236517205 : Int64))) &&& (3689348814741910323 : Int64)) + ((z_ushr (x0 - ((z_ushr x0 (1 : Int32)) &&& (6148914691236517205 : Int64))) (2 : Int32)) &&& (3689348814741910323 : Int64))) + (z_ushr (((x0 - ((z_ushr x0 (1 : Int32)) &&& (6148914691236517205 : Int64))) &&& (3689348814741910323 : Int64)) + ((z_ushr (x0 - ((z_ushr x0 (1 : Int32)) &&& (6148914691236517205 : Int64))) (2 : Int32)) &&& (3689348814741910323 : Int64))) (4 : Int32))) &&& (1085102592571150095 : Int64)) + (z_ushr (((((x0 - ((z_ushr x0 (1 : Int32)) &&& (6148914691236517205 : Int64))) &&& (3689348814741910323 : Int64)) + ((z_ushr (x0 - ((z_ushr x0 (1 : Int32)) &&& (6148914691236517205 : Int64))) (2 : Int32)) &&& (3689348814741910323 : Int64))) + (z_ushr (((x0 - ((z_ushr x0 (1 : Int32)) &&& (6148914691236517205 : Int64))) &&& (3689348814741910323 : Int64)) + ((z_ushr (x0 - ((z_ushr x0 (1 : Int32)) &&& (6148914691236517205 : Int64))) (2 : Int32)) &&& (3689348814741910323 : Int64))) (4 : Int32))) &&& (1085102592571150095 : Int64)) (8 : Int32))) (16 : Int32))) (32 : Int32)))) &&& (127 : Int32)))] m rfl ⟨trivial, trivial, trivial, trivial, trivial, trivial, trivial, trivial, trivial, trivial, trivial, trivial, trivial, trivial, trivial, trivial, trivial, trivial, trivial, trivial, trivial, trivial, trivial, trivial, trivial, trivial, trivial, trivial, trivial, trivial, trivial, trivial, trivial, trivial, trivial, trivial, trivial, trivial, trivial, trivial, trivial, trivial, trivial, trivial, trivial, trivial, trivial, trivial, trivial⟩ ?_
  exact zk_ret R rfl trivial rfl
theorem r_J9_floorDiv_7cf53 {as : List zA} : z_rcv zN (zKD 3) as := by
  rw [show zKD 3 = 0 from rfl]
  trivial
noncomputable def f_J9_floorDiv_7cf53 (x0 : Int32) (x1 : Int32) (m : zM) : Option (Int32) :=
  z_gd (z_nz x1) <| if 0 ≤ (x0 ^^^ x1) then
    some (x0 / x1)
  else
    if ((x0 / x1) * x1) = x0 then
      some (x0 / x1)
    else
      some ((x0 / x1) - (1 : Int32))
theorem w_J9_floorDiv_7cf53 (d k : Nat) (x0 : Int32) (x1 : Int32) (m : zM) (a : Int32) (ha : f_J9_floorDiv_7cf53 x0 x1 m = some a) : z_Ev z_MT zN zRf (d + 1) (k + 0) 3 [.inl (.int x0), .inl (.int x1)] m ((fun a => (z_cI a, m) : Int32 → zO) a) := by
  refine zk_top (I := (yJ9_floorDiv_7cf53, cJ9_floorDiv_7cf53, 3, (some .int), [], tJ9_floorDiv_7cf53, 0, 2, 16, 0, 0, 0)) (oc := (fun a => (z_cI a, m) : Int32 → zO)) (a := a) rfl (Nat.le_of_ble_eq_true rfl) (fun G R => ?_) ha
  unfold f_J9_floorDiv_7cf53
  refine zk_gd fun e1 => ?_
  refine zk_st R 7 7 [some (.inl (.int x0)), some (.inl (.int x1)), some (.inl (.int (x0 / x1)))] [.inl (.int (x0 ^^^ x1))] m rfl ⟨trivial, trivial, (z_nz_ne e1), trivial, trivial, trivial, trivial, trivial⟩ ?_
  refine zk_br R rfl (fun _ => ?_) (fun _ => ?_)
  · refine zk_st R 1 22 [some (.inl (.int x0)), some (.inl (.int x1)), some (.inl (.int (x0 / x1)))] [.inl (.int (x0 / x1))] m rfl ⟨trivial, trivial⟩ ?_
    exact zk_ret R rfl trivial rfl
  · refine zk_st R 4 14 [some (.inl (.int x0)), some (.inl (.int x1)), some (.inl (.int (x0 / x1)))] [.inl (.int x0), .inl (.int ((x0 / x1) * x1))] m rfl ⟨trivial, trivial, trivial, trivial, trivial⟩ ?_
    refine zk_br R rfl (fun _ => ?_) (fun _ => ?_)
    · refine zk_st R 1 22 [some (.inl (.int x0)), some (.inl (.int x1)), some (.inl (.int (x0 / x1)))] [.inl (.int (x0 / x1))] m rfl ⟨trivial, trivial⟩ ?_
      exact zk_ret R rfl trivial rfl
    · refine zk_st R 3 20 [some (.inl (.int x0)), some (.inl (.int x1)), some (.inl (.int (x0 / x1)))] [.inl (.int ((x0 / x1) - (1 : Int32)))] m rfl ⟨trivial, trivial, trivial, trivial⟩ ?_
      exact zk_ret R rfl trivial rfl
theorem r_J9_abs_0f7a4 {as : List zA} : z_rcv zN (zKD 4) as := by
  rw [show zKD 4 = 0 from rfl]
  trivial
noncomputable def f_J9_abs_0f7a4 (x0 : Int32) (m : zM) : Option (Int32) :=
  if 0 ≤ x0 then
    some x0
  else
    some (-x0)
theorem w_J9_abs_0f7a4 (d k : Nat) (x0 : Int32) (m : zM) (a : Int32) (ha : f_J9_abs_0f7a4 x0 m = some a) : z_Ev z_MT zN zRf (d + 1) (k + 0) 4 [.inl (.int x0)] m ((fun a => (z_cI a, m) : Int32 → zO) a) := by
  refine zk_top (I := (yJ9_abs_0f7a4, cJ9_abs_0f7a4, 1, (some .int), [], tJ9_abs_0f7a4, 0, 1, 16, 0, 0, 0)) (oc := (fun a => (z_cI a, m) : Int32 → zO)) (a := a) rfl (Nat.le_of_ble_eq_true rfl) (fun G R => ?_) ha
  unfold f_J9_abs_0f7a4
  refine zk_st R 1 1 [some (.inl (.int x0))] [.inl (.int x0)] m rfl ⟨trivial, trivial⟩ ?_
  refine zk_br R rfl (fun _ => ?_) (fun _ => ?_)
  · refine zk_st R 1 10 [some (.inl (.int x0))] [.inl (.int x0)] m rfl ⟨trivial, trivial⟩ ?_
    exact zk_ret R rfl trivial rfl
  · refine zk_st R 3 10 [some (.inl (.int x0))] [.inl (.int (-x0))] m rfl ⟨trivial, trivial, trivial, trivial⟩ ?_
    exact zk_ret R rfl trivial rfl
theorem r_J9_max_7cf53 {as : List zA} : z_rcv zN (zKD 5) as := by
  rw [show zKD 5 = 0 from rfl]
  trivial
noncomputable def f_J9_max_7cf53 (x0 : Int32) (x1 : Int32) (m : zM) : Option (Int32) :=
  if x0 < x1 then
    some x1
  else
    some x0
theorem w_J9_max_7cf53 (d k : Nat) (x0 : Int32) (x1 : Int32) (m : zM) (a : Int32) (ha : f_J9_max_7cf53 x0 x1 m = some a) : z_Ev z_MT zN zRf (d + 1) (k + 0) 5 [.inl (.int x0), .inl (.int x1)] m ((fun a => (z_cI a, m) : Int32 → zO) a) := by
  refine zk_top (I := (yJ9_max_7cf53, cJ9_max_7cf53, 2, (some .int), [], tJ9_max_7cf53, 0, 2, 16, 0, 0, 0)) (oc := (fun a => (z_cI a, m) : Int32 → zO)) (a := a) rfl (Nat.le_of_ble_eq_true rfl) (fun G R => ?_) ha
  unfold f_J9_max_7cf53
  refine zk_st R 2 2 [some (.inl (.int x0)), some (.inl (.int x1))] [.inl (.int x1), .inl (.int x0)] m rfl ⟨trivial, trivial, trivial⟩ ?_
  refine zk_br R rfl (fun _ => ?_) (fun _ => ?_)
  · refine zk_st R 1 10 [some (.inl (.int x0)), some (.inl (.int x1))] [.inl (.int x1)] m rfl ⟨trivial, trivial⟩ ?_
    exact zk_ret R rfl trivial rfl
  · refine zk_st R 2 10 [some (.inl (.int x0)), some (.inl (.int x1))] [.inl (.int x0)] m rfl ⟨trivial, trivial, trivial⟩ ?_
    exact zk_ret R rfl trivial rfl
theorem r_J9_min_7cf53 {as : List zA} : z_rcv zN (zKD 6) as := by
  rw [show zKD 6 = 0 from rfl]
  trivial
noncomputable def f_J9_min_7cf53 (x0 : Int32) (x1 : Int32) (m : zM) : Option (Int32) :=
  if x1 < x0 then
    some x1
  else
    some x0
theorem w_J9_min_7cf53 (d k : Nat) (x0 : Int32) (x1 : Int32) (m : zM) (a : Int32) (ha : f_J9_min_7cf53 x0 x1 m = some a) : z_Ev z_MT zN zRf (d + 1) (k + 0) 6 [.inl (.int x0), .inl (.int x1)] m ((fun a => (z_cI a, m) : Int32 → zO) a) := by
  refine zk_top (I := (yJ9_min_7cf53, cJ9_min_7cf53, 2, (some .int), [], tJ9_min_7cf53, 0, 2, 16, 0, 0, 0)) (oc := (fun a => (z_cI a, m) : Int32 → zO)) (a := a) rfl (Nat.le_of_ble_eq_true rfl) (fun G R => ?_) ha
  unfold f_J9_min_7cf53
  refine zk_st R 2 2 [some (.inl (.int x0)), some (.inl (.int x1))] [.inl (.int x1), .inl (.int x0)] m rfl ⟨trivial, trivial, trivial⟩ ?_
  refine zk_br R rfl (fun _ => ?_) (fun _ => ?_)
  · refine zk_st R 1 10 [some (.inl (.int x0)), some (.inl (.int x1))] [.inl (.int x1)] m rfl ⟨trivial, trivial⟩ ?_
    exact zk_ret R rfl trivial rfl
  · refine zk_st R 2 10 [some (.inl (.int x0)), some (.inl (.int x1))] [.inl (.int x0)] m rfl ⟨trivial, trivial, trivial⟩ ?_
    exact zk_ret R rfl trivial rfl
theorem r_J7_fill_53178 {as : List zA} : z_rcv zN (zKD 7) as := by
  rw [show zKD 7 = 0 from rfl]
  trivial
noncomputable def f_J7_fill_53178_5 (k0 i0 : Nat) : Nat → Int32 → Int32 → Int32 → zM → Option (zM)
  | 0, _, _, _, _ => none
  | j + 1, x1, x2, x3, m =>
    if x3 ≤ x2 then
      some m
    else
      z_gd (z_inb x2 (z_alen k0)) <| f_J7_fill_53178_5 k0 i0 j x1 (x2 + (1 : Int32)) x3 (z_sI m k0 i0 (Int32.toNatClampNeg x2) x1)
noncomputable def f_J7_fill_53178 (k0 i0 : Nat) (x1 : Int32) (m : zM) : Option (zM) :=
  f_J7_fill_53178_5 k0 i0 zF x1 (0 : Int32) (Int32.ofNat (z_alen k0)) m
theorem w_J7_fill_53178_5_k20 (d k : Nat) {o : zO} {G : Nat → Nat → zL → List zA → zM → Prop} (i0 : Nat) (hi0 : i0 < zN 20) (R : zRu (d + 0) tJ7_fill_53178 0 (z_hf []) o G) : ∀ (j : Nat) (x1 : Int32) (x2 : Int32) (x3 : Int32) (m : zM), zLK G (fun a => (.inl none, a) : zM → zO) o (f_J7_fill_53178_5 20 i0 j x1 x2 x3 m) some (k + 0) 5 [some (.inr (20, i0)), some (.inl (.int x1)), some (.inl (.int x2)), some (.inl (.int x3))] [] m := by
  intro j
  induction j with
  | zero =>
    intro _ _ _ _
    exact zk_none
  | succ j ih =>
    intro x1 x2 x3 m
    unfold f_J7_fill_53178_5
    refine zk_st R 2 7 [some (.inr (20, i0)), some (.inl (.int x1)), some (.inl (.int x2)), some (.inl (.int x3))] [.inl (.int x3), .inl (.int x2)] m rfl ⟨trivial, trivial, trivial⟩ ?_
    refine zk_br R rfl (fun _ => ?_) (fun _ => ?_)
    · exact zk_ret R rfl trivial rfl
    · refine zk_gd fun e2 => ?_
      refine zk_st R 6 5 [some (.inr (20, i0)), some (.inl (.int x1)), some (.inl (.int (x2 + (1 : Int32)))), some (.inl (.int x3))] [] (z_sI m 20 i0 (Int32.toNatClampNeg x2) x1) rfl ⟨trivial, trivial, trivial, ⟨hi0, z_inb_in e2⟩, trivial, trivial, trivial⟩ ?_
      refine zk_mask R [true, true, true, true] rfl ?_
      exact ih x1 (x2 + (1 : Int32)) x3 (z_sI m 20 i0 (Int32.toNatClampNeg x2) x1)
theorem w_J7_fill_53178_k20 (d k : Nat) (i0 : Nat) (hi0 : i0 < zN 20) (x1 : Int32) (m : zM) (a : zM) (ha : f_J7_fill_53178 20 i0 x1 m = some a) : z_Ev z_MT zN zRf (d + 1) (k + 0) 7 [.inr (20, i0), .inl (.int x1)] m ((fun a => (.inl none, a) : zM → zO) a) := by
  refine zk_top (I := (yJ7_fill_53178, cJ7_fill_53178, 4, none, [], tJ7_fill_53178, 0, 2, 17, 0, 0, 0)) (oc := (fun a => (.inl none, a) : zM → zO)) (a := a) rfl (Nat.le_of_ble_eq_true rfl) (fun G R => ?_) ha
  unfold f_J7_fill_53178
  refine zk_st R 5 5 [some (.inr (20, i0)), some (.inl (.int x1)), some (.inl (.int (0 : Int32))), some (.inl (.int (Int32.ofNat (z_alen 20))))] [] m rfl ⟨trivial, trivial, trivial, hi0, trivial, trivial⟩ ?_
  refine zk_mask R [true, true, true, true] rfl ?_
  exact w_J7_fill_53178_5_k20 d k i0 hi0 R zF x1 (0 : Int32) (Int32.ofNat (z_alen 20)) m
theorem r_X7_at {as : List zA} : z_rcv zN (zKD 8) as := by
  rw [show zKD 8 = 0 from rfl]
  trivial
noncomputable def f_X7_at (k0 i0 : Nat) (x1 : Int32) (m : zM) : Option (Int32) :=
  if x1 < 0 then
    some (0 : Int32)
  else
    if (Int32.ofNat (z_alen k0)) ≤ x1 then
      some (0 : Int32)
    else
      z_gd (z_inb x1 (z_alen k0)) <| some (m.1 k0 i0 (Int32.toNatClampNeg x1))
theorem w_X7_at_k20 (d k : Nat) (i0 : Nat) (hi0 : i0 < zN 20) (x1 : Int32) (m : zM) (a : Int32) (ha : f_X7_at 20 i0 x1 m = some a) : z_Ev z_MT zN zRf (d + 1) (k + 0) 8 [.inr (20, i0), .inl (.int x1)] m ((fun a => (z_cI a, m) : Int32 → zO) a) := by
  refine zk_top (I := (yX7_at, cX7_at, 2, (some .int), [], tX7_at, 0, 2, 1, 0, 0, 0)) (oc := (fun a => (z_cI a, m) : Int32 → zO)) (a := a) rfl (Nat.le_of_ble_eq_true rfl) (fun G R => ?_) ha
  unfold f_X7_at
  refine zk_st R 1 1 [some (.inr (20, i0)), some (.inl (.int x1))] [.inl (.int x1)] m rfl ⟨trivial, trivial⟩ ?_
  refine zk_br R rfl (fun _ => ?_) (fun _ => ?_)
  · refine zk_st R 1 17 [some (.inr (20, i0)), some (.inl (.int x1))] [.inl (.int (0 : Int32))] m rfl ⟨trivial, trivial⟩ ?_
    exact zk_ret R rfl trivial rfl
  · refine zk_st R 3 7 [some (.inr (20, i0)), some (.inl (.int x1))] [.inl (.int (Int32.ofNat (z_alen 20))), .inl (.int x1)] m rfl ⟨trivial, trivial, hi0, trivial⟩ ?_
    refine zk_br R rfl (fun _ => ?_) (fun _ => ?_)
    · refine zk_st R 1 17 [some (.inr (20, i0)), some (.inl (.int x1))] [.inl (.int (0 : Int32))] m rfl ⟨trivial, trivial⟩ ?_
      exact zk_ret R rfl trivial rfl
    · refine zk_gd fun e3 => ?_
      refine zk_st R 4 17 [some (.inr (20, i0)), some (.inl (.int x1))] [.inl (.int (m.1 20 i0 (Int32.toNatClampNeg x1)))] m rfl ⟨trivial, trivial, ⟨hi0, z_inb_in e3⟩, trivial, trivial⟩ ?_
      exact zk_ret R rfl trivial rfl
theorem w_X7_at_k21 (d k : Nat) (i0 : Nat) (hi0 : i0 < zN 21) (x1 : Int32) (m : zM) (a : Int32) (ha : f_X7_at 21 i0 x1 m = some a) : z_Ev z_MT zN zRf (d + 1) (k + 0) 8 [.inr (21, i0), .inl (.int x1)] m ((fun a => (z_cI a, m) : Int32 → zO) a) := by
  refine zk_top (I := (yX7_at, cX7_at, 2, (some .int), [], tX7_at, 0, 2, 1, 0, 0, 0)) (oc := (fun a => (z_cI a, m) : Int32 → zO)) (a := a) rfl (Nat.le_of_ble_eq_true rfl) (fun G R => ?_) ha
  unfold f_X7_at
  refine zk_st R 1 1 [some (.inr (21, i0)), some (.inl (.int x1))] [.inl (.int x1)] m rfl ⟨trivial, trivial⟩ ?_
  refine zk_br R rfl (fun _ => ?_) (fun _ => ?_)
  · refine zk_st R 1 17 [some (.inr (21, i0)), some (.inl (.int x1))] [.inl (.int (0 : Int32))] m rfl ⟨trivial, trivial⟩ ?_
    exact zk_ret R rfl trivial rfl
  · refine zk_st R 3 7 [some (.inr (21, i0)), some (.inl (.int x1))] [.inl (.int (Int32.ofNat (z_alen 21))), .inl (.int x1)] m rfl ⟨trivial, trivial, hi0, trivial⟩ ?_
    refine zk_br R rfl (fun _ => ?_) (fun _ => ?_)
    · refine zk_st R 1 17 [some (.inr (21, i0)), some (.inl (.int x1))] [.inl (.int (0 : Int32))] m rfl ⟨trivial, trivial⟩ ?_
      exact zk_ret R rfl trivial rfl
    · refine zk_gd fun e3 => ?_
      refine zk_st R 4 17 [some (.inr (21, i0)), some (.inl (.int x1))] [.inl (.int (m.1 21 i0 (Int32.toNatClampNeg x1)))] m rfl ⟨trivial, trivial, ⟨hi0, z_inb_in e3⟩, trivial, trivial⟩ ?_
      exact zk_ret R rfl trivial rfl
theorem w_X7_at_k22 (d k : Nat) (i0 : Nat) (hi0 : i0 < zN 22) (x1 : Int32) (m : zM) (a : Int32) (ha : f_X7_at 22 i0 x1 m = some a) : z_Ev z_MT zN zRf (d + 1) (k + 0) 8 [.inr (22, i0), .inl (.int x1)] m ((fun a => (z_cI a, m) : Int32 → zO) a) := by
  refine zk_top (I := (yX7_at, cX7_at, 2, (some .int), [], tX7_at, 0, 2, 1, 0, 0, 0)) (oc := (fun a => (z_cI a, m) : Int32 → zO)) (a := a) rfl (Nat.le_of_ble_eq_true rfl) (fun G R => ?_) ha
  unfold f_X7_at
  refine zk_st R 1 1 [some (.inr (22, i0)), some (.inl (.int x1))] [.inl (.int x1)] m rfl ⟨trivial, trivial⟩ ?_
  refine zk_br R rfl (fun _ => ?_) (fun _ => ?_)
  · refine zk_st R 1 17 [some (.inr (22, i0)), some (.inl (.int x1))] [.inl (.int (0 : Int32))] m rfl ⟨trivial, trivial⟩ ?_
    exact zk_ret R rfl trivial rfl
  · refine zk_st R 3 7 [some (.inr (22, i0)), some (.inl (.int x1))] [.inl (.int (Int32.ofNat (z_alen 22))), .inl (.int x1)] m rfl ⟨trivial, trivial, hi0, trivial⟩ ?_
    refine zk_br R rfl (fun _ => ?_) (fun _ => ?_)
    · refine zk_st R 1 17 [some (.inr (22, i0)), some (.inl (.int x1))] [.inl (.int (0 : Int32))] m rfl ⟨trivial, trivial⟩ ?_
      exact zk_ret R rfl trivial rfl
    · refine zk_gd fun e3 => ?_
      refine zk_st R 4 17 [some (.inr (22, i0)), some (.inl (.int x1))] [.inl (.int (m.1 22 i0 (Int32.toNatClampNeg x1)))] m rfl ⟨trivial, trivial, ⟨hi0, z_inb_in e3⟩, trivial, trivial⟩ ?_
      exact zk_ret R rfl trivial rfl
theorem r_X7_at_ {as : List zA} : z_rcv zN (zKD 9) as := by
  rw [show zKD 9 = 0 from rfl]
  trivial
noncomputable def f_X7_at_ (k0 i0 : Nat) (x1 : Int32) (m : zM) : Option (Int64) :=
  if x1 < 0 then
    some (0 : Int64)
  else
    if (Int32.ofNat (z_alen k0)) ≤ x1 then
      some (0 : Int64)
    else
      z_gd (z_inb x1 (z_alen k0)) <| some (m.2.1 k0 i0 (Int32.toNatClampNeg x1))
theorem w_X7_at__k30 (d k : Nat) (i0 : Nat) (hi0 : i0 < zN 30) (x1 : Int32) (m : zM) (a : Int64) (ha : f_X7_at_ 30 i0 x1 m = some a) : z_Ev z_MT zN zRf (d + 1) (k + 0) 9 [.inr (30, i0), .inl (.int x1)] m ((fun a => (z_cL a, m) : Int64 → zO) a) := by
  refine zk_top (I := (yX7_at_, cX7_at_, 2, (some .long), [], tX7_at_, 0, 2, 1, 0, 0, 0)) (oc := (fun a => (z_cL a, m) : Int64 → zO)) (a := a) rfl (Nat.le_of_ble_eq_true rfl) (fun G R => ?_) ha
  unfold f_X7_at_
  refine zk_st R 1 1 [some (.inr (30, i0)), some (.inl (.int x1))] [.inl (.int x1)] m rfl ⟨trivial, trivial⟩ ?_
  refine zk_br R rfl (fun _ => ?_) (fun _ => ?_)
  · refine zk_st R 1 17 [some (.inr (30, i0)), some (.inl (.int x1))] [.inl (.long (0 : Int64))] m rfl ⟨trivial, trivial⟩ ?_
    exact zk_ret R rfl trivial rfl
  · refine zk_st R 3 7 [some (.inr (30, i0)), some (.inl (.int x1))] [.inl (.int (Int32.ofNat (z_alen 30))), .inl (.int x1)] m rfl ⟨trivial, trivial, hi0, trivial⟩ ?_
    refine zk_br R rfl (fun _ => ?_) (fun _ => ?_)
    · refine zk_st R 1 17 [some (.inr (30, i0)), some (.inl (.int x1))] [.inl (.long (0 : Int64))] m rfl ⟨trivial, trivial⟩ ?_
      exact zk_ret R rfl trivial rfl
    · refine zk_gd fun e3 => ?_
      refine zk_st R 4 17 [some (.inr (30, i0)), some (.inl (.int x1))] [.inl (.long (m.2.1 30 i0 (Int32.toNatClampNeg x1)))] m rfl ⟨trivial, trivial, ⟨hi0, z_inb_in e3⟩, trivial, trivial⟩ ?_
      exact zk_ret R rfl trivial rfl
theorem w_X7_at__k31 (d k : Nat) (i0 : Nat) (hi0 : i0 < zN 31) (x1 : Int32) (m : zM) (a : Int64) (ha : f_X7_at_ 31 i0 x1 m = some a) : z_Ev z_MT zN zRf (d + 1) (k + 0) 9 [.inr (31, i0), .inl (.int x1)] m ((fun a => (z_cL a, m) : Int64 → zO) a) := by
  refine zk_top (I := (yX7_at_, cX7_at_, 2, (some .long), [], tX7_at_, 0, 2, 1, 0, 0, 0)) (oc := (fun a => (z_cL a, m) : Int64 → zO)) (a := a) rfl (Nat.le_of_ble_eq_true rfl) (fun G R => ?_) ha
  unfold f_X7_at_
  refine zk_st R 1 1 [some (.inr (31, i0)), some (.inl (.int x1))] [.inl (.int x1)] m rfl ⟨trivial, trivial⟩ ?_
  refine zk_br R rfl (fun _ => ?_) (fun _ => ?_)
  · refine zk_st R 1 17 [some (.inr (31, i0)), some (.inl (.int x1))] [.inl (.long (0 : Int64))] m rfl ⟨trivial, trivial⟩ ?_
    exact zk_ret R rfl trivial rfl
  · refine zk_st R 3 7 [some (.inr (31, i0)), some (.inl (.int x1))] [.inl (.int (Int32.ofNat (z_alen 31))), .inl (.int x1)] m rfl ⟨trivial, trivial, hi0, trivial⟩ ?_
    refine zk_br R rfl (fun _ => ?_) (fun _ => ?_)
    · refine zk_st R 1 17 [some (.inr (31, i0)), some (.inl (.int x1))] [.inl (.long (0 : Int64))] m rfl ⟨trivial, trivial⟩ ?_
      exact zk_ret R rfl trivial rfl
    · refine zk_gd fun e3 => ?_
      refine zk_st R 4 17 [some (.inr (31, i0)), some (.inl (.int x1))] [.inl (.long (m.2.1 31 i0 (Int32.toNatClampNeg x1)))] m rfl ⟨trivial, trivial, ⟨hi0, z_inb_in e3⟩, trivial, trivial⟩ ?_
      exact zk_ret R rfl trivial rfl
theorem r_X7_put {as : List zA} : z_rcv zN (zKD 10) as := by
  rw [show zKD 10 = 0 from rfl]
  trivial
noncomputable def f_X7_put (k0 i0 : Nat) (x1 : Int32) (x2 : Int32) (m : zM) : Option (zM) :=
  if x1 < 0 then
    some m
  else
    if (Int32.ofNat (z_alen k0)) ≤ x1 then
      some m
    else
      z_gd (z_inb x1 (z_alen k0)) <| some (z_sI m k0 i0 (Int32.toNatClampNeg x1) x2)
theorem w_X7_put_k20 (d k : Nat) (i0 : Nat) (hi0 : i0 < zN 20) (x1 : Int32) (x2 : Int32) (m : zM) (a : zM) (ha : f_X7_put 20 i0 x1 x2 m = some a) : z_Ev z_MT zN zRf (d + 1) (k + 0) 10 [.inr (20, i0), .inl (.int x1), .inl (.int x2)] m ((fun a => (.inl none, a) : zM → zO) a) := by
  refine zk_top (I := (yX7_put, cX7_put, 3, none, [], tX7_put, 0, 3, 1, 0, 0, 0)) (oc := (fun a => (.inl none, a) : zM → zO)) (a := a) rfl (Nat.le_of_ble_eq_true rfl) (fun G R => ?_) ha
  unfold f_X7_put
  refine zk_st R 1 1 [some (.inr (20, i0)), some (.inl (.int x1)), some (.inl (.int x2))] [.inl (.int x1)] m rfl ⟨trivial, trivial⟩ ?_
  refine zk_br R rfl (fun _ => ?_) (fun _ => ?_)
  · exact zk_ret R rfl trivial rfl
  · refine zk_st R 3 7 [some (.inr (20, i0)), some (.inl (.int x1)), some (.inl (.int x2))] [.inl (.int (Int32.ofNat (z_alen 20))), .inl (.int x1)] m rfl ⟨trivial, trivial, hi0, trivial⟩ ?_
    refine zk_br R rfl (fun _ => ?_) (fun _ => ?_)
    · exact zk_ret R rfl trivial rfl
    · refine zk_gd fun e3 => ?_
      refine zk_st R 4 14 [some (.inr (20, i0)), some (.inl (.int x1)), some (.inl (.int x2))] [] (z_sI m 20 i0 (Int32.toNatClampNeg x1) x2) rfl ⟨trivial, trivial, trivial, ⟨hi0, z_inb_in e3⟩, trivial⟩ ?_
      exact zk_ret R rfl trivial rfl
theorem w_X7_put_k21 (d k : Nat) (i0 : Nat) (hi0 : i0 < zN 21) (x1 : Int32) (x2 : Int32) (m : zM) (a : zM) (ha : f_X7_put 21 i0 x1 x2 m = some a) : z_Ev z_MT zN zRf (d + 1) (k + 0) 10 [.inr (21, i0), .inl (.int x1), .inl (.int x2)] m ((fun a => (.inl none, a) : zM → zO) a) := by
  refine zk_top (I := (yX7_put, cX7_put, 3, none, [], tX7_put, 0, 3, 1, 0, 0, 0)) (oc := (fun a => (.inl none, a) : zM → zO)) (a := a) rfl (Nat.le_of_ble_eq_true rfl) (fun G R => ?_) ha
  unfold f_X7_put
  refine zk_st R 1 1 [some (.inr (21, i0)), some (.inl (.int x1)), some (.inl (.int x2))] [.inl (.int x1)] m rfl ⟨trivial, trivial⟩ ?_
  refine zk_br R rfl (fun _ => ?_) (fun _ => ?_)
  · exact zk_ret R rfl trivial rfl
  · refine zk_st R 3 7 [some (.inr (21, i0)), some (.inl (.int x1)), some (.inl (.int x2))] [.inl (.int (Int32.ofNat (z_alen 21))), .inl (.int x1)] m rfl ⟨trivial, trivial, hi0, trivial⟩ ?_
    refine zk_br R rfl (fun _ => ?_) (fun _ => ?_)
    · exact zk_ret R rfl trivial rfl
    · refine zk_gd fun e3 => ?_
      refine zk_st R 4 14 [some (.inr (21, i0)), some (.inl (.int x1)), some (.inl (.int x2))] [] (z_sI m 21 i0 (Int32.toNatClampNeg x1) x2) rfl ⟨trivial, trivial, trivial, ⟨hi0, z_inb_in e3⟩, trivial⟩ ?_
      exact zk_ret R rfl trivial rfl
theorem w_X7_put_k22 (d k : Nat) (i0 : Nat) (hi0 : i0 < zN 22) (x1 : Int32) (x2 : Int32) (m : zM) (a : zM) (ha : f_X7_put 22 i0 x1 x2 m = some a) : z_Ev z_MT zN zRf (d + 1) (k + 0) 10 [.inr (22, i0), .inl (.int x1), .inl (.int x2)] m ((fun a => (.inl none, a) : zM → zO) a) := by
  refine zk_top (I := (yX7_put, cX7_put, 3, none, [], tX7_put, 0, 3, 1, 0, 0, 0)) (oc := (fun a => (.inl none, a) : zM → zO)) (a := a) rfl (Nat.le_of_ble_eq_true rfl) (fun G R => ?_) ha
  unfold f_X7_put
  refine zk_st R 1 1 [some (.inr (22, i0)), some (.inl (.int x1)), some (.inl (.int x2))] [.inl (.int x1)] m rfl ⟨trivial, trivial⟩ ?_
  refine zk_br R rfl (fun _ => ?_) (fun _ => ?_)
  · exact zk_ret R rfl trivial rfl
  · refine zk_st R 3 7 [some (.inr (22, i0)), some (.inl (.int x1)), some (.inl (.int x2))] [.inl (.int (Int32.ofNat (z_alen 22))), .inl (.int x1)] m rfl ⟨trivial, trivial, hi0, trivial⟩ ?_
    refine zk_br R rfl (fun _ => ?_) (fun _ => ?_)
    · exact zk_ret R rfl trivial rfl
    · refine zk_gd fun e3 => ?_
      refine zk_st R 4 14 [some (.inr (22, i0)), some (.inl (.int x1)), some (.inl (.int x2))] [] (z_sI m 22 i0 (Int32.toNatClampNeg x1) x2) rfl ⟨trivial, trivial, trivial, ⟨hi0, z_inb_in e3⟩, trivial⟩ ?_
      exact zk_ret R rfl trivial rfl
theorem r_X7_put_ {as : List zA} : z_rcv zN (zKD 11) as := by
  rw [show zKD 11 = 0 from rfl]
  trivial
noncomputable def f_X7_put_ (k0 i0 : Nat) (x1 : Int32) (x2 : Int64) (m : zM) : Option (zM) :=
  if x1 < 0 then
    some m
  else
    if (Int32.ofNat (z_alen k0)) ≤ x1 then
      some m
    else
      z_gd (z_inb x1 (z_alen k0)) <| some (z_sL m k0 i0 (Int32.toNatClampNeg x1) x2)
theorem w_X7_put__k30 (d k : Nat) (i0 : Nat) (hi0 : i0 < zN 30) (x1 : Int32) (x2 : Int64) (m : zM) (a : zM) (ha : f_X7_put_ 30 i0 x1 x2 m = some a) : z_Ev z_MT zN zRf (d + 1) (k + 0) 11 [.inr (30, i0), .inl (.int x1), .inl (.long x2)] m ((fun a => (.inl none, a) : zM → zO) a) := by
  refine zk_top (I := (yX7_put_, cX7_put_, 4, none, [], tX7_put_, 0, 3, 1, 0, 0, 0)) (oc := (fun a => (.inl none, a) : zM → zO)) (a := a) rfl (Nat.le_of_ble_eq_true rfl) (fun G R => ?_) ha
  unfold f_X7_put_
  refine zk_st R 1 1 [some (.inr (30, i0)), some (.inl (.int x1)), some (.inl (.long x2)), none] [.inl (.int x1)] m rfl ⟨trivial, trivial⟩ ?_
  refine zk_br R rfl (fun _ => ?_) (fun _ => ?_)
  · exact zk_ret R rfl trivial rfl
  · refine zk_st R 3 7 [some (.inr (30, i0)), some (.inl (.int x1)), some (.inl (.long x2)), none] [.inl (.int (Int32.ofNat (z_alen 30))), .inl (.int x1)] m rfl ⟨trivial, trivial, hi0, trivial⟩ ?_
    refine zk_br R rfl (fun _ => ?_) (fun _ => ?_)
    · exact zk_ret R rfl trivial rfl
    · refine zk_gd fun e3 => ?_
      refine zk_st R 4 14 [some (.inr (30, i0)), some (.inl (.int x1)), some (.inl (.long x2)), none] [] (z_sL m 30 i0 (Int32.toNatClampNeg x1) x2) rfl ⟨trivial, trivial, trivial, ⟨hi0, z_inb_in e3⟩, trivial⟩ ?_
      exact zk_ret R rfl trivial rfl
theorem w_X7_put__k31 (d k : Nat) (i0 : Nat) (hi0 : i0 < zN 31) (x1 : Int32) (x2 : Int64) (m : zM) (a : zM) (ha : f_X7_put_ 31 i0 x1 x2 m = some a) : z_Ev z_MT zN zRf (d + 1) (k + 0) 11 [.inr (31, i0), .inl (.int x1), .inl (.long x2)] m ((fun a => (.inl none, a) : zM → zO) a) := by
  refine zk_top (I := (yX7_put_, cX7_put_, 4, none, [], tX7_put_, 0, 3, 1, 0, 0, 0)) (oc := (fun a => (.inl none, a) : zM → zO)) (a := a) rfl (Nat.le_of_ble_eq_true rfl) (fun G R => ?_) ha
  unfold f_X7_put_
  refine zk_st R 1 1 [some (.inr (31, i0)), some (.inl (.int x1)), some (.inl (.long x2)), none] [.inl (.int x1)] m rfl ⟨trivial, trivial⟩ ?_
  refine zk_br R rfl (fun _ => ?_) (fun _ => ?_)
  · exact zk_ret R rfl trivial rfl
  · refine zk_st R 3 7 [some (.inr (31, i0)), some (.inl (.int x1)), some (.inl (.long x2)), none] [.inl (.int (Int32.ofNat (z_alen 31))), .inl (.int x1)] m rfl ⟨trivial, trivial, hi0, trivial⟩ ?_
    refine zk_br R rfl (fun _ => ?_) (fun _ => ?_)
    · exact zk_ret R rfl trivial rfl
    · refine zk_gd fun e3 => ?_
      refine zk_st R 4 14 [some (.inr (31, i0)), some (.inl (.int x1)), some (.inl (.long x2)), none] [] (z_sL m 31 i0 (Int32.toNatClampNeg x1) x2) rfl ⟨trivial, trivial, trivial, ⟨hi0, z_inb_in e3⟩, trivial⟩ ?_
      exact zk_ret R rfl trivial rfl
theorem r_X7_add {as : List zA} : z_rcv zN (zKD 12) as := by
  rw [show zKD 12 = 0 from rfl]
  trivial
noncomputable def f_X7_add (k0 i0 : Nat) (x1 : Int32) (x2 : Int32) (m : zM) : Option (zM) :=
  if x1 < 0 then
    some m
  else
    if (Int32.ofNat (z_alen k0)) ≤ x1 then
      some m
    else
      z_gd (z_inb x1 (z_alen k0)) <| some (z_sI m k0 i0 (Int32.toNatClampNeg x1) ((m.1 k0 i0 (Int32.toNatClampNeg x1)) + x2))
theorem w_X7_add_k20 (d k : Nat) (i0 : Nat) (hi0 : i0 < zN 20) (x1 : Int32) (x2 : Int32) (m : zM) (a : zM) (ha : f_X7_add 20 i0 x1 x2 m = some a) : z_Ev z_MT zN zRf (d + 1) (k + 0) 12 [.inr (20, i0), .inl (.int x1), .inl (.int x2)] m ((fun a => (.inl none, a) : zM → zO) a) := by
  refine zk_top (I := (yX7_add, cX7_add, 3, none, [], tX7_add, 0, 3, 1, 0, 0, 0)) (oc := (fun a => (.inl none, a) : zM → zO)) (a := a) rfl (Nat.le_of_ble_eq_true rfl) (fun G R => ?_) ha
  unfold f_X7_add
  refine zk_st R 1 1 [some (.inr (20, i0)), some (.inl (.int x1)), some (.inl (.int x2))] [.inl (.int x1)] m rfl ⟨trivial, trivial⟩ ?_
  refine zk_br R rfl (fun _ => ?_) (fun _ => ?_)
  · exact zk_ret R rfl trivial rfl
  · refine zk_st R 3 7 [some (.inr (20, i0)), some (.inl (.int x1)), some (.inl (.int x2))] [.inl (.int (Int32.ofNat (z_alen 20))), .inl (.int x1)] m rfl ⟨trivial, trivial, hi0, trivial⟩ ?_
    refine zk_br R rfl (fun _ => ?_) (fun _ => ?_)
    · exact zk_ret R rfl trivial rfl
    · refine zk_gd fun e3 => ?_
      refine zk_st R 7 17 [some (.inr (20, i0)), some (.inl (.int x1)), some (.inl (.int x2))] [] (z_sI m 20 i0 (Int32.toNatClampNeg x1) ((m.1 20 i0 (Int32.toNatClampNeg x1)) + x2)) rfl ⟨trivial, trivial, trivial, ⟨hi0, z_inb_in e3⟩, trivial, trivial, ⟨hi0, z_inb_in e3⟩, trivial⟩ ?_
      exact zk_ret R rfl trivial rfl
theorem r_X7_copy {as : List zA} : z_rcv zN (zKD 13) as := by
  rw [show zKD 13 = 0 from rfl]
  trivial
noncomputable def f_X7_copy_2 (k0 i0 : Nat) (k1 i1 : Nat) : Nat → Int32 → zM → Option (zM)
  | 0, _, _ => none
  | j + 1, x2, m =>
    if (Int32.ofNat (z_alen k0)) ≤ x2 then
      some m
    else
      if (Int32.ofNat (z_alen k1)) ≤ x2 then
        some m
      else
        z_gd (z_inb x2 (z_alen k0)) <| z_gd (z_inb x2 (z_alen k1)) <| f_X7_copy_2 k0 i0 k1 i1 j (x2 + (1 : Int32)) (z_sI m k1 i1 (Int32.toNatClampNeg x2) (m.1 k0 i0 (Int32.toNatClampNeg x2)))
noncomputable def f_X7_copy (k0 i0 : Nat) (k1 i1 : Nat) (m : zM) : Option (zM) :=
  f_X7_copy_2 k0 i0 k1 i1 zF (0 : Int32) m
theorem w_X7_copy_2_k20_20 (d k : Nat) {o : zO} {G : Nat → Nat → zL → List zA → zM → Prop} (i0 : Nat) (i1 : Nat) (hi0 : i0 < zN 20) (hi1 : i1 < zN 20) (R : zRu (d + 0) tX7_copy 0 (z_hf []) o G) : ∀ (j : Nat) (x2 : Int32) (m : zM), zLK G (fun a => (.inl none, a) : zM → zO) o (f_X7_copy_2 20 i0 20 i1 j x2 m) some (k + 0) 2 [some (.inr (20, i0)), some (.inr (20, i1)), some (.inl (.int x2))] [] m := by
  intro j
  induction j with
  | zero =>
    intro _ _
    exact zk_none
  | succ j ih =>
    intro x2 m
    unfold f_X7_copy_2
    refine zk_st R 3 5 [some (.inr (20, i0)), some (.inr (20, i1)), some (.inl (.int x2))] [.inl (.int (Int32.ofNat (z_alen 20))), .inl (.int x2)] m rfl ⟨trivial, trivial, hi0, trivial⟩ ?_
    refine zk_br R rfl (fun _ => ?_) (fun _ => ?_)
    · exact zk_ret R rfl trivial rfl
    · refine zk_st R 3 11 [some (.inr (20, i0)), some (.inr (20, i1)), some (.inl (.int x2))] [.inl (.int (Int32.ofNat (z_alen 20))), .inl (.int x2)] m rfl ⟨trivial, trivial, hi1, trivial⟩ ?_
      refine zk_br R rfl (fun _ => ?_) (fun _ => ?_)
      · exact zk_ret R rfl trivial rfl
      · refine zk_gd fun e3 => ?_
        refine zk_gd fun e4 => ?_
        refine zk_st R 8 2 [some (.inr (20, i0)), some (.inr (20, i1)), some (.inl (.int (x2 + (1 : Int32))))] [] (z_sI m 20 i1 (Int32.toNatClampNeg x2) (m.1 20 i0 (Int32.toNatClampNeg x2))) rfl ⟨trivial, trivial, trivial, trivial, ⟨hi0, z_inb_in e3⟩, ⟨hi1, z_inb_in e4⟩, trivial, trivial, trivial⟩ ?_
        refine zk_mask R [true, true, true] rfl ?_
        exact ih (x2 + (1 : Int32)) (z_sI m 20 i1 (Int32.toNatClampNeg x2) (m.1 20 i0 (Int32.toNatClampNeg x2)))
theorem w_X7_copy_k20_20 (d k : Nat) (i0 : Nat) (i1 : Nat) (hi0 : i0 < zN 20) (hi1 : i1 < zN 20) (m : zM) (a : zM) (ha : f_X7_copy 20 i0 20 i1 m = some a) : z_Ev z_MT zN zRf (d + 1) (k + 0) 13 [.inr (20, i0), .inr (20, i1)] m ((fun a => (.inl none, a) : zM → zO) a) := by
  refine zk_top (I := (yX7_copy, cX7_copy, 3, none, [], tX7_copy, 0, 2, 1, 0, 0, 0)) (oc := (fun a => (.inl none, a) : zM → zO)) (a := a) rfl (Nat.le_of_ble_eq_true rfl) (fun G R => ?_) ha
  unfold f_X7_copy
  refine zk_st R 2 2 [some (.inr (20, i0)), some (.inr (20, i1)), some (.inl (.int (0 : Int32)))] [] m rfl ⟨trivial, trivial, trivial⟩ ?_
  refine zk_mask R [true, true, true] rfl ?_
  exact w_X7_copy_2_k20_20 d k i0 i1 hi0 hi1 R zF (0 : Int32) m
theorem r_X7_has {as : List zA} : z_rcv zN (zKD 16) as := by
  rw [show zKD 16 = 0 from rfl]
  trivial
noncomputable def f_X7_has (x0 : Int64) (x2 : Int32) (m : zM) : Option (Bool) :=
  if x2 < 0 then
    some false
  else
    if (64 : Int32) ≤ x2 then
      some false
    else
      if (lg_cmp ((z_ushr x0 x2) &&& (1 : Int64)) (0 : Int64)) = 0 then
        some false
      else
        some true
theorem w_X7_has (d k : Nat) (x0 : Int64) (x2 : Int32) (m : zM) (a : Bool) (ha : f_X7_has x0 x2 m = some a) : z_Ev z_MT zN zRf (d + 1) (k + 0) 16 [.inl (.long x0), .inl (.int x2)] m ((fun a => (z_cB a, m) : Bool → zO) a) := by
  refine zk_top (I := (yX7_has, cX7_has, 3, (some .boolean), [], tX7_has, 0, 2, 1, 0, 0, 0)) (oc := (fun a => (z_cB a, m) : Bool → zO)) (a := a) rfl (Nat.le_of_ble_eq_true rfl) (fun G R => ?_) ha
  unfold f_X7_has
  refine zk_st R 1 1 [some (.inl (.long x0)), none, some (.inl (.int x2))] [.inl (.int x2)] m rfl ⟨trivial, trivial⟩ ?_
  refine zk_br R rfl (fun _ => ?_) (fun _ => ?_)
  · refine zk_st R 1 25 [some (.inl (.long x0)), none, some (.inl (.int x2))] [.inl (.int (0 : Int32))] m rfl ⟨trivial, trivial⟩ ?_
    exact zk_ret R rfl (Or.inl rfl) rfl
  · refine zk_st R 2 7 [some (.inl (.long x0)), none, some (.inl (.int x2))] [.inl (.int (64 : Int32)), .inl (.int x2)] m rfl ⟨trivial, trivial, trivial⟩ ?_
    refine zk_br R rfl (fun _ => ?_) (fun _ => ?_)
    · refine zk_st R 1 25 [some (.inl (.long x0)), none, some (.inl (.int x2))] [.inl (.int (0 : Int32))] m rfl ⟨trivial, trivial⟩ ?_
      exact zk_ret R rfl (Or.inl rfl) rfl
    · refine zk_st R 7 17 [some (.inl (.long x0)), none, some (.inl (.int x2))] [.inl (.int (lg_cmp ((z_ushr x0 x2) &&& (1 : Int64)) (0 : Int64)))] m rfl ⟨trivial, trivial, trivial, trivial, trivial, trivial, trivial, trivial⟩ ?_
      refine zk_br R rfl (fun _ => ?_) (fun _ => ?_)
      · refine zk_st R 1 25 [some (.inl (.long x0)), none, some (.inl (.int x2))] [.inl (.int (0 : Int32))] m rfl ⟨trivial, trivial⟩ ?_
        exact zk_ret R rfl (Or.inl rfl) rfl
      · refine zk_st R 2 25 [some (.inl (.long x0)), none, some (.inl (.int x2))] [.inl (.int (1 : Int32))] m rfl ⟨trivial, trivial, trivial⟩ ?_
        exact zk_ret R rfl (Or.inr rfl) rfl
theorem r_X4_size {i : Nat} {t : List zA} (h : i < zN 6) : z_rcv zN (zKD 20) (.inr (6, i) :: t) := by
  rw [show zKD 20 = 6 from rfl]
  exact ⟨rfl, h⟩
noncomputable def f_X4_size (g0 : Nat) (m : zM) : Option (Int32) :=
  some ((m.1 6 g0 0) * (m.1 6 g0 1))
theorem w_X4_size (d k : Nat) (g0 : Nat) (hg0 : g0 < zN 6) (m : zM) (a : Int32) (ha : f_X4_size g0 m = some a) : z_Ev z_MT zN zRf (d + 1) (k + 0) 20 [.inr (6, g0)] m ((fun a => (z_cI a, m) : Int32 → zO) a) := by
  refine zk_top (I := (yX4_size, cX4_size, 1, (some .int), [], tX4_size, 6, 0, 6, 0, 0, 0)) (oc := (fun a => (z_cI a, m) : Int32 → zO)) (a := a) rfl (Nat.le_of_ble_eq_true rfl) (fun G R => ?_) ha
  unfold f_X4_size
  refine zk_st R 5 9 [some (.inr (6, g0))] [.inl (.int ((m.1 6 g0 0) * (m.1 6 g0 1)))] m rfl ⟨trivial, hg0, trivial, hg0, trivial, trivial⟩ ?_
  exact zk_ret R rfl trivial rfl
theorem r_X4_markOutlet {i : Nat} {t : List zA} (h : i < zN 6) : z_rcv zN (zKD 24) (.inr (6, i) :: t) := by
  rw [show zKD 24 = 6 from rfl]
  exact ⟨rfl, h⟩
noncomputable def f_X4_markOutlet_28 (g0 : Nat) (s1 : Int64) (m : zM) : Option (zM) :=
  some (z_sL m 6 g0 3 s1)
noncomputable def f_X4_markOutlet (g0 : Nat) (x1 : Int32) (x2 : Int32) (m : zM) : Option (zM) :=
  if x2 = 0 then
    f_X4_markOutlet_28 g0 ((m.2.1 6 g0 3) &&& ((z_shl (1 : Int64) x1) ^^^ (-1 : Int64))) m
  else
    f_X4_markOutlet_28 g0 ((m.2.1 6 g0 3) ||| (z_shl (1 : Int64) x1)) m
theorem w_X4_markOutlet_28 (d k : Nat) {o : zO} {G : Nat → Nat → zL → List zA → zM → Prop} (g0 : Nat) (hg0 : g0 < zN 6) (R : zRu (d + 0) tX4_markOutlet 0 (z_hf []) o G) (s1 : Int64) (m : zM) : zLK G (fun a => (.inl none, a) : zM → zO) o (f_X4_markOutlet_28 g0 s1 m) some (k + 0) 28 [none, none, none, none, none] [.inl (.long s1), .inr (6, g0)] m := by
  unfold f_X4_markOutlet_28
  refine zk_st R 1 31 [none, none, none, none, none] [] (z_sL m 6 g0 3 s1) rfl ⟨hg0, trivial⟩ ?_
  exact zk_ret R rfl trivial rfl
theorem w_X4_markOutlet (d k : Nat) (g0 : Nat) (hg0 : g0 < zN 6) (x1 : Int32) (x2 : Int32) (m : zM) (a : zM) (ha : f_X4_markOutlet g0 x1 x2 m = some a) : z_Ev z_MT zN zRf (d + 1) (k + 0) 24 [.inr (6, g0), .inl (.int x1), .inl (.int x2)] m ((fun a => (.inl none, a) : zM → zO) a) := by
  refine zk_top (I := (yX4_markOutlet, cX4_markOutlet, 5, none, [], tX4_markOutlet, 6, 2, 6, 0, 0, 0)) (oc := (fun a => (.inl none, a) : zM → zO)) (a := a) rfl (Nat.le_of_ble_eq_true rfl) (fun G R => ?_) ha
  unfold f_X4_markOutlet
  refine zk_st R 6 6 [some (.inr (6, g0)), some (.inl (.int x1)), some (.inl (.int x2)), some (.inl (.long (z_shl (1 : Int64) x1))), none] [.inl (.int x2), .inr (6, g0)] m rfl ⟨trivial, trivial, trivial, trivial, trivial, trivial, trivial⟩ ?_
  refine zk_br R rfl (fun _ => ?_) (fun _ => ?_)
  · refine zk_st R 6 28 [some (.inr (6, g0)), some (.inl (.int x1)), some (.inl (.int x2)), some (.inl (.long (z_shl (1 : Int64) x1))), none] [.inl (.long ((m.2.1 6 g0 3) &&& ((z_shl (1 : Int64) x1) ^^^ (-1 : Int64)))), .inr (6, g0)] m rfl ⟨trivial, hg0, trivial, trivial, trivial, trivial, trivial⟩ ?_
    refine zk_mask R [false, false, false, false, false] rfl ?_
    exact w_X4_markOutlet_28 d k g0 hg0 R ((m.2.1 6 g0 3) &&& ((z_shl (1 : Int64) x1) ^^^ (-1 : Int64))) m
  · refine zk_st R 5 28 [some (.inr (6, g0)), some (.inl (.int x1)), some (.inl (.int x2)), some (.inl (.long (z_shl (1 : Int64) x1))), none] [.inl (.long ((m.2.1 6 g0 3) ||| (z_shl (1 : Int64) x1))), .inr (6, g0)] m rfl ⟨trivial, hg0, trivial, trivial, trivial, trivial⟩ ?_
    refine zk_mask R [false, false, false, false, false] rfl ?_
    exact w_X4_markOutlet_28 d k g0 hg0 R ((m.2.1 6 g0 3) ||| (z_shl (1 : Int64) x1)) m
theorem r_X4_columnOf {i : Nat} {t : List zA} (h : i < zN 6) : z_rcv zN (zKD 25) (.inr (6, i) :: t) := by
  rw [show zKD 25 = 6 from rfl]
  exact ⟨rfl, h⟩
noncomputable def f_X4_columnOf (g0 : Nat) (x1 : Int32) (m : zM) : Option (Int32) :=
  if (m.1 6 g0 0) ≤ 0 then
    some (0 : Int32)
  else
    z_gd (z_nz (m.1 6 g0 0)) <| some (z_irem x1 (m.1 6 g0 0))
theorem w_X4_columnOf (d k : Nat) (g0 : Nat) (hg0 : g0 < zN 6) (x1 : Int32) (m : zM) (a : Int32) (ha : f_X4_columnOf g0 x1 m = some a) : z_Ev z_MT zN zRf (d + 1) (k + 0) 25 [.inr (6, g0), .inl (.int x1)] m ((fun a => (z_cI a, m) : Int32 → zO) a) := by
  refine zk_top (I := (yX4_columnOf, cX4_columnOf, 2, (some .int), [], tX4_columnOf, 6, 1, 6, 0, 0, 0)) (oc := (fun a => (z_cI a, m) : Int32 → zO)) (a := a) rfl (Nat.le_of_ble_eq_true rfl) (fun G R => ?_) ha
  unfold f_X4_columnOf
  refine zk_st R 2 4 [some (.inr (6, g0)), some (.inl (.int x1))] [.inl (.int (m.1 6 g0 0))] m rfl ⟨trivial, hg0, trivial⟩ ?_
  refine zk_br R rfl (fun _ => ?_) (fun _ => ?_)
  · refine zk_st R 1 17 [some (.inr (6, g0)), some (.inl (.int x1))] [.inl (.int (0 : Int32))] m rfl ⟨trivial, trivial⟩ ?_
    exact zk_ret R rfl trivial rfl
  · refine zk_gd fun e2 => ?_
    refine zk_st R 5 17 [some (.inr (6, g0)), some (.inl (.int x1))] [.inl (.int (z_irem x1 (m.1 6 g0 0)))] m rfl ⟨trivial, trivial, hg0, (z_nz_ne e2), trivial, trivial⟩ ?_
    exact zk_ret R rfl trivial rfl
theorem r_X4_rowOf {i : Nat} {t : List zA} (h : i < zN 6) : z_rcv zN (zKD 26) (.inr (6, i) :: t) := by
  rw [show zKD 26 = 6 from rfl]
  exact ⟨rfl, h⟩
noncomputable def f_X4_rowOf (g0 : Nat) (x1 : Int32) (m : zM) : Option (Int32) :=
  if (m.1 6 g0 0) ≤ 0 then
    some (0 : Int32)
  else
    z_gd (z_nz (m.1 6 g0 0)) <| some (x1 / (m.1 6 g0 0))
theorem w_X4_rowOf (d k : Nat) (g0 : Nat) (hg0 : g0 < zN 6) (x1 : Int32) (m : zM) (a : Int32) (ha : f_X4_rowOf g0 x1 m = some a) : z_Ev z_MT zN zRf (d + 1) (k + 0) 26 [.inr (6, g0), .inl (.int x1)] m ((fun a => (z_cI a, m) : Int32 → zO) a) := by
  refine zk_top (I := (yX4_rowOf, cX4_rowOf, 2, (some .int), [], tX4_rowOf, 6, 1, 6, 0, 0, 0)) (oc := (fun a => (z_cI a, m) : Int32 → zO)) (a := a) rfl (Nat.le_of_ble_eq_true rfl) (fun G R => ?_) ha
  unfold f_X4_rowOf
  refine zk_st R 2 4 [some (.inr (6, g0)), some (.inl (.int x1))] [.inl (.int (m.1 6 g0 0))] m rfl ⟨trivial, hg0, trivial⟩ ?_
  refine zk_br R rfl (fun _ => ?_) (fun _ => ?_)
  · refine zk_st R 1 17 [some (.inr (6, g0)), some (.inl (.int x1))] [.inl (.int (0 : Int32))] m rfl ⟨trivial, trivial⟩ ?_
    exact zk_ret R rfl trivial rfl
  · refine zk_gd fun e2 => ?_
    refine zk_st R 5 17 [some (.inr (6, g0)), some (.inl (.int x1))] [.inl (.int (x1 / (m.1 6 g0 0)))] m rfl ⟨trivial, trivial, hg0, (z_nz_ne e2), trivial, trivial⟩ ?_
    exact zk_ret R rfl trivial rfl
theorem r_X4_column {i : Nat} {t : List zA} (h : i < zN 6) : z_rcv zN (zKD 28) (.inr (6, i) :: t) := by
  rw [show zKD 28 = 6 from rfl]
  exact ⟨rfl, h⟩
noncomputable def f_X4_column_5 (g0 : Nat) (m : zM) : Nat → Int32 → Int64 → Int32 → Option (Int64)
  | 0, _, _, _ => none
  | j + 1, x1, x2, x4 =>
    if (m.1 6 g0 1) ≤ x4 then
      some x2
    else
      f_X4_column_5 g0 m j x1 (x2 ||| (z_shl (1 : Int64) ((x4 * (m.1 6 g0 0)) + x1))) (x4 + (1 : Int32))
noncomputable def f_X4_column (g0 : Nat) (x1 : Int32) (m : zM) : Option (Int64) :=
  f_X4_column_5 g0 m zF x1 (0 : Int64) (0 : Int32)
theorem w_X4_column_5 (d k : Nat) {o : zO} {G : Nat → Nat → zL → List zA → zM → Prop} (g0 : Nat) (hg0 : g0 < zN 6) (m : zM) (R : zRu (d + 0) tX4_column 0 (z_hf []) o G) : ∀ (j : Nat) (x1 : Int32) (x2 : Int64) (x4 : Int32), zLK G (fun a => (z_cL a, m) : Int64 → zO) o (f_X4_column_5 g0 m j x1 x2 x4) some (k + 0) 5 [some (.inr (6, g0)), some (.inl (.int x1)), some (.inl (.long x2)), none, some (.inl (.int x4))] [] m := by
  intro j
  induction j with
  | zero =>
    intro _ _ _
    exact zk_none
  | succ j ih =>
    intro x1 x2 x4
    unfold f_X4_column_5
    refine zk_st R 3 11 [some (.inr (6, g0)), some (.inl (.int x1)), some (.inl (.long x2)), none, some (.inl (.int x4))] [.inl (.int (m.1 6 g0 1)), .inl (.int x4)] m rfl ⟨trivial, trivial, hg0, trivial⟩ ?_
    refine zk_br R rfl (fun _ => ?_) (fun _ => ?_)
    · refine zk_st R 1 35 [some (.inr (6, g0)), some (.inl (.int x1)), some (.inl (.long x2)), none, some (.inl (.int x4))] [.inl (.long x2)] m rfl ⟨trivial, trivial⟩ ?_
      exact zk_ret R rfl trivial rfl
    · refine zk_st R 13 5 [some (.inr (6, g0)), some (.inl (.int x1)), some (.inl (.long (x2 ||| (z_shl (1 : Int64) ((x4 * (m.1 6 g0 0)) + x1))))), none, some (.inl (.int (x4 + (1 : Int32))))] [] m rfl ⟨trivial, trivial, trivial, trivial, hg0, trivial, trivial, trivial, trivial, trivial, trivial, trivial, trivial, trivial⟩ ?_
      refine zk_mask R [true, true, true, false, true] rfl ?_
      exact ih x1 (x2 ||| (z_shl (1 : Int64) ((x4 * (m.1 6 g0 0)) + x1))) (x4 + (1 : Int32))
theorem w_X4_column (d k : Nat) (g0 : Nat) (hg0 : g0 < zN 6) (x1 : Int32) (m : zM) (a : Int64) (ha : f_X4_column g0 x1 m = some a) : z_Ev z_MT zN zRf (d + 1) (k + 0) 28 [.inr (6, g0), .inl (.int x1)] m ((fun a => (z_cL a, m) : Int64 → zO) a) := by
  refine zk_top (I := (yX4_column, cX4_column, 5, (some .long), [], tX4_column, 6, 1, 6, 0, 0, 0)) (oc := (fun a => (z_cL a, m) : Int64 → zO)) (a := a) rfl (Nat.le_of_ble_eq_true rfl) (fun G R => ?_) ha
  unfold f_X4_column
  refine zk_st R 4 5 [some (.inr (6, g0)), some (.inl (.int x1)), some (.inl (.long (0 : Int64))), none, some (.inl (.int (0 : Int32)))] [] m rfl ⟨trivial, trivial, trivial, trivial, trivial⟩ ?_
  refine zk_mask R [true, true, true, false, true] rfl ?_
  exact w_X4_column_5 d k g0 hg0 m R zF x1 (0 : Int64) (0 : Int32)
theorem r_X5_newestSlot {i : Nat} {t : List zA} (h : i < zN 7) : z_rcv zN (zKD 76) (.inr (7, i) :: t) := by
  rw [show zKD 76 = 7 from rfl]
  exact ⟨rfl, h⟩
noncomputable def f_X5_newestSlot (m : zM) : Option (Option Nat) :=
  if (m.1 7 0 1) < 0 then
    some none
  else
    if (Int32.ofNat (z_alen 35)) ≤ (m.1 7 0 1) then
      some none
    else
      z_gd (z_inb (m.1 7 0 1) (z_alen 35)) <| some (some (3 + (Int32.toNatClampNeg (m.1 7 0 1))))
theorem w_X5_newestSlot (d k : Nat) (m : zM) (a : Option Nat) (ha : f_X5_newestSlot m = some a) : z_Ev z_MT zN zRf (d + 1) (k + 0) 76 [.inr (7, 0)] m ((fun a => (z_cQ a, m) : Option Nat → zO) a) := by
  refine zk_top (I := (yX5_newestSlot, cX5_newestSlot, 1, (some (.object "WatershedMapper$Grid")), [], tX5_newestSlot, 7, 0, 7, 0, 0, 0)) (oc := (fun a => (z_cQ a, m) : Option Nat → zO)) (a := a) rfl (Nat.le_of_ble_eq_true rfl) (fun G R => ?_) ha
  unfold f_X5_newestSlot
  refine zk_st R 2 4 [some (.inr (7, 0))] [.inl (.int (m.1 7 0 1))] m rfl ⟨trivial, (Nat.le_of_ble_eq_true rfl), trivial⟩ ?_
  refine zk_br R rfl (fun _ => ?_) (fun _ => ?_)
  · refine zk_st R 1 32 [some (.inr (7, 0))] [.inl .null] m rfl ⟨trivial, trivial⟩ ?_
    exact zk_ret R rfl trivial rfl
  · refine zk_st R 5 16 [some (.inr (7, 0))] [.inl (.int (Int32.ofNat (z_alen 35))), .inl (.int (m.1 7 0 1))] m rfl ⟨trivial, (Nat.le_of_ble_eq_true rfl), trivial, (Nat.le_of_ble_eq_true rfl), (Nat.le_of_ble_eq_true rfl), trivial⟩ ?_
    refine zk_br R rfl (fun _ => ?_) (fun _ => ?_)
    · refine zk_st R 1 32 [some (.inr (7, 0))] [.inl .null] m rfl ⟨trivial, trivial⟩ ?_
      exact zk_ret R rfl trivial rfl
    · refine zk_gd fun e3 => ?_
      refine zk_st R 6 32 [some (.inr (7, 0))] [.inr (6, (3 + (Int32.toNatClampNeg (m.1 7 0 1))))] m rfl ⟨trivial, (Nat.le_of_ble_eq_true rfl), trivial, (Nat.le_of_ble_eq_true rfl), ⟨(Nat.le_of_ble_eq_true rfl), z_inb_in e3⟩, trivial, trivial⟩ ?_
      exact zk_ret R rfl trivial rfl
theorem r_X9_add {i : Nat} {t : List zA} (h : i < zN 10) : z_rcv zN (zKD 91) (.inr (10, i) :: t) := by
  rw [show zKD 91 = 10 from rfl]
  exact ⟨rfl, h⟩
noncomputable def f_X9_add (x1 : Int32) (m : zM) : Option (zM) :=
  if (m.1 10 0 1) < 0 then
    some m
  else
    if (Int32.ofNat (z_alen 34)) ≤ (m.1 10 0 1) then
      some m
    else
      z_gd (z_inb (m.1 10 0 1) (z_alen 34)) <| some (z_sI (z_sI m 34 0 (Int32.toNatClampNeg (m.1 10 0 1)) (vp_nar .char x1)) 10 0 1 (((z_sI m 34 0 (Int32.toNatClampNeg (m.1 10 0 1)) (vp_nar .char x1)).1 10 0 1) + (1 : Int32)))
theorem w_X9_add (d k : Nat) (x1 : Int32) (m : zM) (a : zM) (ha : f_X9_add x1 m = some a) : z_Ev z_MT zN zRf (d + 1) (k + 0) 91 [.inr (10, 0), .inl (.int x1)] m ((fun a => (.inl none, a) : zM → zO) a) := by
  refine zk_top (I := (yX9_add, cX9_add, 2, none, [], tX9_add, 10, 1, 10, 0, 0, 0)) (oc := (fun a => (.inl none, a) : zM → zO)) (a := a) rfl (Nat.le_of_ble_eq_true rfl) (fun G R => ?_) ha
  unfold f_X9_add
  refine zk_st R 2 4 [some (.inr (10, 0)), some (.inl (.int x1))] [.inl (.int (m.1 10 0 1))] m rfl ⟨trivial, (Nat.le_of_ble_eq_true rfl), trivial⟩ ?_
  refine zk_br R rfl (fun _ => ?_) (fun _ => ?_)
  · exact zk_ret R rfl trivial rfl
  · refine zk_st R 5 16 [some (.inr (10, 0)), some (.inl (.int x1))] [.inl (.int (Int32.ofNat (z_alen 34))), .inl (.int (m.1 10 0 1))] m rfl ⟨trivial, (Nat.le_of_ble_eq_true rfl), trivial, (Nat.le_of_ble_eq_true rfl), (Nat.le_of_ble_eq_true rfl), trivial⟩ ?_
    refine zk_br R rfl (fun _ => ?_) (fun _ => ?_)
    · exact zk_ret R rfl trivial rfl
    · refine zk_gd fun e3 => ?_
      refine zk_st R 12 39 [some (.inr (10, 0)), some (.inl (.int x1))] [] (z_sI (z_sI m 34 0 (Int32.toNatClampNeg (m.1 10 0 1)) (vp_nar .char x1)) 10 0 1 (((z_sI m 34 0 (Int32.toNatClampNeg (m.1 10 0 1)) (vp_nar .char x1)).1 10 0 1) + (1 : Int32))) rfl ⟨trivial, (Nat.le_of_ble_eq_true rfl), trivial, (Nat.le_of_ble_eq_true rfl), trivial, ⟨(Nat.le_of_ble_eq_true rfl), z_inb_in e3⟩, trivial, trivial, (Nat.le_of_ble_eq_true rfl), trivial, trivial, (Nat.le_of_ble_eq_true rfl), trivial⟩ ?_
      exact zk_ret R rfl trivial rfl
theorem r_X9_sign {i : Nat} {t : List zA} (h : i < zN 10) : z_rcv zN (zKD 95) (.inr (10, i) :: t) := by
  rw [show zKD 95 = 10 from rfl]
  exact ⟨rfl, h⟩
noncomputable def f_X9_sign (m : zM) : Option (Int32) :=
  if (m.1 10 0 3) < 0 then
    z_gd (z_bC (0 : Int32)) <| some (0 : Int32)
  else
    if (m.1 10 0 1) ≤ (m.1 10 0 3) then
      z_gd (z_bC (0 : Int32)) <| some (0 : Int32)
    else
      if (Int32.ofNat (z_alen 34)) ≤ (m.1 10 0 3) then
        z_gd (z_bC (0 : Int32)) <| some (0 : Int32)
      else
        z_gd (z_inb (m.1 10 0 3) (z_alen 34)) <| z_gd (z_bC (m.1 34 0 (Int32.toNatClampNeg (m.1 10 0 3)))) <| some (m.1 34 0 (Int32.toNatClampNeg (m.1 10 0 3)))
theorem w_X9_sign (d k : Nat) (m : zM) (a : Int32) (ha : f_X9_sign m = some a) : z_Ev z_MT zN zRf (d + 1) (k + 0) 95 [.inr (10, 0)] m ((fun a => (z_cI a, m) : Int32 → zO) a) := by
  refine zk_top (I := (yX9_sign, cX9_sign, 1, (some .char), [], tX9_sign, 10, 0, 10, 0, 0, 0)) (oc := (fun a => (z_cI a, m) : Int32 → zO)) (a := a) rfl (Nat.le_of_ble_eq_true rfl) (fun G R => ?_) ha
  unfold f_X9_sign
  refine zk_st R 2 4 [some (.inr (10, 0))] [.inl (.int (m.1 10 0 3))] m rfl ⟨trivial, (Nat.le_of_ble_eq_true rfl), trivial⟩ ?_
  refine zk_br R rfl (fun _ => ?_) (fun _ => ?_)
  · refine zk_gd fun e2 => ?_
    refine zk_st R 1 43 [some (.inr (10, 0))] [.inl (.int (0 : Int32))] m rfl ⟨trivial, trivial⟩ ?_
    exact zk_ret R rfl (z_bC_of e2) rfl
  · refine zk_st R 4 15 [some (.inr (10, 0))] [.inl (.int (m.1 10 0 1)), .inl (.int (m.1 10 0 3))] m rfl ⟨trivial, (Nat.le_of_ble_eq_true rfl), trivial, (Nat.le_of_ble_eq_true rfl), trivial⟩ ?_
    refine zk_br R rfl (fun _ => ?_) (fun _ => ?_)
    · refine zk_gd fun e4 => ?_
      refine zk_st R 1 43 [some (.inr (10, 0))] [.inl (.int (0 : Int32))] m rfl ⟨trivial, trivial⟩ ?_
      exact zk_ret R rfl (z_bC_of e4) rfl
    · refine zk_st R 5 27 [some (.inr (10, 0))] [.inl (.int (Int32.ofNat (z_alen 34))), .inl (.int (m.1 10 0 3))] m rfl ⟨trivial, (Nat.le_of_ble_eq_true rfl), trivial, (Nat.le_of_ble_eq_true rfl), (Nat.le_of_ble_eq_true rfl), trivial⟩ ?_
      refine zk_br R rfl (fun _ => ?_) (fun _ => ?_)
      · refine zk_gd fun e6 => ?_
        refine zk_st R 1 43 [some (.inr (10, 0))] [.inl (.int (0 : Int32))] m rfl ⟨trivial, trivial⟩ ?_
        exact zk_ret R rfl (z_bC_of e6) rfl
      · refine zk_gd fun e7 => ?_
        refine zk_gd fun e8 => ?_
        refine zk_st R 6 43 [some (.inr (10, 0))] [.inl (.int (m.1 34 0 (Int32.toNatClampNeg (m.1 10 0 3))))] m rfl ⟨trivial, (Nat.le_of_ble_eq_true rfl), trivial, (Nat.le_of_ble_eq_true rfl), ⟨(Nat.le_of_ble_eq_true rfl), z_inb_in e7⟩, trivial, trivial⟩ ?_
        exact zk_ret R rfl (z_bC_of e8) rfl
theorem r_X11_errorPosition {i : Nat} {t : List zA} (h : i < zN 12) : z_rcv zN (zKD 146) (.inr (12, i) :: t) := by
  rw [show zKD 146 = 12 from rfl]
  exact ⟨rfl, h⟩
noncomputable def f_X11_errorPosition (m : zM) : Option ((Int32 ⊕ Nat) × zM) :=
  if (m.1 12 0 6) = (-1 : Int32) then
    some (.inr 3, m)
  else
    some (.inl (m.1 12 0 6), m)
theorem w_X11_errorPosition (d k : Nat) (m : zM) (a : (Int32 ⊕ Nat) × zM) (ha : f_X11_errorPosition m = some a) : z_Ev z_MT zN zRf (d + 1) (k + 1) 146 [.inr (12, 0)] m ((fun a => (z_cX z_cI a.1, a.2) : (Int32 ⊕ Nat) × zM → zO) a) := by
  refine zk_top (I := (yX11_errorPosition, cX11_errorPosition, 1, (some .int), [], tX11_errorPosition, 12, 0, 12, 0, 0, 0)) (oc := (fun a => (z_cX z_cI a.1, a.2) : (Int32 ⊕ Nat) × zM → zO)) (a := a) rfl (Nat.le_of_ble_eq_true rfl) (fun G R => ?_) ha
  unfold f_X11_errorPosition
  refine zk_st R 3 5 [some (.inr (12, 0))] [.inl (.int (-1 : Int32)), .inl (.int (m.1 12 0 6))] m rfl ⟨trivial, (Nat.le_of_ble_eq_true rfl), trivial, trivial⟩ ?_
  refine zk_br R rfl (fun _ => ?_) (fun _ => ?_)
  · exact zk_thr R (k := k + 0) rfl rfl
  · refine zk_st R 2 23 [some (.inr (12, 0))] [.inl (.int (m.1 12 0 6))] m rfl ⟨trivial, (Nat.le_of_ble_eq_true rfl), trivial⟩ ?_
    exact zk_ret R rfl trivial rfl
