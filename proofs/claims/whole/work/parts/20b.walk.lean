theorem r_X11_requireRange {as : List zA} : z_rcv zN (zKD 153) as := by
  rw [show zKD 153 = 0 from rfl]
  trivial
noncomputable def f_X11_requireRange (x0 : Int32) (x1 : Int32) (x2 : Int32) (m : zM) : Option ((Unit ⊕ Nat) × zM) :=
  if x0 < x1 then
    some (.inr 0, m)
  else
    if x0 ≤ x2 then
      some (.inl (), m)
    else
      some (.inr 0, m)
theorem w_X11_requireRange (d k : Nat) (x0 : Int32) (x1 : Int32) (x2 : Int32) (m : zM) (a : (Unit ⊕ Nat) × zM) (ha : f_X11_requireRange x0 x1 x2 m = some a) : z_Ev z_MT zN zRf (d + 1) (k + 1) 153 [.inl (.int x0), .inl (.int x1), .inl (.int x2)] m ((fun a => (z_cX z_cU a.1, a.2) : (Unit ⊕ Nat) × zM → zO) a) := by
  refine zk_top (I := (yX11_requireRange, cX11_requireRange, 3, none, [], tX11_requireRange, 0, 3, 12, 0, 0, 0)) (oc := (fun a => (z_cX z_cU a.1, a.2) : (Unit ⊕ Nat) × zM → zO)) (a := a) rfl (Nat.le_of_ble_eq_true rfl) (fun G R => ?_) ha
  unfold f_X11_requireRange
  refine zk_st R 2 2 [some (.inl (.int x0)), some (.inl (.int x1)), some (.inl (.int x2))] [.inl (.int x1), .inl (.int x0)] m rfl ⟨trivial, trivial, trivial⟩ ?_
  refine zk_br R rfl (fun _ => ?_) (fun _ => ?_)
  · exact zk_thr R (k := k + 0) rfl rfl
  · refine zk_st R 2 7 [some (.inl (.int x0)), some (.inl (.int x1)), some (.inl (.int x2))] [.inl (.int x2), .inl (.int x0)] m rfl ⟨trivial, trivial, trivial⟩ ?_
    refine zk_br R rfl (fun _ => ?_) (fun _ => ?_)
    · exact zk_ret R rfl trivial rfl
    · exact zk_thr R (k := k + 0) rfl rfl
theorem r_X12_thrown {i : Nat} {t : List zA} (h : i < zN 13) : z_rcv zN (zKD 157) (.inr (13, i) :: t) := by
  rw [show zKD 157 = 13 from rfl]
  exact ⟨rfl, h⟩
noncomputable def f_X12_thrown (m : zM) : Option (Int32) :=
  some (m.1 13 0 0)
theorem w_X12_thrown (d k : Nat) (m : zM) (a : Int32) (ha : f_X12_thrown m = some a) : z_Ev z_MT zN zRf (d + 1) (k + 0) 157 [.inr (13, 0)] m ((fun a => (z_cI a, m) : Int32 → zO) a) := by
  refine zk_top (I := (yX12_thrown, cX12_thrown, 1, (some .int), [], tX12_thrown, 13, 0, 13, 0, 0, 0)) (oc := (fun a => (z_cI a, m) : Int32 → zO)) (a := a) rfl (Nat.le_of_ble_eq_true rfl) (fun G R => ?_) ha
  unfold f_X12_thrown
  refine zk_st R 2 4 [some (.inr (13, 0))] [.inl (.int (m.1 13 0 0))] m rfl ⟨trivial, (Nat.le_of_ble_eq_true rfl), trivial⟩ ?_
  exact zk_ret R rfl trivial rfl
theorem r_X12_raises {i : Nat} {t : List zA} (h : i < zN 13) : z_rcv zN (zKD 158) (.inr (13, i) :: t) := by
  rw [show zKD 158 = 13 from rfl]
  exact ⟨rfl, h⟩
noncomputable def f_X12_raises (x1 : Int32) (m : zM) : Option (Int32 × zM) :=
  some ((0 : Int32), (z_sI m 13 0 0 x1))
theorem w_X12_raises (d k : Nat) (x1 : Int32) (m : zM) (a : Int32 × zM) (ha : f_X12_raises x1 m = some a) : z_Ev z_MT zN zRf (d + 1) (k + 0) 158 [.inr (13, 0), .inl (.int x1)] m ((fun a => (z_cI a.1, a.2) : Int32 × zM → zO) a) := by
  refine zk_top (I := (yX12_raises, cX12_raises, 2, (some .int), [], tX12_raises, 13, 1, 13, 0, 0, 0)) (oc := (fun a => (z_cI a.1, a.2) : Int32 × zM → zO)) (a := a) rfl (Nat.le_of_ble_eq_true rfl) (fun G R => ?_) ha
  unfold f_X12_raises
  refine zk_st R 4 6 [some (.inr (13, 0)), some (.inl (.int x1))] [.inl (.int (0 : Int32))] (z_sI m 13 0 0 x1) rfl ⟨trivial, trivial, (Nat.le_of_ble_eq_true rfl), trivial, trivial⟩ ?_
  exact zk_ret R rfl trivial rfl
theorem r_X12_in {as : List zA} : z_rcv zN (zKD 159) as := by
  rw [show zKD 159 = 0 from rfl]
  trivial
noncomputable def f_X12_in (x0 : Int64) (x2 : Int64) (x4 : Int64) (m : zM) : Option (Bool) :=
  if (lg_cmp x0 x2) < 0 then
    some false
  else
    if 0 < (lg_cmp x0 x4) then
      some false
    else
      some true
theorem w_X12_in (d k : Nat) (x0 : Int64) (x2 : Int64) (x4 : Int64) (m : zM) (a : Bool) (ha : f_X12_in x0 x2 x4 m = some a) : z_Ev z_MT zN zRf (d + 1) (k + 0) 159 [.inl (.long x0), .inl (.long x2), .inl (.long x4)] m ((fun a => (z_cB a, m) : Bool → zO) a) := by
  refine zk_top (I := (yX12_in, cX12_in, 6, (some .boolean), [], tX12_in, 0, 3, 13, 0, 0, 0)) (oc := (fun a => (z_cB a, m) : Bool → zO)) (a := a) rfl (Nat.le_of_ble_eq_true rfl) (fun G R => ?_) ha
  unfold f_X12_in
  refine zk_st R 3 3 [some (.inl (.long x0)), none, some (.inl (.long x2)), none, some (.inl (.long x4)), none] [.inl (.int (lg_cmp x0 x2))] m rfl ⟨trivial, trivial, trivial, trivial⟩ ?_
  refine zk_br R rfl (fun _ => ?_) (fun _ => ?_)
  · refine zk_st R 1 18 [some (.inl (.long x0)), none, some (.inl (.long x2)), none, some (.inl (.long x4)), none] [.inl (.int (0 : Int32))] m rfl ⟨trivial, trivial⟩ ?_
    exact zk_ret R rfl (Or.inl rfl) rfl
  · refine zk_st R 3 10 [some (.inl (.long x0)), none, some (.inl (.long x2)), none, some (.inl (.long x4)), none] [.inl (.int (lg_cmp x0 x4))] m rfl ⟨trivial, trivial, trivial, trivial⟩ ?_
    refine zk_br R rfl (fun _ => ?_) (fun _ => ?_)
    · refine zk_st R 1 18 [some (.inl (.long x0)), none, some (.inl (.long x2)), none, some (.inl (.long x4)), none] [.inl (.int (0 : Int32))] m rfl ⟨trivial, trivial⟩ ?_
      exact zk_ret R rfl (Or.inl rfl) rfl
    · refine zk_st R 2 18 [some (.inl (.long x0)), none, some (.inl (.long x2)), none, some (.inl (.long x4)), none] [.inl (.int (1 : Int32))] m rfl ⟨trivial, trivial, trivial⟩ ?_
      exact zk_ret R rfl (Or.inr rfl) rfl
theorem r_X12_lays {i : Nat} {t : List zA} (h : i < zN 13) : z_rcv zN (zKD 160) (.inr (13, i) :: t) := by
  rw [show zKD 160 = 13 from rfl]
  exact ⟨rfl, h⟩
noncomputable def f_X12_lays_71 (c16 : Int32 → zM → Option (zM)) (x3 : Int32) (s1 : Int32) (s2 : Int32) (m : zM) : Option (zM) :=
  z_gd (z_inb s1 (z_alen 23)) <| c16 (x3 + (1 : Int32)) (z_sI m 23 0 (Int32.toNatClampNeg s1) s2)
noncomputable def f_X12_lays_16 : Nat → Int32 → zM → Option (zM)
  | 0, _, _ => none
  | j + 1, x3, m =>
    if (64 : Int32) ≤ x3 then
      some m
    else
      z_gd (z_inb ((3 : Int32) + x3) (z_alen 23)) <| z_gd (z_inb ((67 : Int32) + x3) (z_alen 23)) <| z_gd (z_inb ((131 : Int32) + x3) (z_alen 23)) <| if x3 = 0 then
        f_X12_lays_71 (f_X12_lays_16 j) x3 ((195 : Int32) + x3) (1 : Int32) (z_sI (z_sI (z_sI m 23 0 (Int32.toNatClampNeg ((3 : Int32) + x3)) (50 : Int32)) 23 0 (Int32.toNatClampNeg ((67 : Int32) + x3)) (1 : Int32)) 23 0 (Int32.toNatClampNeg ((131 : Int32) + x3)) (0 : Int32))
      else
        f_X12_lays_71 (f_X12_lays_16 j) x3 ((195 : Int32) + x3) (0 : Int32) (z_sI (z_sI (z_sI m 23 0 (Int32.toNatClampNeg ((3 : Int32) + x3)) (50 : Int32)) 23 0 (Int32.toNatClampNeg ((67 : Int32) + x3)) (1 : Int32)) 23 0 (Int32.toNatClampNeg ((131 : Int32) + x3)) (0 : Int32))
noncomputable def f_X12_lays (x1 : Int32) (x2 : Int32) (m : zM) : Option (zM) :=
  z_gd (z_inb (0 : Int32) (z_alen 23)) <| z_gd (z_inb (1 : Int32) (z_alen 23)) <| f_X12_lays_16 zF (0 : Int32) (z_sI (z_sI m 23 0 (Int32.toNatClampNeg (0 : Int32)) x1) 23 0 (Int32.toNatClampNeg (1 : Int32)) x2)
theorem w_X12_lays_71 (d k : Nat) {o : zO} {G : Nat → Nat → zL → List zA → zM → Prop} (R : zRu (d + 0) tX12_lays 0 (z_hf []) o G) (c16 : Int32 → zM → Option (zM)) (hc16 : ∀ (x3 : Int32) (m : zM), zLK G (fun a => (.inl none, a) : zM → zO) o (c16 x3 m) some (k + 0) 16 [some (.inr (13, 0)), none, none, some (.inl (.int x3))] [] m) (x3 : Int32) (s1 : Int32) (s2 : Int32) (m : zM) : zLK G (fun a => (.inl none, a) : zM → zO) o (f_X12_lays_71 c16 x3 s1 s2 m) some (k + 0) 71 [some (.inr (13, 0)), none, none, some (.inl (.int x3))] [.inl (.int s2), .inl (.int s1), .inr (23, 0)] m := by
  unfold f_X12_lays_71
  refine zk_gd fun e1 => ?_
  refine zk_st R 3 16 [some (.inr (13, 0)), none, none, some (.inl (.int (x3 + (1 : Int32))))] [] (z_sI m 23 0 (Int32.toNatClampNeg s1) s2) rfl ⟨⟨(Nat.le_of_ble_eq_true rfl), z_inb_in e1⟩, trivial, trivial, trivial⟩ ?_
  refine zk_mask R [true, false, false, true] rfl ?_
  exact hc16 (x3 + (1 : Int32)) (z_sI m 23 0 (Int32.toNatClampNeg s1) s2)
theorem w_X12_lays_16 (d k : Nat) {o : zO} {G : Nat → Nat → zL → List zA → zM → Prop} (R : zRu (d + 0) tX12_lays 0 (z_hf []) o G) : ∀ (j : Nat) (x3 : Int32) (m : zM), zLK G (fun a => (.inl none, a) : zM → zO) o (f_X12_lays_16 j x3 m) some (k + 0) 16 [some (.inr (13, 0)), none, none, some (.inl (.int x3))] [] m := by
  intro j
  induction j with
  | zero =>
    intro _ _
    exact zk_none
  | succ j ih =>
    intro x3 m
    unfold f_X12_lays_16
    refine zk_st R 2 19 [some (.inr (13, 0)), none, none, some (.inl (.int x3))] [.inl (.int (64 : Int32)), .inl (.int x3)] m rfl ⟨trivial, trivial, trivial⟩ ?_
    refine zk_br R rfl (fun _ => ?_) (fun _ => ?_)
    · exact zk_ret R rfl trivial rfl
    · refine zk_gd fun e2 => ?_
      refine zk_gd fun e3 => ?_
      refine zk_gd fun e4 => ?_
      refine zk_st R 27 63 [some (.inr (13, 0)), none, none, some (.inl (.int x3))] [.inl (.int x3), .inl (.int ((195 : Int32) + x3)), .inr (23, 0)] (z_sI (z_sI (z_sI m 23 0 (Int32.toNatClampNeg ((3 : Int32) + x3)) (50 : Int32)) 23 0 (Int32.toNatClampNeg ((67 : Int32) + x3)) (1 : Int32)) 23 0 (Int32.toNatClampNeg ((131 : Int32) + x3)) (0 : Int32)) rfl ⟨trivial, (Nat.le_of_ble_eq_true rfl), trivial, trivial, trivial, trivial, ⟨(Nat.le_of_ble_eq_true rfl), z_inb_in e2⟩, trivial, (Nat.le_of_ble_eq_true rfl), trivial, trivial, trivial, trivial, ⟨(Nat.le_of_ble_eq_true rfl), z_inb_in e3⟩, trivial, (Nat.le_of_ble_eq_true rfl), trivial, trivial, trivial, trivial, ⟨(Nat.le_of_ble_eq_true rfl), z_inb_in e4⟩, trivial, (Nat.le_of_ble_eq_true rfl), trivial, trivial, trivial, trivial, trivial⟩ ?_
      refine zk_br R rfl (fun _ => ?_) (fun _ => ?_)
      · refine zk_st R 2 71 [some (.inr (13, 0)), none, none, some (.inl (.int x3))] [.inl (.int (1 : Int32)), .inl (.int ((195 : Int32) + x3)), .inr (23, 0)] (z_sI (z_sI (z_sI m 23 0 (Int32.toNatClampNeg ((3 : Int32) + x3)) (50 : Int32)) 23 0 (Int32.toNatClampNeg ((67 : Int32) + x3)) (1 : Int32)) 23 0 (Int32.toNatClampNeg ((131 : Int32) + x3)) (0 : Int32)) rfl ⟨trivial, trivial, trivial⟩ ?_
        refine zk_mask R [true, false, false, true] rfl ?_
        exact w_X12_lays_71 d k R (f_X12_lays_16 j) ih x3 ((195 : Int32) + x3) (1 : Int32) (z_sI (z_sI (z_sI m 23 0 (Int32.toNatClampNeg ((3 : Int32) + x3)) (50 : Int32)) 23 0 (Int32.toNatClampNeg ((67 : Int32) + x3)) (1 : Int32)) 23 0 (Int32.toNatClampNeg ((131 : Int32) + x3)) (0 : Int32))
      · refine zk_st R 1 71 [some (.inr (13, 0)), none, none, some (.inl (.int x3))] [.inl (.int (0 : Int32)), .inl (.int ((195 : Int32) + x3)), .inr (23, 0)] (z_sI (z_sI (z_sI m 23 0 (Int32.toNatClampNeg ((3 : Int32) + x3)) (50 : Int32)) 23 0 (Int32.toNatClampNeg ((67 : Int32) + x3)) (1 : Int32)) 23 0 (Int32.toNatClampNeg ((131 : Int32) + x3)) (0 : Int32)) rfl ⟨trivial, trivial⟩ ?_
        refine zk_mask R [true, false, false, true] rfl ?_
        exact w_X12_lays_71 d k R (f_X12_lays_16 j) ih x3 ((195 : Int32) + x3) (0 : Int32) (z_sI (z_sI (z_sI m 23 0 (Int32.toNatClampNeg ((3 : Int32) + x3)) (50 : Int32)) 23 0 (Int32.toNatClampNeg ((67 : Int32) + x3)) (1 : Int32)) 23 0 (Int32.toNatClampNeg ((131 : Int32) + x3)) (0 : Int32))
theorem w_X12_lays (d k : Nat) (x1 : Int32) (x2 : Int32) (m : zM) (a : zM) (ha : f_X12_lays x1 x2 m = some a) : z_Ev z_MT zN zRf (d + 1) (k + 0) 160 [.inr (13, 0), .inl (.int x1), .inl (.int x2)] m ((fun a => (.inl none, a) : zM → zO) a) := by
  refine zk_top (I := (yX12_lays, cX12_lays, 4, none, [], tX12_lays, 13, 2, 13, 0, 0, 0)) (oc := (fun a => (.inl none, a) : zM → zO)) (a := a) rfl (Nat.le_of_ble_eq_true rfl) (fun G R => ?_) ha
  unfold f_X12_lays
  refine zk_gd fun e1 => ?_
  refine zk_gd fun e2 => ?_
  refine zk_st R 12 16 [some (.inr (13, 0)), some (.inl (.int x1)), some (.inl (.int x2)), some (.inl (.int (0 : Int32)))] [] (z_sI (z_sI m 23 0 (Int32.toNatClampNeg (0 : Int32)) x1) 23 0 (Int32.toNatClampNeg (1 : Int32)) x2) rfl ⟨trivial, (Nat.le_of_ble_eq_true rfl), trivial, trivial, ⟨(Nat.le_of_ble_eq_true rfl), z_inb_in e1⟩, trivial, (Nat.le_of_ble_eq_true rfl), trivial, trivial, ⟨(Nat.le_of_ble_eq_true rfl), z_inb_in e2⟩, trivial, trivial, trivial⟩ ?_
  refine zk_mask R [true, false, false, true] rfl ?_
  exact w_X12_lays_16 d k R zF (0 : Int32) (z_sI (z_sI m 23 0 (Int32.toNatClampNeg (0 : Int32)) x1) 23 0 (Int32.toNatClampNeg (1 : Int32)) x2)
theorem r_X12_cells {i : Nat} {t : List zA} (h : i < zN 13) : z_rcv zN (zKD 161) (.inr (13, i) :: t) := by
  rw [show zKD 161 = 13 from rfl]
  exact ⟨rfl, h⟩
noncomputable def f_X12_cells (m : zM) : Option (Int32) :=
  z_gd (z_inb (0 : Int32) (z_alen 23)) <| z_gd (z_inb (1 : Int32) (z_alen 23)) <| some ((m.1 23 0 (Int32.toNatClampNeg (0 : Int32))) * (m.1 23 0 (Int32.toNatClampNeg (1 : Int32))))
theorem w_X12_cells (d k : Nat) (m : zM) (a : Int32) (ha : f_X12_cells m = some a) : z_Ev z_MT zN zRf (d + 1) (k + 0) 161 [.inr (13, 0)] m ((fun a => (z_cI a, m) : Int32 → zO) a) := by
  refine zk_top (I := (yX12_cells, cX12_cells, 1, (some .int), [], tX12_cells, 13, 0, 13, 0, 0, 0)) (oc := (fun a => (z_cI a, m) : Int32 → zO)) (a := a) rfl (Nat.le_of_ble_eq_true rfl) (fun G R => ?_) ha
  unfold f_X12_cells
  refine zk_gd fun e1 => ?_
  refine zk_gd fun e2 => ?_
  refine zk_st R 9 13 [some (.inr (13, 0))] [.inl (.int ((m.1 23 0 (Int32.toNatClampNeg (0 : Int32))) * (m.1 23 0 (Int32.toNatClampNeg (1 : Int32)))))] m rfl ⟨trivial, (Nat.le_of_ble_eq_true rfl), trivial, ⟨(Nat.le_of_ble_eq_true rfl), z_inb_in e1⟩, trivial, (Nat.le_of_ble_eq_true rfl), trivial, ⟨(Nat.le_of_ble_eq_true rfl), z_inb_in e2⟩, trivial, trivial⟩ ?_
  exact zk_ret R rfl trivial rfl
theorem r_X12_height {i : Nat} {t : List zA} (h : i < zN 13) : z_rcv zN (zKD 163) (.inr (13, i) :: t) := by
  rw [show zKD 163 = 13 from rfl]
  exact ⟨rfl, h⟩
noncomputable def f_X12_height (x1 : Int32) (m : zM) : Option (Int32) :=
  z_gd (z_inb ((3 : Int32) + x1) (z_alen 23)) <| some (m.1 23 0 (Int32.toNatClampNeg ((3 : Int32) + x1)))
theorem w_X12_height (d k : Nat) (x1 : Int32) (m : zM) (a : Int32) (ha : f_X12_height x1 m = some a) : z_Ev z_MT zN zRf (d + 1) (k + 0) 163 [.inr (13, 0), .inl (.int x1)] m ((fun a => (z_cI a, m) : Int32 → zO) a) := by
  refine zk_top (I := (yX12_height, cX12_height, 2, (some .int), [], tX12_height, 13, 1, 13, 0, 0, 0)) (oc := (fun a => (z_cI a, m) : Int32 → zO)) (a := a) rfl (Nat.le_of_ble_eq_true rfl) (fun G R => ?_) ha
  unfold f_X12_height
  refine zk_gd fun e1 => ?_
  refine zk_st R 6 8 [some (.inr (13, 0)), some (.inl (.int x1))] [.inl (.int (m.1 23 0 (Int32.toNatClampNeg ((3 : Int32) + x1))))] m rfl ⟨trivial, (Nat.le_of_ble_eq_true rfl), trivial, trivial, trivial, ⟨(Nat.le_of_ble_eq_true rfl), z_inb_in e1⟩, trivial⟩ ?_
  exact zk_ret R rfl trivial rfl
theorem r_X12_isOutlet {i : Nat} {t : List zA} (h : i < zN 13) : z_rcv zN (zKD 164) (.inr (13, i) :: t) := by
  rw [show zKD 164 = 13 from rfl]
  exact ⟨rfl, h⟩
noncomputable def f_X12_isOutlet (x1 : Int32) (m : zM) : Option (Bool) :=
  z_gd (z_inb ((195 : Int32) + x1) (z_alen 23)) <| if (m.1 23 0 (Int32.toNatClampNeg ((195 : Int32) + x1))) = (1 : Int32) then
    some true
  else
    some false
theorem w_X12_isOutlet (d k : Nat) (x1 : Int32) (m : zM) (a : Bool) (ha : f_X12_isOutlet x1 m = some a) : z_Ev z_MT zN zRf (d + 1) (k + 0) 164 [.inr (13, 0), .inl (.int x1)] m ((fun a => (z_cB a, m) : Bool → zO) a) := by
  refine zk_top (I := (yX12_isOutlet, cX12_isOutlet, 2, (some .boolean), [], tX12_isOutlet, 13, 1, 13, 0, 0, 0)) (oc := (fun a => (z_cB a, m) : Bool → zO)) (a := a) rfl (Nat.le_of_ble_eq_true rfl) (fun G R => ?_) ha
  unfold f_X12_isOutlet
  refine zk_gd fun e1 => ?_
  refine zk_st R 7 11 [some (.inr (13, 0)), some (.inl (.int x1))] [.inl (.int (1 : Int32)), .inl (.int (m.1 23 0 (Int32.toNatClampNeg ((195 : Int32) + x1))))] m rfl ⟨trivial, (Nat.le_of_ble_eq_true rfl), trivial, trivial, trivial, ⟨(Nat.le_of_ble_eq_true rfl), z_inb_in e1⟩, trivial, trivial⟩ ?_
  refine zk_br R rfl (fun _ => ?_) (fun _ => ?_)
  · refine zk_st R 2 19 [some (.inr (13, 0)), some (.inl (.int x1))] [.inl (.int (1 : Int32))] m rfl ⟨trivial, trivial, trivial⟩ ?_
    exact zk_ret R rfl (Or.inr rfl) rfl
  · refine zk_st R 1 19 [some (.inr (13, 0)), some (.inl (.int x1))] [.inl (.int (0 : Int32))] m rfl ⟨trivial, trivial⟩ ?_
    exact zk_ret R rfl (Or.inl rfl) rfl
theorem r_X12_next {i : Nat} {t : List zA} (h : i < zN 13) : z_rcv zN (zKD 166) (.inr (13, i) :: t) := by
  rw [show zKD 166 = 13 from rfl]
  exact ⟨rfl, h⟩
noncomputable def f_X12_next (x1 : Int32) (x2 : Int32) (m : zM) : Option (Int32) :=
  z_gd (z_inb (0 : Int32) (z_alen 23)) <| z_gd (z_nz (m.1 23 0 (Int32.toNatClampNeg (0 : Int32)))) <| if x2 = 0 then
    if (x1 / (m.1 23 0 (Int32.toNatClampNeg (0 : Int32)))) ≤ 0 then
      some (-1 : Int32)
    else
      z_gd (z_inb (0 : Int32) (z_alen 23)) <| some (x1 - (m.1 23 0 (Int32.toNatClampNeg (0 : Int32))))
  else
    if x2 = (1 : Int32) then
      z_gd (z_inb (0 : Int32) (z_alen 23)) <| if (m.1 23 0 (Int32.toNatClampNeg (0 : Int32))) ≤ ((z_irem x1 (m.1 23 0 (Int32.toNatClampNeg (0 : Int32)))) + (1 : Int32)) then
        some (-1 : Int32)
      else
        some (x1 + (1 : Int32))
    else
      if x2 = (2 : Int32) then
        z_gd (z_inb (1 : Int32) (z_alen 23)) <| if (m.1 23 0 (Int32.toNatClampNeg (1 : Int32))) ≤ ((x1 / (m.1 23 0 (Int32.toNatClampNeg (0 : Int32)))) + (1 : Int32)) then
          some (-1 : Int32)
        else
          z_gd (z_inb (0 : Int32) (z_alen 23)) <| some (x1 + (m.1 23 0 (Int32.toNatClampNeg (0 : Int32))))
      else
        if (z_irem x1 (m.1 23 0 (Int32.toNatClampNeg (0 : Int32)))) ≤ 0 then
          some (-1 : Int32)
        else
          some (x1 - (1 : Int32))
theorem w_X12_next (d k : Nat) (x1 : Int32) (x2 : Int32) (m : zM) (a : Int32) (ha : f_X12_next x1 x2 m = some a) : z_Ev z_MT zN zRf (d + 1) (k + 0) 166 [.inr (13, 0), .inl (.int x1), .inl (.int x2)] m ((fun a => (z_cI a, m) : Int32 → zO) a) := by
  refine zk_top (I := (yX12_next, cX12_next, 5, (some .int), [], tX12_next, 13, 2, 13, 0, 0, 0)) (oc := (fun a => (z_cI a, m) : Int32 → zO)) (a := a) rfl (Nat.le_of_ble_eq_true rfl) (fun G R => ?_) ha
  unfold f_X12_next
  refine zk_gd fun e1 => ?_
  refine zk_gd fun e2 => ?_
  refine zk_st R 15 20 [some (.inr (13, 0)), some (.inl (.int x1)), some (.inl (.int x2)), some (.inl (.int (z_irem x1 (m.1 23 0 (Int32.toNatClampNeg (0 : Int32)))))), some (.inl (.int (x1 / (m.1 23 0 (Int32.toNatClampNeg (0 : Int32))))))] [.inl (.int x2)] m rfl ⟨trivial, trivial, (Nat.le_of_ble_eq_true rfl), trivial, ⟨(Nat.le_of_ble_eq_true rfl), z_inb_in e1⟩, (z_nz_ne e2), trivial, trivial, trivial, (Nat.le_of_ble_eq_true rfl), trivial, ⟨(Nat.le_of_ble_eq_true rfl), z_inb_in e1⟩, (z_nz_ne e2), trivial, trivial, trivial⟩ ?_
  refine zk_br R rfl (fun _ => ?_) (fun _ => ?_)
  · refine zk_st R 1 25 [some (.inr (13, 0)), some (.inl (.int x1)), some (.inl (.int x2)), some (.inl (.int (z_irem x1 (m.1 23 0 (Int32.toNatClampNeg (0 : Int32)))))), some (.inl (.int (x1 / (m.1 23 0 (Int32.toNatClampNeg (0 : Int32))))))] [.inl (.int (x1 / (m.1 23 0 (Int32.toNatClampNeg (0 : Int32)))))] m rfl ⟨trivial, trivial⟩ ?_
    refine zk_br R rfl (fun _ => ?_) (fun _ => ?_)
    · refine zk_st R 1 40 [some (.inr (13, 0)), some (.inl (.int x1)), some (.inl (.int x2)), some (.inl (.int (z_irem x1 (m.1 23 0 (Int32.toNatClampNeg (0 : Int32)))))), some (.inl (.int (x1 / (m.1 23 0 (Int32.toNatClampNeg (0 : Int32))))))] [.inl (.int (-1 : Int32))] m rfl ⟨trivial, trivial⟩ ?_
      exact zk_ret R rfl trivial rfl
    · refine zk_gd fun e5 => ?_
      refine zk_st R 7 40 [some (.inr (13, 0)), some (.inl (.int x1)), some (.inl (.int x2)), some (.inl (.int (z_irem x1 (m.1 23 0 (Int32.toNatClampNeg (0 : Int32)))))), some (.inl (.int (x1 / (m.1 23 0 (Int32.toNatClampNeg (0 : Int32))))))] [.inl (.int (x1 - (m.1 23 0 (Int32.toNatClampNeg (0 : Int32)))))] m rfl ⟨trivial, trivial, (Nat.le_of_ble_eq_true rfl), trivial, ⟨(Nat.le_of_ble_eq_true rfl), z_inb_in e5⟩, trivial, trivial, trivial⟩ ?_
      exact zk_ret R rfl trivial rfl
  · refine zk_st R 2 43 [some (.inr (13, 0)), some (.inl (.int x1)), some (.inl (.int x2)), some (.inl (.int (z_irem x1 (m.1 23 0 (Int32.toNatClampNeg (0 : Int32)))))), some (.inl (.int (x1 / (m.1 23 0 (Int32.toNatClampNeg (0 : Int32))))))] [.inl (.int (1 : Int32)), .inl (.int x2)] m rfl ⟨trivial, trivial, trivial⟩ ?_
    refine zk_br R rfl (fun _ => ?_) (fun _ => ?_)
    · refine zk_gd fun e7 => ?_
      refine zk_st R 7 55 [some (.inr (13, 0)), some (.inl (.int x1)), some (.inl (.int x2)), some (.inl (.int (z_irem x1 (m.1 23 0 (Int32.toNatClampNeg (0 : Int32)))))), some (.inl (.int (x1 / (m.1 23 0 (Int32.toNatClampNeg (0 : Int32))))))] [.inl (.int (m.1 23 0 (Int32.toNatClampNeg (0 : Int32)))), .inl (.int ((z_irem x1 (m.1 23 0 (Int32.toNatClampNeg (0 : Int32)))) + (1 : Int32)))] m rfl ⟨trivial, trivial, trivial, trivial, (Nat.le_of_ble_eq_true rfl), trivial, ⟨(Nat.le_of_ble_eq_true rfl), z_inb_in e7⟩, trivial⟩ ?_
      refine zk_br R rfl (fun _ => ?_) (fun _ => ?_)
      · refine zk_st R 1 65 [some (.inr (13, 0)), some (.inl (.int x1)), some (.inl (.int x2)), some (.inl (.int (z_irem x1 (m.1 23 0 (Int32.toNatClampNeg (0 : Int32)))))), some (.inl (.int (x1 / (m.1 23 0 (Int32.toNatClampNeg (0 : Int32))))))] [.inl (.int (-1 : Int32))] m rfl ⟨trivial, trivial⟩ ?_
        exact zk_ret R rfl trivial rfl
      · refine zk_st R 4 65 [some (.inr (13, 0)), some (.inl (.int x1)), some (.inl (.int x2)), some (.inl (.int (z_irem x1 (m.1 23 0 (Int32.toNatClampNeg (0 : Int32)))))), some (.inl (.int (x1 / (m.1 23 0 (Int32.toNatClampNeg (0 : Int32))))))] [.inl (.int (x1 + (1 : Int32)))] m rfl ⟨trivial, trivial, trivial, trivial, trivial⟩ ?_
        exact zk_ret R rfl trivial rfl
    · refine zk_st R 2 68 [some (.inr (13, 0)), some (.inl (.int x1)), some (.inl (.int x2)), some (.inl (.int (z_irem x1 (m.1 23 0 (Int32.toNatClampNeg (0 : Int32)))))), some (.inl (.int (x1 / (m.1 23 0 (Int32.toNatClampNeg (0 : Int32))))))] [.inl (.int (2 : Int32)), .inl (.int x2)] m rfl ⟨trivial, trivial, trivial⟩ ?_
      refine zk_br R rfl (fun _ => ?_) (fun _ => ?_)
      · refine zk_gd fun e10 => ?_
        refine zk_st R 7 81 [some (.inr (13, 0)), some (.inl (.int x1)), some (.inl (.int x2)), some (.inl (.int (z_irem x1 (m.1 23 0 (Int32.toNatClampNeg (0 : Int32)))))), some (.inl (.int (x1 / (m.1 23 0 (Int32.toNatClampNeg (0 : Int32))))))] [.inl (.int (m.1 23 0 (Int32.toNatClampNeg (1 : Int32)))), .inl (.int ((x1 / (m.1 23 0 (Int32.toNatClampNeg (0 : Int32)))) + (1 : Int32)))] m rfl ⟨trivial, trivial, trivial, trivial, (Nat.le_of_ble_eq_true rfl), trivial, ⟨(Nat.le_of_ble_eq_true rfl), z_inb_in e10⟩, trivial⟩ ?_
        refine zk_br R rfl (fun _ => ?_) (fun _ => ?_)
        · refine zk_st R 1 96 [some (.inr (13, 0)), some (.inl (.int x1)), some (.inl (.int x2)), some (.inl (.int (z_irem x1 (m.1 23 0 (Int32.toNatClampNeg (0 : Int32)))))), some (.inl (.int (x1 / (m.1 23 0 (Int32.toNatClampNeg (0 : Int32))))))] [.inl (.int (-1 : Int32))] m rfl ⟨trivial, trivial⟩ ?_
          exact zk_ret R rfl trivial rfl
        · refine zk_gd fun e12 => ?_
          refine zk_st R 7 96 [some (.inr (13, 0)), some (.inl (.int x1)), some (.inl (.int x2)), some (.inl (.int (z_irem x1 (m.1 23 0 (Int32.toNatClampNeg (0 : Int32)))))), some (.inl (.int (x1 / (m.1 23 0 (Int32.toNatClampNeg (0 : Int32))))))] [.inl (.int (x1 + (m.1 23 0 (Int32.toNatClampNeg (0 : Int32)))))] m rfl ⟨trivial, trivial, (Nat.le_of_ble_eq_true rfl), trivial, ⟨(Nat.le_of_ble_eq_true rfl), z_inb_in e12⟩, trivial, trivial, trivial⟩ ?_
          exact zk_ret R rfl trivial rfl
      · refine zk_st R 1 98 [some (.inr (13, 0)), some (.inl (.int x1)), some (.inl (.int x2)), some (.inl (.int (z_irem x1 (m.1 23 0 (Int32.toNatClampNeg (0 : Int32)))))), some (.inl (.int (x1 / (m.1 23 0 (Int32.toNatClampNeg (0 : Int32))))))] [.inl (.int (z_irem x1 (m.1 23 0 (Int32.toNatClampNeg (0 : Int32)))))] m rfl ⟨trivial, trivial⟩ ?_
        refine zk_br R rfl (fun _ => ?_) (fun _ => ?_)
        · refine zk_st R 1 108 [some (.inr (13, 0)), some (.inl (.int x1)), some (.inl (.int x2)), some (.inl (.int (z_irem x1 (m.1 23 0 (Int32.toNatClampNeg (0 : Int32)))))), some (.inl (.int (x1 / (m.1 23 0 (Int32.toNatClampNeg (0 : Int32))))))] [.inl (.int (-1 : Int32))] m rfl ⟨trivial, trivial⟩ ?_
          exact zk_ret R rfl trivial rfl
        · refine zk_st R 4 108 [some (.inr (13, 0)), some (.inl (.int x1)), some (.inl (.int x2)), some (.inl (.int (z_irem x1 (m.1 23 0 (Int32.toNatClampNeg (0 : Int32)))))), some (.inl (.int (x1 / (m.1 23 0 (Int32.toNatClampNeg (0 : Int32))))))] [.inl (.int (x1 - (1 : Int32)))] m rfl ⟨trivial, trivial, trivial, trivial, trivial⟩ ?_
          exact zk_ret R rfl trivial rfl
theorem r_X12_changes {i : Nat} {t : List zA} (h : i < zN 13) : z_rcv zN (zKD 167) (.inr (13, i) :: t) := by
  rw [show zKD 167 = 13 from rfl]
  exact ⟨rfl, h⟩
noncomputable def f_X12_changes_52 : Nat → Int32 → zM → Option (zM)
  | 0, _, _ => none
  | j + 1, x1, m =>
    if (259 : Int32) ≤ x1 then
      some (z_sI m 13 0 3 ((m.1 13 0 3) + (1 : Int32)))
    else
      z_gd (z_inb x1 (z_alen 23)) <| z_gd (z_inb (((259 : Int32) * (m.1 13 0 3)) + x1) (z_alen 24)) <| f_X12_changes_52 j (x1 + (1 : Int32)) (z_sI m 24 0 (Int32.toNatClampNeg (((259 : Int32) * (m.1 13 0 3)) + x1)) (m.1 23 0 (Int32.toNatClampNeg x1)))
noncomputable def f_X12_changes_50 (m : zM) : Option (zM) :=
  f_X12_changes_52 zF (0 : Int32) m
noncomputable def f_X12_changes_11 : Nat → Int32 → zM → Option (zM)
  | 0, _, _ => none
  | j + 1, x1, m =>
    if (1813 : Int32) ≤ x1 then
      f_X12_changes_50 (z_sI m 13 0 3 ((m.1 13 0 3) - (1 : Int32)))
    else
      z_gd (z_inb ((259 : Int32) + x1) (z_alen 24)) <| z_gd (z_inb x1 (z_alen 24)) <| f_X12_changes_11 j (x1 + (1 : Int32)) (z_sI m 24 0 (Int32.toNatClampNeg x1) (m.1 24 0 (Int32.toNatClampNeg ((259 : Int32) + x1))))
noncomputable def f_X12_changes (m : zM) : Option (zM) :=
  if (m.1 13 0 3) = (8 : Int32) then
    f_X12_changes_11 zF (0 : Int32) m
  else
    f_X12_changes_50 m
theorem w_X12_changes_52 (d k : Nat) {o : zO} {G : Nat → Nat → zL → List zA → zM → Prop} (R : zRu (d + 0) tX12_changes 0 (z_hf []) o G) : ∀ (j : Nat) (x1 : Int32) (m : zM), zLK G (fun a => (.inl none, a) : zM → zO) o (f_X12_changes_52 j x1 m) some (k + 0) 52 [some (.inr (13, 0)), some (.inl (.int x1))] [] m := by
  intro j
  induction j with
  | zero =>
    intro _ _
    exact zk_none
  | succ j ih =>
    intro x1 m
    unfold f_X12_changes_52
    refine zk_st R 2 56 [some (.inr (13, 0)), some (.inl (.int x1))] [.inl (.int (259 : Int32)), .inl (.int x1)] m rfl ⟨trivial, trivial, trivial⟩ ?_
    refine zk_br R rfl (fun _ => ?_) (fun _ => ?_)
    · refine zk_st R 6 96 [some (.inr (13, 0)), some (.inl (.int x1))] [] (z_sI m 13 0 3 ((m.1 13 0 3) + (1 : Int32))) rfl ⟨trivial, trivial, (Nat.le_of_ble_eq_true rfl), trivial, trivial, (Nat.le_of_ble_eq_true rfl), trivial⟩ ?_
      exact zk_ret R rfl trivial rfl
    · refine zk_gd fun e2 => ?_
      refine zk_gd fun e3 => ?_
      refine zk_st R 15 52 [some (.inr (13, 0)), some (.inl (.int (x1 + (1 : Int32))))] [] (z_sI m 24 0 (Int32.toNatClampNeg (((259 : Int32) * (m.1 13 0 3)) + x1)) (m.1 23 0 (Int32.toNatClampNeg x1))) rfl ⟨trivial, (Nat.le_of_ble_eq_true rfl), trivial, trivial, (Nat.le_of_ble_eq_true rfl), trivial, trivial, trivial, trivial, (Nat.le_of_ble_eq_true rfl), trivial, ⟨(Nat.le_of_ble_eq_true rfl), z_inb_in e2⟩, ⟨(Nat.le_of_ble_eq_true rfl), z_inb_in e3⟩, trivial, trivial, trivial⟩ ?_
      refine zk_mask R [true, true] rfl ?_
      exact ih (x1 + (1 : Int32)) (z_sI m 24 0 (Int32.toNatClampNeg (((259 : Int32) * (m.1 13 0 3)) + x1)) (m.1 23 0 (Int32.toNatClampNeg x1)))
theorem w_X12_changes_50 (d k : Nat) {o : zO} {G : Nat → Nat → zL → List zA → zM → Prop} (R : zRu (d + 0) tX12_changes 0 (z_hf []) o G) (m : zM) : zLK G (fun a => (.inl none, a) : zM → zO) o (f_X12_changes_50 m) some (k + 0) 50 [some (.inr (13, 0)), none] [] m := by
  unfold f_X12_changes_50
  refine zk_st R 2 52 [some (.inr (13, 0)), some (.inl (.int (0 : Int32)))] [] m rfl ⟨trivial, trivial, trivial⟩ ?_
  refine zk_mask R [true, true] rfl ?_
  exact w_X12_changes_52 d k R zF (0 : Int32) m
theorem w_X12_changes_11 (d k : Nat) {o : zO} {G : Nat → Nat → zL → List zA → zM → Prop} (R : zRu (d + 0) tX12_changes 0 (z_hf []) o G) : ∀ (j : Nat) (x1 : Int32) (m : zM), zLK G (fun a => (.inl none, a) : zM → zO) o (f_X12_changes_11 j x1 m) some (k + 0) 11 [some (.inr (13, 0)), some (.inl (.int x1))] [] m := by
  intro j
  induction j with
  | zero =>
    intro _ _
    exact zk_none
  | succ j ih =>
    intro x1 m
    unfold f_X12_changes_11
    refine zk_st R 2 15 [some (.inr (13, 0)), some (.inl (.int x1))] [.inl (.int (1813 : Int32)), .inl (.int x1)] m rfl ⟨trivial, trivial, trivial⟩ ?_
    refine zk_br R rfl (fun _ => ?_) (fun _ => ?_)
    · refine zk_st R 6 50 [some (.inr (13, 0)), some (.inl (.int x1))] [] (z_sI m 13 0 3 ((m.1 13 0 3) - (1 : Int32))) rfl ⟨trivial, trivial, (Nat.le_of_ble_eq_true rfl), trivial, trivial, (Nat.le_of_ble_eq_true rfl), trivial⟩ ?_
      refine zk_mask R [true, false] rfl ?_
      exact w_X12_changes_50 d k R (z_sI m 13 0 3 ((m.1 13 0 3) - (1 : Int32)))
    · refine zk_gd fun e2 => ?_
      refine zk_gd fun e3 => ?_
      refine zk_st R 12 11 [some (.inr (13, 0)), some (.inl (.int (x1 + (1 : Int32))))] [] (z_sI m 24 0 (Int32.toNatClampNeg x1) (m.1 24 0 (Int32.toNatClampNeg ((259 : Int32) + x1)))) rfl ⟨trivial, (Nat.le_of_ble_eq_true rfl), trivial, trivial, (Nat.le_of_ble_eq_true rfl), trivial, trivial, trivial, ⟨(Nat.le_of_ble_eq_true rfl), z_inb_in e2⟩, ⟨(Nat.le_of_ble_eq_true rfl), z_inb_in e3⟩, trivial, trivial, trivial⟩ ?_
      refine zk_mask R [true, true] rfl ?_
      exact ih (x1 + (1 : Int32)) (z_sI m 24 0 (Int32.toNatClampNeg x1) (m.1 24 0 (Int32.toNatClampNeg ((259 : Int32) + x1))))
theorem w_X12_changes (d k : Nat) (m : zM) (a : zM) (ha : f_X12_changes m = some a) : z_Ev z_MT zN zRf (d + 1) (k + 0) 167 [.inr (13, 0)] m ((fun a => (.inl none, a) : zM → zO) a) := by
  refine zk_top (I := (yX12_changes, cX12_changes, 2, none, [], tX12_changes, 13, 0, 13, 0, 0, 0)) (oc := (fun a => (.inl none, a) : zM → zO)) (a := a) rfl (Nat.le_of_ble_eq_true rfl) (fun G R => ?_) ha
  unfold f_X12_changes
  refine zk_st R 3 6 [some (.inr (13, 0)), none] [.inl (.int (8 : Int32)), .inl (.int (m.1 13 0 3))] m rfl ⟨trivial, (Nat.le_of_ble_eq_true rfl), trivial, trivial⟩ ?_
  refine zk_br R rfl (fun _ => ?_) (fun _ => ?_)
  · refine zk_st R 2 11 [some (.inr (13, 0)), some (.inl (.int (0 : Int32)))] [] m rfl ⟨trivial, trivial, trivial⟩ ?_
    refine zk_mask R [true, true] rfl ?_
    exact w_X12_changes_11 d k R zF (0 : Int32) m
  · refine zk_mask R [true, false] rfl ?_
    exact w_X12_changes_50 d k R m
theorem r_X12_isStream {i : Nat} {t : List zA} (h : i < zN 13) : z_rcv zN (zKD 187) (.inr (13, i) :: t) := by
  rw [show zKD 187 = 13 from rfl]
  exact ⟨rfl, h⟩
noncomputable def f_X12_isStream (x1 : Int32) (m : zM) : Option (Bool) :=
  z_gd (z_inb x1 (z_alen 20)) <| z_gd (z_inb (2 : Int32) (z_alen 23)) <| if (m.1 20 63 (Int32.toNatClampNeg x1)) < (m.1 23 0 (Int32.toNatClampNeg (2 : Int32))) then
    some false
  else
    some true
theorem w_X12_isStream (d k : Nat) (x1 : Int32) (m : zM) (a : Bool) (ha : f_X12_isStream x1 m = some a) : z_Ev z_MT zN zRf (d + 1) (k + 0) 187 [.inr (13, 0), .inl (.int x1)] m ((fun a => (z_cB a, m) : Bool → zO) a) := by
  refine zk_top (I := (yX12_isStream, cX12_isStream, 2, (some .boolean), [], tX12_isStream, 13, 1, 13, 0, 0, 0)) (oc := (fun a => (z_cB a, m) : Bool → zO)) (a := a) rfl (Nat.le_of_ble_eq_true rfl) (fun G R => ?_) ha
  unfold f_X12_isStream
  refine zk_gd fun e1 => ?_
  refine zk_gd fun e2 => ?_
  refine zk_st R 8 12 [some (.inr (13, 0)), some (.inl (.int x1))] [.inl (.int (m.1 23 0 (Int32.toNatClampNeg (2 : Int32)))), .inl (.int (m.1 20 63 (Int32.toNatClampNeg x1)))] m rfl ⟨trivial, (Nat.le_of_ble_eq_true rfl), trivial, ⟨(Nat.le_of_ble_eq_true rfl), z_inb_in e1⟩, trivial, (Nat.le_of_ble_eq_true rfl), trivial, ⟨(Nat.le_of_ble_eq_true rfl), z_inb_in e2⟩, trivial⟩ ?_
  refine zk_br R rfl (fun _ => ?_) (fun _ => ?_)
  · refine zk_st R 1 20 [some (.inr (13, 0)), some (.inl (.int x1))] [.inl (.int (0 : Int32))] m rfl ⟨trivial, trivial⟩ ?_
    exact zk_ret R rfl (Or.inl rfl) rfl
  · refine zk_st R 2 20 [some (.inr (13, 0)), some (.inl (.int x1))] [.inl (.int (1 : Int32))] m rfl ⟨trivial, trivial, trivial⟩ ?_
    exact zk_ret R rfl (Or.inr rfl) rfl
theorem r_X12_lowest {i : Nat} {t : List zA} (h : i < zN 13) : z_rcv zN (zKD 204) (.inr (13, i) :: t) := by
  rw [show zKD 204 = 13 from rfl]
  exact ⟨rfl, h⟩
noncomputable def f_X12_lowest_2 (m : zM) : Nat → Int32 → Int32 → Option (Int32)
  | 0, _, _ => none
  | j + 1, x1, x2 =>
    z_gd (z_inb x2 (z_alen 20)) <| if (m.1 20 65 (Int32.toNatClampNeg x2)) = x1 then
      some x2
    else
      f_X12_lowest_2 m j x1 (x2 + (1 : Int32))
noncomputable def f_X12_lowest (x1 : Int32) (m : zM) : Option (Int32) :=
  f_X12_lowest_2 m zF x1 (0 : Int32)
theorem w_X12_lowest_2 (d k : Nat) {o : zO} {G : Nat → Nat → zL → List zA → zM → Prop} (m : zM) (R : zRu (d + 0) tX12_lowest 0 (z_hf []) o G) : ∀ (j : Nat) (x1 : Int32) (x2 : Int32), zLK G (fun a => (z_cI a, m) : Int32 → zO) o (f_X12_lowest_2 m j x1 x2) some (k + 0) 2 [some (.inr (13, 0)), some (.inl (.int x1)), some (.inl (.int x2))] [] m := by
  intro j
  induction j with
  | zero =>
    intro _ _
    exact zk_none
  | succ j ih =>
    intro x1 x2
    unfold f_X12_lowest_2
    refine zk_gd fun e1 => ?_
    refine zk_st R 5 9 [some (.inr (13, 0)), some (.inl (.int x1)), some (.inl (.int x2))] [.inl (.int x1), .inl (.int (m.1 20 65 (Int32.toNatClampNeg x2)))] m rfl ⟨trivial, (Nat.le_of_ble_eq_true rfl), trivial, ⟨(Nat.le_of_ble_eq_true rfl), z_inb_in e1⟩, trivial, trivial⟩ ?_
    refine zk_br R rfl (fun _ => ?_) (fun _ => ?_)
    · refine zk_st R 1 19 [some (.inr (13, 0)), some (.inl (.int x1)), some (.inl (.int x2))] [.inl (.int x2)] m rfl ⟨trivial, trivial⟩ ?_
      exact zk_ret R rfl trivial rfl
    · refine zk_st R 2 2 [some (.inr (13, 0)), some (.inl (.int x1)), some (.inl (.int (x2 + (1 : Int32))))] [] m rfl ⟨trivial, trivial, trivial⟩ ?_
      refine zk_mask R [true, true, true] rfl ?_
      exact ih x1 (x2 + (1 : Int32))
theorem w_X12_lowest (d k : Nat) (x1 : Int32) (m : zM) (a : Int32) (ha : f_X12_lowest x1 m = some a) : z_Ev z_MT zN zRf (d + 1) (k + 0) 204 [.inr (13, 0), .inl (.int x1)] m ((fun a => (z_cI a, m) : Int32 → zO) a) := by
  refine zk_top (I := (yX12_lowest, cX12_lowest, 3, (some .int), [], tX12_lowest, 13, 1, 13, 0, 0, 0)) (oc := (fun a => (z_cI a, m) : Int32 → zO)) (a := a) rfl (Nat.le_of_ble_eq_true rfl) (fun G R => ?_) ha
  unfold f_X12_lowest
  refine zk_st R 2 2 [some (.inr (13, 0)), some (.inl (.int x1)), some (.inl (.int (0 : Int32)))] [] m rfl ⟨trivial, trivial, trivial⟩ ?_
  refine zk_mask R [true, true, true] rfl ?_
  exact w_X12_lowest_2 d k m R zF x1 (0 : Int32)
theorem r_X12_children {i : Nat} {t : List zA} (h : i < zN 13) : z_rcv zN (zKD 230) (.inr (13, i) :: t) := by
  rw [show zKD 230 = 13 from rfl]
  exact ⟨rfl, h⟩
noncomputable def f_X12_children_4 (m : zM) : Nat → Int32 → Int32 → Int32 → Option (Int32)
  | 0, _, _, _ => none
  | j + 1, x1, x2, x3 =>
    if (m.1 13 0 21) ≤ x3 then
      some x2
    else
      z_gd (z_inb x3 (z_alen 21)) <| if (m.1 21 5 (Int32.toNatClampNeg x3)) = x1 then
        f_X12_children_4 m j x1 (x2 + (1 : Int32)) (x3 + (1 : Int32))
      else
        f_X12_children_4 m j x1 x2 (x3 + (1 : Int32))
noncomputable def f_X12_children (x1 : Int32) (m : zM) : Option (Int32) :=
  f_X12_children_4 m zF x1 (0 : Int32) (0 : Int32)
theorem w_X12_children_4 (d k : Nat) {o : zO} {G : Nat → Nat → zL → List zA → zM → Prop} (m : zM) (R : zRu (d + 0) tX12_children 0 (z_hf []) o G) : ∀ (j : Nat) (x1 : Int32) (x2 : Int32) (x3 : Int32), zLK G (fun a => (z_cI a, m) : Int32 → zO) o (f_X12_children_4 m j x1 x2 x3) some (k + 0) 4 [some (.inr (13, 0)), some (.inl (.int x1)), some (.inl (.int x2)), some (.inl (.int x3))] [] m := by
  intro j
  induction j with
  | zero =>
    intro _ _ _
    exact zk_none
  | succ j ih =>
    intro x1 x2 x3
    unfold f_X12_children_4
    refine zk_st R 3 9 [some (.inr (13, 0)), some (.inl (.int x1)), some (.inl (.int x2)), some (.inl (.int x3))] [.inl (.int (m.1 13 0 21)), .inl (.int x3)] m rfl ⟨trivial, trivial, (Nat.le_of_ble_eq_true rfl), trivial⟩ ?_
    refine zk_br R rfl (fun _ => ?_) (fun _ => ?_)
    · refine zk_st R 1 32 [some (.inr (13, 0)), some (.inl (.int x1)), some (.inl (.int x2)), some (.inl (.int x3))] [.inl (.int x2)] m rfl ⟨trivial, trivial⟩ ?_
      exact zk_ret R rfl trivial rfl
    · refine zk_gd fun e2 => ?_
      refine zk_st R 5 19 [some (.inr (13, 0)), some (.inl (.int x1)), some (.inl (.int x2)), some (.inl (.int x3))] [.inl (.int x1), .inl (.int (m.1 21 5 (Int32.toNatClampNeg x3)))] m rfl ⟨trivial, (Nat.le_of_ble_eq_true rfl), trivial, ⟨(Nat.le_of_ble_eq_true rfl), z_inb_in e2⟩, trivial, trivial⟩ ?_
      refine zk_br R rfl (fun _ => ?_) (fun _ => ?_)
      · refine zk_st R 3 4 [some (.inr (13, 0)), some (.inl (.int x1)), some (.inl (.int (x2 + (1 : Int32)))), some (.inl (.int (x3 + (1 : Int32))))] [] m rfl ⟨trivial, trivial, trivial, trivial⟩ ?_
        refine zk_mask R [true, true, true, true] rfl ?_
        exact ih x1 (x2 + (1 : Int32)) (x3 + (1 : Int32))
      · refine zk_st R 2 4 [some (.inr (13, 0)), some (.inl (.int x1)), some (.inl (.int x2)), some (.inl (.int (x3 + (1 : Int32))))] [] m rfl ⟨trivial, trivial, trivial⟩ ?_
        refine zk_mask R [true, true, true, true] rfl ?_
        exact ih x1 x2 (x3 + (1 : Int32))
theorem w_X12_children (d k : Nat) (x1 : Int32) (m : zM) (a : Int32) (ha : f_X12_children x1 m = some a) : z_Ev z_MT zN zRf (d + 1) (k + 0) 230 [.inr (13, 0), .inl (.int x1)] m ((fun a => (z_cI a, m) : Int32 → zO) a) := by
  refine zk_top (I := (yX12_children, cX12_children, 4, (some .int), [], tX12_children, 13, 1, 13, 0, 0, 0)) (oc := (fun a => (z_cI a, m) : Int32 → zO)) (a := a) rfl (Nat.le_of_ble_eq_true rfl) (fun G R => ?_) ha
  unfold f_X12_children
  refine zk_st R 4 4 [some (.inr (13, 0)), some (.inl (.int x1)), some (.inl (.int (0 : Int32))), some (.inl (.int (0 : Int32)))] [] m rfl ⟨trivial, trivial, trivial, trivial, trivial⟩ ?_
  refine zk_mask R [true, true, true, true] rfl ?_
  exact w_X12_children_4 d k m R zF x1 (0 : Int32) (0 : Int32)
theorem r_X12_here {i : Nat} {t : List zA} (h : i < zN 13) : z_rcv zN (zKD 247) (.inr (13, i) :: t) := by
  rw [show zKD 247 = 13 from rfl]
  exact ⟨rfl, h⟩
noncomputable def f_X12_here (m : zM) : Option (Int32) :=
  if (m.1 13 0 8) ≤ (m.1 13 0 9) then
    some (0 : Int32)
  else
    z_gd (z_inb (m.1 13 0 9) (z_alen 25)) <| some (m.1 25 0 (Int32.toNatClampNeg (m.1 13 0 9)))
theorem w_X12_here (d k : Nat) (m : zM) (a : Int32) (ha : f_X12_here m = some a) : z_Ev z_MT zN zRf (d + 1) (k + 0) 247 [.inr (13, 0)] m ((fun a => (z_cI a, m) : Int32 → zO) a) := by
  refine zk_top (I := (yX12_here, cX12_here, 1, (some .int), [], tX12_here, 13, 0, 13, 0, 0, 0)) (oc := (fun a => (z_cI a, m) : Int32 → zO)) (a := a) rfl (Nat.le_of_ble_eq_true rfl) (fun G R => ?_) ha
  unfold f_X12_here
  refine zk_st R 4 8 [some (.inr (13, 0))] [.inl (.int (m.1 13 0 8)), .inl (.int (m.1 13 0 9))] m rfl ⟨trivial, (Nat.le_of_ble_eq_true rfl), trivial, (Nat.le_of_ble_eq_true rfl), trivial⟩ ?_
  refine zk_br R rfl (fun _ => ?_) (fun _ => ?_)
  · refine zk_st R 1 24 [some (.inr (13, 0))] [.inl (.int (0 : Int32))] m rfl ⟨trivial, trivial⟩ ?_
    exact zk_ret R rfl trivial rfl
  · refine zk_gd fun e2 => ?_
    refine zk_st R 6 24 [some (.inr (13, 0))] [.inl (.int (m.1 25 0 (Int32.toNatClampNeg (m.1 13 0 9))))] m rfl ⟨trivial, (Nat.le_of_ble_eq_true rfl), trivial, (Nat.le_of_ble_eq_true rfl), ⟨(Nat.le_of_ble_eq_true rfl), z_inb_in e2⟩, trivial, trivial⟩ ?_
    exact zk_ret R rfl trivial rfl
theorem r_J13_numberOfTrailingZeros_95d88 {as : List zA} : z_rcv zN (zKD 1) as := by
  rw [show zKD 1 = 0 from rfl]
  trivial
noncomputable def f_J13_numberOfTrailingZeros_95d88 (x0 : Int64) (m : zM) : Option (Int32) :=
  if (Int64.toInt32 x0) = 0 then
    Option.bind (f_J6_numberOfTrailingZeros_0f7a4 (Int64.toInt32 (z_ushr x0 (32 : Int32))) m) fun r2 =>
    some ((32 : Int32) + r2)
  else
    Option.bind (f_J6_numberOfTrailingZeros_0f7a4 (Int64.toInt32 x0) m) fun r3 =>
    some r3
theorem w_J13_numberOfTrailingZeros_95d88 (d k : Nat) (x0 : Int64) (m : zM) (a : Int32) (ha : f_J13_numberOfTrailingZeros_95d88 x0 m = some a) : z_Ev z_MT zN zRf (d + 2) (k + 0) 1 [.inl (.long x0)] m ((fun a => (z_cI a, m) : Int32 → zO) a) := by
  refine zk_top (I := (yJ13_numberOfTrailingZeros_95d88, cJ13_numberOfTrailingZeros_95d88, 3, (some .int), [], tJ13_numberOfTrailingZeros_95d88, 0, 1, 14, 0, 0, 0)) (oc := (fun a => (z_cI a, m) : Int32 → zO)) (a := a) rfl (Nat.le_of_ble_eq_true rfl) (fun G R => ?_) ha
  unfold f_J13_numberOfTrailingZeros_95d88
  refine zk_st R 4 4 [some (.inl (.long x0)), none, some (.inl (.int (Int64.toInt32 x0)))] [.inl (.int (Int64.toInt32 x0))] m rfl ⟨trivial, trivial, trivial, trivial, trivial⟩ ?_
  refine zk_br R rfl (fun _ => ?_) (fun _ => ?_)
  · refine zk_st R 5 14 [some (.inl (.long x0)), none, some (.inl (.int (Int64.toInt32 x0)))] [.inl (.int (Int64.toInt32 (z_ushr x0 (32 : Int32)))), .inl (.int (32 : Int32))] m rfl ⟨trivial, trivial, trivial, trivial, trivial, trivial⟩ ?_
    refine zk_call R (fun b => some (.inl (.int b))) (fun _ => m) rfl (r_J6_numberOfTrailingZeros_0f7a4) (fun b hb => w_J6_numberOfTrailingZeros_0f7a4 d 0 (Int64.toInt32 (z_ushr x0 (32 : Int32))) m b hb) (fun r2 => ?_)
    refine zk_st R 2 25 [some (.inl (.long x0)), none, some (.inl (.int (Int64.toInt32 x0)))] [.inl (.int ((32 : Int32) + r2))] m rfl ⟨trivial, trivial, trivial⟩ ?_
    exact zk_ret R rfl trivial rfl
  · refine zk_st R 1 22 [some (.inl (.long x0)), none, some (.inl (.int (Int64.toInt32 x0)))] [.inl (.int (Int64.toInt32 x0))] m rfl ⟨trivial, trivial⟩ ?_
    refine zk_call R (fun b => some (.inl (.int b))) (fun _ => m) rfl (r_J6_numberOfTrailingZeros_0f7a4) (fun b hb => w_J6_numberOfTrailingZeros_0f7a4 d 0 (Int64.toInt32 x0) m b hb) (fun r3 => ?_)
    exact zk_ret R rfl trivial rfl
theorem r_X7_sum {as : List zA} : z_rcv zN (zKD 14) as := by
  rw [show zKD 14 = 0 from rfl]
  trivial
noncomputable def f_X7_sum_5 (k0 i0 : Nat) (m : zM) : Nat → Int64 → Int32 → Int32 → Option (Int32)
  | 0, _, _, _ => none
  | j + 1, x1, x3, x4 =>
    if (Int32.ofNat (z_alen k0)) ≤ x4 then
      some x3
    else
      Option.bind (f_X7_has x1 x4 m) fun r2 =>
      if (z_bi r2) = 0 then
        f_X7_sum_5 k0 i0 m j x1 x3 (x4 + (1 : Int32))
      else
        z_gd (z_inb x4 (z_alen k0)) <| f_X7_sum_5 k0 i0 m j x1 (x3 + (m.1 k0 i0 (Int32.toNatClampNeg x4))) (x4 + (1 : Int32))
noncomputable def f_X7_sum (k0 i0 : Nat) (x1 : Int64) (m : zM) : Option (Int32) :=
  f_X7_sum_5 k0 i0 m zF x1 (0 : Int32) (0 : Int32)
theorem w_X7_sum_5_k20 (d k : Nat) {o : zO} {G : Nat → Nat → zL → List zA → zM → Prop} (i0 : Nat) (hi0 : i0 < zN 20) (m : zM) (R : zRu (d + 1) tX7_sum 0 (z_hf []) o G) : ∀ (j : Nat) (x1 : Int64) (x3 : Int32) (x4 : Int32), zLK G (fun a => (z_cI a, m) : Int32 → zO) o (f_X7_sum_5 20 i0 m j x1 x3 x4) some (k + 0) 5 [some (.inr (20, i0)), some (.inl (.long x1)), none, some (.inl (.int x3)), some (.inl (.int x4))] [] m := by
  intro j
  induction j with
  | zero =>
    intro _ _ _
    exact zk_none
  | succ j ih =>
    intro x1 x3 x4
    unfold f_X7_sum_5
    refine zk_st R 3 9 [some (.inr (20, i0)), some (.inl (.long x1)), none, some (.inl (.int x3)), some (.inl (.int x4))] [.inl (.int (Int32.ofNat (z_alen 20))), .inl (.int x4)] m rfl ⟨trivial, trivial, hi0, trivial⟩ ?_
    refine zk_br R rfl (fun _ => ?_) (fun _ => ?_)
    · refine zk_st R 1 35 [some (.inr (20, i0)), some (.inl (.long x1)), none, some (.inl (.int x3)), some (.inl (.int x4))] [.inl (.int x3)] m rfl ⟨trivial, trivial⟩ ?_
      exact zk_ret R rfl trivial rfl
    · refine zk_st R 2 15 [some (.inr (20, i0)), some (.inl (.long x1)), none, some (.inl (.int x3)), some (.inl (.int x4))] [.inl (.int x4), .inl (.long x1)] m rfl ⟨trivial, trivial, trivial⟩ ?_
      refine zk_call R (fun b => some (.inl (.int (z_bi b)))) (fun _ => m) rfl (r_X7_has) (fun b hb => w_X7_has d 0 x1 x4 m b hb) (fun r2 => ?_)
      refine zk_br R rfl (fun _ => ?_) (fun _ => ?_)
      · refine zk_st R 2 5 [some (.inr (20, i0)), some (.inl (.long x1)), none, some (.inl (.int x3)), some (.inl (.int (x4 + (1 : Int32))))] [] m rfl ⟨trivial, trivial, trivial⟩ ?_
        refine zk_mask R [true, true, false, true, true] rfl ?_
        exact ih x1 x3 (x4 + (1 : Int32))
      · refine zk_gd fun e4 => ?_
        refine zk_st R 8 5 [some (.inr (20, i0)), some (.inl (.long x1)), none, some (.inl (.int (x3 + (m.1 20 i0 (Int32.toNatClampNeg x4))))), some (.inl (.int (x4 + (1 : Int32))))] [] m rfl ⟨trivial, trivial, trivial, ⟨hi0, z_inb_in e4⟩, trivial, trivial, trivial, trivial, trivial⟩ ?_
        refine zk_mask R [true, true, false, true, true] rfl ?_
        exact ih x1 (x3 + (m.1 20 i0 (Int32.toNatClampNeg x4))) (x4 + (1 : Int32))
theorem w_X7_sum_k20 (d k : Nat) (i0 : Nat) (hi0 : i0 < zN 20) (x1 : Int64) (m : zM) (a : Int32) (ha : f_X7_sum 20 i0 x1 m = some a) : z_Ev z_MT zN zRf (d + 2) (k + 0) 14 [.inr (20, i0), .inl (.long x1)] m ((fun a => (z_cI a, m) : Int32 → zO) a) := by
  refine zk_top (I := (yX7_sum, cX7_sum, 5, (some .int), [], tX7_sum, 0, 2, 1, 0, 0, 0)) (oc := (fun a => (z_cI a, m) : Int32 → zO)) (a := a) rfl (Nat.le_of_ble_eq_true rfl) (fun G R => ?_) ha
  unfold f_X7_sum
  refine zk_st R 4 5 [some (.inr (20, i0)), some (.inl (.long x1)), none, some (.inl (.int (0 : Int32))), some (.inl (.int (0 : Int32)))] [] m rfl ⟨trivial, trivial, trivial, trivial, trivial⟩ ?_
  refine zk_mask R [true, true, false, true, true] rfl ?_
  exact w_X7_sum_5_k20 d k i0 hi0 m R zF x1 (0 : Int32) (0 : Int32)
theorem r_X7_greatest {as : List zA} : z_rcv zN (zKD 15) as := by
  rw [show zKD 15 = 0 from rfl]
  trivial
noncomputable def f_X7_greatest_5 (k0 i0 : Nat) (m : zM) : Nat → Int64 → Int32 → Int32 → Option (Int32)
  | 0, _, _, _ => none
  | j + 1, x1, x3, x4 =>
    if (Int32.ofNat (z_alen k0)) ≤ x4 then
      some x3
    else
      Option.bind (f_X7_has x1 x4 m) fun r2 =>
      if (z_bi r2) = 0 then
        f_X7_greatest_5 k0 i0 m j x1 x3 (x4 + (1 : Int32))
      else
        z_gd (z_inb x4 (z_alen k0)) <| if (m.1 k0 i0 (Int32.toNatClampNeg x4)) ≤ x3 then
          f_X7_greatest_5 k0 i0 m j x1 x3 (x4 + (1 : Int32))
        else
          z_gd (z_inb x4 (z_alen k0)) <| f_X7_greatest_5 k0 i0 m j x1 (m.1 k0 i0 (Int32.toNatClampNeg x4)) (x4 + (1 : Int32))
noncomputable def f_X7_greatest (k0 i0 : Nat) (x1 : Int64) (m : zM) : Option (Int32) :=
  f_X7_greatest_5 k0 i0 m zF x1 (0 : Int32) (0 : Int32)
theorem w_X7_greatest_5_k20 (d k : Nat) {o : zO} {G : Nat → Nat → zL → List zA → zM → Prop} (i0 : Nat) (hi0 : i0 < zN 20) (m : zM) (R : zRu (d + 1) tX7_greatest 0 (z_hf []) o G) : ∀ (j : Nat) (x1 : Int64) (x3 : Int32) (x4 : Int32), zLK G (fun a => (z_cI a, m) : Int32 → zO) o (f_X7_greatest_5 20 i0 m j x1 x3 x4) some (k + 0) 5 [some (.inr (20, i0)), some (.inl (.long x1)), none, some (.inl (.int x3)), some (.inl (.int x4))] [] m := by
  intro j
  induction j with
  | zero =>
    intro _ _ _
    exact zk_none
  | succ j ih =>
    intro x1 x3 x4
    unfold f_X7_greatest_5
    refine zk_st R 3 9 [some (.inr (20, i0)), some (.inl (.long x1)), none, some (.inl (.int x3)), some (.inl (.int x4))] [.inl (.int (Int32.ofNat (z_alen 20))), .inl (.int x4)] m rfl ⟨trivial, trivial, hi0, trivial⟩ ?_
    refine zk_br R rfl (fun _ => ?_) (fun _ => ?_)
    · refine zk_st R 1 41 [some (.inr (20, i0)), some (.inl (.long x1)), none, some (.inl (.int x3)), some (.inl (.int x4))] [.inl (.int x3)] m rfl ⟨trivial, trivial⟩ ?_
      exact zk_ret R rfl trivial rfl
    · refine zk_st R 2 15 [some (.inr (20, i0)), some (.inl (.long x1)), none, some (.inl (.int x3)), some (.inl (.int x4))] [.inl (.int x4), .inl (.long x1)] m rfl ⟨trivial, trivial, trivial⟩ ?_
      refine zk_call R (fun b => some (.inl (.int (z_bi b)))) (fun _ => m) rfl (r_X7_has) (fun b hb => w_X7_has d 0 x1 x4 m b hb) (fun r2 => ?_)
      refine zk_br R rfl (fun _ => ?_) (fun _ => ?_)
      · refine zk_st R 2 5 [some (.inr (20, i0)), some (.inl (.long x1)), none, some (.inl (.int x3)), some (.inl (.int (x4 + (1 : Int32))))] [] m rfl ⟨trivial, trivial, trivial⟩ ?_
        refine zk_mask R [true, true, false, true, true] rfl ?_
        exact ih x1 x3 (x4 + (1 : Int32))
      · refine zk_gd fun e4 => ?_
        refine zk_st R 4 26 [some (.inr (20, i0)), some (.inl (.long x1)), none, some (.inl (.int x3)), some (.inl (.int x4))] [.inl (.int x3), .inl (.int (m.1 20 i0 (Int32.toNatClampNeg x4)))] m rfl ⟨trivial, trivial, ⟨hi0, z_inb_in e4⟩, trivial, trivial⟩ ?_
        refine zk_br R rfl (fun _ => ?_) (fun _ => ?_)
        · refine zk_st R 2 5 [some (.inr (20, i0)), some (.inl (.long x1)), none, some (.inl (.int x3)), some (.inl (.int (x4 + (1 : Int32))))] [] m rfl ⟨trivial, trivial, trivial⟩ ?_
          refine zk_mask R [true, true, false, true, true] rfl ?_
          exact ih x1 x3 (x4 + (1 : Int32))
        · refine zk_gd fun e6 => ?_
          refine zk_st R 6 5 [some (.inr (20, i0)), some (.inl (.long x1)), none, some (.inl (.int (m.1 20 i0 (Int32.toNatClampNeg x4)))), some (.inl (.int (x4 + (1 : Int32))))] [] m rfl ⟨trivial, trivial, ⟨hi0, z_inb_in e6⟩, trivial, trivial, trivial, trivial⟩ ?_
          refine zk_mask R [true, true, false, true, true] rfl ?_
          exact ih x1 (m.1 20 i0 (Int32.toNatClampNeg x4)) (x4 + (1 : Int32))
theorem w_X7_greatest_k20 (d k : Nat) (i0 : Nat) (hi0 : i0 < zN 20) (x1 : Int64) (m : zM) (a : Int32) (ha : f_X7_greatest 20 i0 x1 m = some a) : z_Ev z_MT zN zRf (d + 2) (k + 0) 15 [.inr (20, i0), .inl (.long x1)] m ((fun a => (z_cI a, m) : Int32 → zO) a) := by
  refine zk_top (I := (yX7_greatest, cX7_greatest, 5, (some .int), [], tX7_greatest, 0, 2, 1, 0, 0, 0)) (oc := (fun a => (z_cI a, m) : Int32 → zO)) (a := a) rfl (Nat.le_of_ble_eq_true rfl) (fun G R => ?_) ha
  unfold f_X7_greatest
  refine zk_st R 4 5 [some (.inr (20, i0)), some (.inl (.long x1)), none, some (.inl (.int (0 : Int32))), some (.inl (.int (0 : Int32)))] [] m rfl ⟨trivial, trivial, trivial, trivial, trivial⟩ ?_
  refine zk_mask R [true, true, false, true, true] rfl ?_
  exact w_X7_greatest_5_k20 d k i0 hi0 m R zF x1 (0 : Int32) (0 : Int32)
theorem r_X7_lowest {as : List zA} : z_rcv zN (zKD 17) as := by
  rw [show zKD 17 = 0 from rfl]
  trivial
noncomputable def f_X7_lowest (x0 : Int64) (m : zM) : Option (Int32) :=
  Option.bind (f_J13_bitCount_95d88 ((x0 ^^^ (-1 : Int64)) &&& (x0 - (1 : Int64))) m) fun r1 =>
  some r1
theorem w_X7_lowest (d k : Nat) (x0 : Int64) (m : zM) (a : Int32) (ha : f_X7_lowest x0 m = some a) : z_Ev z_MT zN zRf (d + 2) (k + 0) 17 [.inl (.long x0)] m ((fun a => (z_cI a, m) : Int32 → zO) a) := by
  refine zk_top (I := (yX7_lowest, cX7_lowest, 2, (some .int), [], tX7_lowest, 0, 1, 1, 0, 0, 0)) (oc := (fun a => (z_cI a, m) : Int32 → zO)) (a := a) rfl (Nat.le_of_ble_eq_true rfl) (fun G R => ?_) ha
  unfold f_X7_lowest
  refine zk_st R 7 9 [some (.inl (.long x0)), none] [.inl (.long ((x0 ^^^ (-1 : Int64)) &&& (x0 - (1 : Int64))))] m rfl ⟨trivial, trivial, trivial, trivial, trivial, trivial, trivial, trivial⟩ ?_
  refine zk_call R (fun b => some (.inl (.int b))) (fun _ => m) rfl (r_J13_bitCount_95d88) (fun b hb => w_J13_bitCount_95d88 d 0 ((x0 ^^^ (-1 : Int64)) &&& (x0 - (1 : Int64))) m b hb) (fun r1 => ?_)
  exact zk_ret R rfl trivial rfl
theorem r_X4_startAfresh {i : Nat} {t : List zA} (h : i < zN 6) : z_rcv zN (zKD 18) (.inr (6, i) :: t) := by
  rw [show zKD 18 = 6 from rfl]
  exact ⟨rfl, h⟩
noncomputable def f_X4_startAfresh (g0 : Nat) (x1 : Int32) (x2 : Int32) (m : zM) : Option (zM) :=
  Option.bind (f_J7_fill_53178 20 (3 * g0) (50 : Int32) (z_sL (z_sI (z_sI m 6 g0 0 x1) 6 g0 1 x2) 6 g0 3 (1 : Int64))) fun r1 =>
  Option.bind (f_J7_fill_53178 20 (3 * g0 + 1) (1 : Int32) r1) fun r2 =>
  Option.bind (f_J7_fill_53178 20 (3 * g0 + 2) (0 : Int32) r2) fun r3 =>
  some r3
theorem w_X4_startAfresh (d k : Nat) (g0 : Nat) (hg0 : g0 < zN 6) (x1 : Int32) (x2 : Int32) (m : zM) (a : zM) (ha : f_X4_startAfresh g0 x1 x2 m = some a) : z_Ev z_MT zN zRf (d + 2) (k + 0) 18 [.inr (6, g0), .inl (.int x1), .inl (.int x2)] m ((fun a => (.inl none, a) : zM → zO) a) := by
  refine zk_top (I := (yX4_startAfresh, cX4_startAfresh, 3, none, [], tX4_startAfresh, 6, 2, 6, 0, 0, 0)) (oc := (fun a => (.inl none, a) : zM → zO)) (a := a) rfl (Nat.le_of_ble_eq_true rfl) (fun G R => ?_) ha
  unfold f_X4_startAfresh
  refine zk_st R 12 21 [some (.inr (6, g0)), some (.inl (.int x1)), some (.inl (.int x2))] [.inl (.int (50 : Int32)), .inr (20, 3 * g0)] (z_sL (z_sI (z_sI m 6 g0 0 x1) 6 g0 1 x2) 6 g0 3 (1 : Int64)) rfl ⟨trivial, trivial, hg0, trivial, trivial, hg0, trivial, trivial, hg0, trivial, hg0, trivial, trivial⟩ ?_
  refine zk_call R (fun _ => none) id rfl (r_J7_fill_53178) (fun b hb => w_J7_fill_53178_k20 d 0 (3 * g0) (z_g0 hg0) (50 : Int32) (z_sL (z_sI (z_sI m 6 g0 0 x1) 6 g0 1 x2) 6 g0 3 (1 : Int64)) b hb) (fun r1 => ?_)
  refine zk_st R 3 29 [some (.inr (6, g0)), some (.inl (.int x1)), some (.inl (.int x2))] [.inl (.int (1 : Int32)), .inr (20, 3 * g0 + 1)] r1 rfl ⟨trivial, hg0, trivial, trivial⟩ ?_
  refine zk_call R (fun _ => none) id rfl (r_J7_fill_53178) (fun b hb => w_J7_fill_53178_k20 d 0 (3 * g0 + 1) (z_g1 hg0) (1 : Int32) r1 b hb) (fun r2 => ?_)
  refine zk_st R 3 37 [some (.inr (6, g0)), some (.inl (.int x1)), some (.inl (.int x2))] [.inl (.int (0 : Int32)), .inr (20, 3 * g0 + 2)] r2 rfl ⟨trivial, hg0, trivial, trivial⟩ ?_
  refine zk_call R (fun _ => none) id rfl (r_J7_fill_53178) (fun b hb => w_J7_fill_53178_k20 d 0 (3 * g0 + 2) (z_g2 hg0) (0 : Int32) r2 b hb) (fun r3 => ?_)
  exact zk_ret R rfl trivial rfl
theorem r_X4_copyFrom {i : Nat} {t : List zA} (h : i < zN 6) : z_rcv zN (zKD 19) (.inr (6, i) :: t) := by
  rw [show zKD 19 = 6 from rfl]
  exact ⟨rfl, h⟩
noncomputable def f_X4_copyFrom (g0 : Nat) (g1 : Nat) (m : zM) : Option (zM) :=
  Option.bind (f_X7_copy 20 (3 * g1) 20 (3 * g0) (z_sL (z_sI (z_sI (z_sI m 6 g0 0 (m.1 6 g1 0)) 6 g0 1 ((z_sI m 6 g0 0 (m.1 6 g1 0)).1 6 g1 1)) 6 g0 2 ((z_sI (z_sI m 6 g0 0 (m.1 6 g1 0)) 6 g0 1 ((z_sI m 6 g0 0 (m.1 6 g1 0)).1 6 g1 1)).1 6 g1 2)) 6 g0 3 ((z_sI (z_sI (z_sI m 6 g0 0 (m.1 6 g1 0)) 6 g0 1 ((z_sI m 6 g0 0 (m.1 6 g1 0)).1 6 g1 1)) 6 g0 2 ((z_sI (z_sI m 6 g0 0 (m.1 6 g1 0)) 6 g0 1 ((z_sI m 6 g0 0 (m.1 6 g1 0)).1 6 g1 1)).1 6 g1 2)).2.1 6 g1 3))) fun r1 =>
  Option.bind (f_X7_copy 20 (3 * g1 + 1) 20 (3 * g0 + 1) r1) fun r2 =>
  Option.bind (f_X7_copy 20 (3 * g1 + 2) 20 (3 * g0 + 2) r2) fun r3 =>
  some r3
theorem w_X4_copyFrom (d k : Nat) (g0 : Nat) (g1 : Nat) (hg0 : g0 < zN 6) (hg1 : g1 < zN 6) (m : zM) (a : zM) (ha : f_X4_copyFrom g0 g1 m = some a) : z_Ev z_MT zN zRf (d + 2) (k + 0) 19 [.inr (6, g0), .inr (6, g1)] m ((fun a => (.inl none, a) : zM → zO) a) := by
  refine zk_top (I := (yX4_copyFrom, cX4_copyFrom, 2, none, [], tX4_copyFrom, 6, 1, 6, 0, 0, 0)) (oc := (fun a => (.inl none, a) : zM → zO)) (a := a) rfl (Nat.le_of_ble_eq_true rfl) (fun G R => ?_) ha
  unfold f_X4_copyFrom
  refine zk_st R 20 40 [some (.inr (6, g0)), some (.inr (6, g1))] [.inr (20, 3 * g0), .inr (20, 3 * g1)] (z_sL (z_sI (z_sI (z_sI m 6 g0 0 (m.1 6 g1 0)) 6 g0 1 ((z_sI m 6 g0 0 (m.1 6 g1 0)).1 6 g1 1)) 6 g0 2 ((z_sI (z_sI m 6 g0 0 (m.1 6 g1 0)) 6 g0 1 ((z_sI m 6 g0 0 (m.1 6 g1 0)).1 6 g1 1)).1 6 g1 2)) 6 g0 3 ((z_sI (z_sI (z_sI m 6 g0 0 (m.1 6 g1 0)) 6 g0 1 ((z_sI m 6 g0 0 (m.1 6 g1 0)).1 6 g1 1)) 6 g0 2 ((z_sI (z_sI m 6 g0 0 (m.1 6 g1 0)) 6 g0 1 ((z_sI m 6 g0 0 (m.1 6 g1 0)).1 6 g1 1)).1 6 g1 2)).2.1 6 g1 3)) rfl ⟨trivial, trivial, hg1, hg0, trivial, trivial, hg1, hg0, trivial, trivial, hg1, hg0, trivial, trivial, hg1, hg0, trivial, hg1, trivial, hg0, trivial⟩ ?_
  refine zk_call R (fun _ => none) id rfl (r_X7_copy) (fun b hb => w_X7_copy_k20_20 d 0 (3 * g1) (3 * g0) (z_g0 hg1) (z_g0 hg0) (z_sL (z_sI (z_sI (z_sI m 6 g0 0 (m.1 6 g1 0)) 6 g0 1 ((z_sI m 6 g0 0 (m.1 6 g1 0)).1 6 g1 1)) 6 g0 2 ((z_sI (z_sI m 6 g0 0 (m.1 6 g1 0)) 6 g0 1 ((z_sI m 6 g0 0 (m.1 6 g1 0)).1 6 g1 1)).1 6 g1 2)) 6 g0 3 ((z_sI (z_sI (z_sI m 6 g0 0 (m.1 6 g1 0)) 6 g0 1 ((z_sI m 6 g0 0 (m.1 6 g1 0)).1 6 g1 1)) 6 g0 2 ((z_sI (z_sI m 6 g0 0 (m.1 6 g1 0)) 6 g0 1 ((z_sI m 6 g0 0 (m.1 6 g1 0)).1 6 g1 1)).1 6 g1 2)).2.1 6 g1 3)) b hb) (fun r1 => ?_)
  refine zk_st R 4 51 [some (.inr (6, g0)), some (.inr (6, g1))] [.inr (20, 3 * g0 + 1), .inr (20, 3 * g1 + 1)] r1 rfl ⟨trivial, hg1, trivial, hg0, trivial⟩ ?_
  refine zk_call R (fun _ => none) id rfl (r_X7_copy) (fun b hb => w_X7_copy_k20_20 d 0 (3 * g1 + 1) (3 * g0 + 1) (z_g1 hg1) (z_g1 hg0) r1 b hb) (fun r2 => ?_)
  refine zk_st R 4 62 [some (.inr (6, g0)), some (.inr (6, g1))] [.inr (20, 3 * g0 + 2), .inr (20, 3 * g1 + 2)] r2 rfl ⟨trivial, hg1, trivial, hg0, trivial⟩ ?_
  refine zk_call R (fun _ => none) id rfl (r_X7_copy) (fun b hb => w_X7_copy_k20_20 d 0 (3 * g1 + 2) (3 * g0 + 2) (z_g2 hg1) (z_g2 hg0) r2 b hb) (fun r3 => ?_)
  exact zk_ret R rfl trivial rfl
theorem r_X4_all {i : Nat} {t : List zA} (h : i < zN 6) : z_rcv zN (zKD 21) (.inr (6, i) :: t) := by
  rw [show zKD 21 = 6 from rfl]
  exact ⟨rfl, h⟩
noncomputable def f_X4_all (g0 : Nat) (m : zM) : Option (Int64) :=
  Option.bind (f_X4_size g0 m) fun r1 =>
  some (z_ushr (-1 : Int64) ((64 : Int32) - r1))
theorem w_X4_all (d k : Nat) (g0 : Nat) (hg0 : g0 < zN 6) (m : zM) (a : Int64) (ha : f_X4_all g0 m = some a) : z_Ev z_MT zN zRf (d + 2) (k + 0) 21 [.inr (6, g0)] m ((fun a => (z_cL a, m) : Int64 → zO) a) := by
  refine zk_top (I := (yX4_all, cX4_all, 1, (some .long), [], tX4_all, 6, 0, 6, 0, 0, 0)) (oc := (fun a => (z_cL a, m) : Int64 → zO)) (a := a) rfl (Nat.le_of_ble_eq_true rfl) (fun G R => ?_) ha
  unfold f_X4_all
  refine zk_st R 3 6 [some (.inr (6, g0))] [.inr (6, g0), .inl (.int (64 : Int32)), .inl (.long (-1 : Int64))] m rfl ⟨trivial, trivial, trivial, trivial⟩ ?_
  refine zk_call R (fun b => some (.inl (.int b))) (fun _ => m) rfl (r_X4_size hg0) (fun b hb => w_X4_size d 0 g0 hg0 m b hb) (fun r1 => ?_)
  refine zk_st R 2 11 [some (.inr (6, g0))] [.inl (.long (z_ushr (-1 : Int64) ((64 : Int32) - r1)))] m rfl ⟨trivial, trivial, trivial⟩ ?_
  exact zk_ret R rfl trivial rfl
theorem r_X4_isOutlet {i : Nat} {t : List zA} (h : i < zN 6) : z_rcv zN (zKD 22) (.inr (6, i) :: t) := by
  rw [show zKD 22 = 6 from rfl]
  exact ⟨rfl, h⟩
noncomputable def f_X4_isOutlet (g0 : Nat) (x1 : Int32) (m : zM) : Option (Bool) :=
  Option.bind (f_X7_has (m.2.1 6 g0 3) x1 m) fun r1 =>
  some r1
theorem w_X4_isOutlet (d k : Nat) (g0 : Nat) (hg0 : g0 < zN 6) (x1 : Int32) (m : zM) (a : Bool) (ha : f_X4_isOutlet g0 x1 m = some a) : z_Ev z_MT zN zRf (d + 2) (k + 0) 22 [.inr (6, g0), .inl (.int x1)] m ((fun a => (z_cB a, m) : Bool → zO) a) := by
  refine zk_top (I := (yX4_isOutlet, cX4_isOutlet, 2, (some .boolean), [], tX4_isOutlet, 6, 1, 6, 0, 0, 0)) (oc := (fun a => (z_cB a, m) : Bool → zO)) (a := a) rfl (Nat.le_of_ble_eq_true rfl) (fun G R => ?_) ha
  unfold f_X4_isOutlet
  refine zk_st R 3 5 [some (.inr (6, g0)), some (.inl (.int x1))] [.inl (.int x1), .inl (.long (m.2.1 6 g0 3))] m rfl ⟨trivial, hg0, trivial, trivial⟩ ?_
  refine zk_call R (fun b => some (.inl (.int (z_bi b)))) (fun _ => m) rfl (r_X7_has) (fun b hb => w_X7_has d 0 (m.2.1 6 g0 3) x1 m b hb) (fun r1 => ?_)
  exact zk_ret R rfl (z_bi01 _) rfl
theorem r_X4_neighbor {i : Nat} {t : List zA} (h : i < zN 6) : z_rcv zN (zKD 27) (.inr (6, i) :: t) := by
  rw [show zKD 27 = 6 from rfl]
  exact ⟨rfl, h⟩
noncomputable def f_X4_neighbor (g0 : Nat) (x1 : Int32) (x2 : Int32) (m : zM) : Option (Int32) :=
  if x2 = (0 : Int32) then
    if x1 < (m.1 6 g0 0) then
      some (-1 : Int32)
    else
      some (x1 - (m.1 6 g0 0))
  else if x2 = (1 : Int32) then
    Option.bind (f_X4_columnOf g0 x1 m) fun r4 =>
    if ((m.1 6 g0 0) - (1 : Int32)) ≤ r4 then
      some (-1 : Int32)
    else
      some (x1 + (1 : Int32))
  else if x2 = (2 : Int32) then
    Option.bind (f_X4_size g0 m) fun r7 =>
    if r7 ≤ (x1 + (m.1 6 g0 0)) then
      some (-1 : Int32)
    else
      some (x1 + (m.1 6 g0 0))
  else
    Option.bind (f_X4_columnOf g0 x1 m) fun r9 =>
    if r9 ≤ 0 then
      some (-1 : Int32)
    else
      some (x1 - (1 : Int32))
theorem w_X4_neighbor (d k : Nat) (g0 : Nat) (hg0 : g0 < zN 6) (x1 : Int32) (x2 : Int32) (m : zM) (a : Int32) (ha : f_X4_neighbor g0 x1 x2 m = some a) : z_Ev z_MT zN zRf (d + 2) (k + 0) 27 [.inr (6, g0), .inl (.int x1), .inl (.int x2)] m ((fun a => (z_cI a, m) : Int32 → zO) a) := by
  refine zk_top (I := (yX4_neighbor, cX4_neighbor, 3, (some .int), [], tX4_neighbor, 6, 2, 6, 0, 0, 0)) (oc := (fun a => (z_cI a, m) : Int32 → zO)) (a := a) rfl (Nat.le_of_ble_eq_true rfl) (fun G R => ?_) ha
  unfold f_X4_neighbor
  refine zk_st R 1 1 [some (.inr (6, g0)), some (.inl (.int x1)), some (.inl (.int x2))] [.inl (.int x2)] m rfl ⟨trivial, trivial⟩ ?_
  refine zk_if (fun e1 => ?_) (fun e1 => ?_)
  · refine zk_tsw R rfl (z_swv e1 (by decide +kernel : _ = 28)) ?_
    refine zk_st R 3 33 [some (.inr (6, g0)), some (.inl (.int x1)), some (.inl (.int x2))] [.inl (.int (m.1 6 g0 0)), .inl (.int x1)] m rfl ⟨trivial, trivial, hg0, trivial⟩ ?_
    refine zk_br R rfl (fun _ => ?_) (fun _ => ?_)
    · refine zk_st R 1 46 [some (.inr (6, g0)), some (.inl (.int x1)), some (.inl (.int x2))] [.inl (.int (-1 : Int32))] m rfl ⟨trivial, trivial⟩ ?_
      exact zk_ret R rfl trivial rfl
    · refine zk_st R 5 46 [some (.inr (6, g0)), some (.inl (.int x1)), some (.inl (.int x2))] [.inl (.int (x1 - (m.1 6 g0 0)))] m rfl ⟨trivial, trivial, hg0, trivial, trivial, trivial⟩ ?_
      exact zk_ret R rfl trivial rfl
  refine zk_if (fun e3 => ?_) (fun e3 => ?_)
  · refine zk_tsw R rfl (z_swv e3 (by decide +kernel : _ = 47)) ?_
    refine zk_st R 2 49 [some (.inr (6, g0)), some (.inl (.int x1)), some (.inl (.int x2))] [.inl (.int x1), .inr (6, g0)] m rfl ⟨trivial, trivial, trivial⟩ ?_
    refine zk_call R (fun b => some (.inl (.int b))) (fun _ => m) rfl (r_X4_columnOf hg0) (fun b hb => w_X4_columnOf d 0 g0 hg0 x1 m b hb) (fun r4 => ?_)
    refine zk_st R 4 58 [some (.inr (6, g0)), some (.inl (.int x1)), some (.inl (.int x2))] [.inl (.int ((m.1 6 g0 0) - (1 : Int32))), .inl (.int r4)] m rfl ⟨trivial, hg0, trivial, trivial, trivial⟩ ?_
    refine zk_br R rfl (fun _ => ?_) (fun _ => ?_)
    · refine zk_st R 1 68 [some (.inr (6, g0)), some (.inl (.int x1)), some (.inl (.int x2))] [.inl (.int (-1 : Int32))] m rfl ⟨trivial, trivial⟩ ?_
      exact zk_ret R rfl trivial rfl
    · refine zk_st R 4 68 [some (.inr (6, g0)), some (.inl (.int x1)), some (.inl (.int x2))] [.inl (.int (x1 + (1 : Int32)))] m rfl ⟨trivial, trivial, trivial, trivial, trivial⟩ ?_
      exact zk_ret R rfl trivial rfl
  refine zk_if (fun e6 => ?_) (fun e6 => ?_)
  · refine zk_tsw R rfl (z_swv e6 (by decide +kernel : _ = 69)) ?_
    refine zk_st R 5 76 [some (.inr (6, g0)), some (.inl (.int x1)), some (.inl (.int x2))] [.inr (6, g0), .inl (.int (x1 + (m.1 6 g0 0)))] m rfl ⟨trivial, trivial, hg0, trivial, trivial, trivial⟩ ?_
    refine zk_call R (fun b => some (.inl (.int b))) (fun _ => m) rfl (r_X4_size hg0) (fun b hb => w_X4_size d 0 g0 hg0 m b hb) (fun r7 => ?_)
    refine zk_br R rfl (fun _ => ?_) (fun _ => ?_)
    · refine zk_st R 1 92 [some (.inr (6, g0)), some (.inl (.int x1)), some (.inl (.int x2))] [.inl (.int (-1 : Int32))] m rfl ⟨trivial, trivial⟩ ?_
      exact zk_ret R rfl trivial rfl
    · refine zk_st R 5 92 [some (.inr (6, g0)), some (.inl (.int x1)), some (.inl (.int x2))] [.inl (.int (x1 + (m.1 6 g0 0)))] m rfl ⟨trivial, trivial, hg0, trivial, trivial, trivial⟩ ?_
      exact zk_ret R rfl trivial rfl
  refine zk_tsw R rfl (z_swd 3 (by decide) (fun i hi => ?_) (by decide : _ = 93)) ?_
  · have hi' : i = 0 ∨ i = 1 ∨ i = 2 := by omega
    rcases hi' with rfl | rfl | rfl
    · exact e1
    · exact e3
    · exact e6
  · refine zk_st R 2 95 [some (.inr (6, g0)), some (.inl (.int x1)), some (.inl (.int x2))] [.inl (.int x1), .inr (6, g0)] m rfl ⟨trivial, trivial, trivial⟩ ?_
    refine zk_call R (fun b => some (.inl (.int b))) (fun _ => m) rfl (r_X4_columnOf hg0) (fun b hb => w_X4_columnOf d 0 g0 hg0 x1 m b hb) (fun r9 => ?_)
    refine zk_br R rfl (fun _ => ?_) (fun _ => ?_)
    · refine zk_st R 1 108 [some (.inr (6, g0)), some (.inl (.int x1)), some (.inl (.int x2))] [.inl (.int (-1 : Int32))] m rfl ⟨trivial, trivial⟩ ?_
      exact zk_ret R rfl trivial rfl
    · refine zk_st R 4 108 [some (.inr (6, g0)), some (.inl (.int x1)), some (.inl (.int x2))] [.inl (.int (x1 - (1 : Int32)))] m rfl ⟨trivial, trivial, trivial, trivial, trivial⟩ ?_
      exact zk_ret R rfl trivial rfl
