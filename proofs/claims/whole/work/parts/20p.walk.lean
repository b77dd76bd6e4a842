theorem r_X12_bestWay {i : Nat} {t : List zA} (h : i < zN 13) : z_rcv zN (zKD 202) (.inr (13, i) :: t) := by
  rw [show zKD 202 = 13 from rfl]
  exact ⟨rfl, h⟩
noncomputable def f_X12_bestWay_206 (c195 : Int32 → Int32 → zM → Option (zM)) : Nat → Int32 → Int32 → Int32 → zM → Option (zM)
  | 0, _, _, _, _ => none
  | j + 1, x2, x3, x4, m =>
    Option.bind (f_X12_goesBy x3 x2 x4 m) fun r1 =>
    Option.bind (f_X12_worth x3 x2 m) fun r2 =>
    if r1 = r2 then
      Option.bind (f_X12_next x3 x4 m) fun r4 =>
      Option.bind (f_X12_height r4 m) fun r5 =>
      Option.bind (f_J9_min_7cf53 x2 r5 m) fun r6 =>
      z_gd (z_inb (m.1 13 0 29) (z_alen 27)) <| c195 r6 r4 (z_sI (z_sI m 13 0 29 ((m.1 13 0 29) + (1 : Int32))) 27 0 (Int32.toNatClampNeg (m.1 13 0 29)) r4)
    else
      f_X12_bestWay_206 c195 j x2 x3 (x4 + (1 : Int32)) m
noncomputable def f_X12_bestWay_195 : Nat → Int32 → Int32 → zM → Option (zM)
  | 0, _, _, _ => none
  | j + 1, x2, x3, m =>
    Option.bind (f_X12_isOutlet x3 m) fun r1 =>
    if (z_bi r1) = 0 then
      f_X12_bestWay_206 (f_X12_bestWay_195 j) zF x2 x3 (0 : Int32) m
    else
      some m
noncomputable def f_X12_bestWay_75 (c2 : Int32 → Int32 → zM → Option (zM)) (c42 : Int32 → Int32 → Int32 → zM → Option (zM)) (c51 : Int32 → Int32 → Int32 → Int32 → zM → Option (zM)) : Nat → Int32 → Int32 → Int32 → Int32 → Int32 → zM → Option (zM)
  | 0, _, _, _, _, _, _ => none
  | j + 1, x1, x2, x3, x4, x5, m =>
    if (4 : Int32) ≤ x5 then
      c51 x1 x2 x3 (x4 + (1 : Int32)) m
    else
      Option.bind (f_X12_goesBy x4 x2 x5 m) fun r2 =>
      z_gd (z_inb (((64 : Int32) * x2) + x4) (z_alen 26)) <| if r2 < (m.1 26 0 (Int32.toNatClampNeg (((64 : Int32) * x2) + x4))) then
        z_gd (z_inb (((64 : Int32) * x2) + x4) (z_alen 26)) <| f_X12_bestWay_75 c2 c42 c51 j x1 x2 (1 : Int32) x4 (x5 + (1 : Int32)) (z_sI m 26 0 (Int32.toNatClampNeg (((64 : Int32) * x2) + x4)) r2)
      else
        f_X12_bestWay_75 c2 c42 c51 j x1 x2 x3 x4 (x5 + (1 : Int32)) m
noncomputable def f_X12_bestWay_51 (c2 : Int32 → Int32 → zM → Option (zM)) (c42 : Int32 → Int32 → Int32 → zM → Option (zM)) : Nat → Int32 → Int32 → Int32 → Int32 → zM → Option (zM)
  | 0, _, _, _, _, _ => none
  | j + 1, x1, x2, x3, x4, m =>
    Option.bind (f_X12_cells m) fun r1 =>
    if r1 ≤ x4 then
      c42 x1 x2 x3 m
    else
      Option.bind (f_X12_isOutlet x4 m) fun r3 =>
      if (z_bi r3) = 0 then
        f_X12_bestWay_75 c2 c42 (f_X12_bestWay_51 c2 c42 j) zF x1 x2 x3 x4 (0 : Int32) m
      else
        f_X12_bestWay_51 c2 c42 j x1 x2 x3 (x4 + (1 : Int32)) m
noncomputable def f_X12_bestWay_42 (c2 : Int32 → Int32 → zM → Option (zM)) : Nat → Int32 → Int32 → Int32 → zM → Option (zM)
  | 0, _, _, _, _ => none
  | j + 1, x1, x2, x3, m =>
    if x3 = 0 then
      c2 x1 (x2 + (1 : Int32)) m
    else
      f_X12_bestWay_51 c2 (f_X12_bestWay_42 c2 j) zF x1 x2 (0 : Int32) (0 : Int32) m
noncomputable def f_X12_bestWay_13 (c2 : Int32 → Int32 → zM → Option (zM)) : Nat → Int32 → Int32 → Int32 → zM → Option (zM)
  | 0, _, _, _, _ => none
  | j + 1, x1, x2, x3, m =>
    Option.bind (f_X12_cells m) fun r1 =>
    if r1 ≤ x3 then
      f_X12_bestWay_42 c2 zF x1 x2 (1 : Int32) m
    else
      z_gd (z_inb (((64 : Int32) * x2) + x3) (z_alen 26)) <| f_X12_bestWay_13 c2 j x1 x2 (x3 + (1 : Int32)) (z_sI m 26 0 (Int32.toNatClampNeg (((64 : Int32) * x2) + x3)) (1000000 : Int32))
noncomputable def f_X12_bestWay_2 : Nat → Int32 → Int32 → zM → Option (zM)
  | 0, _, _, _ => none
  | j + 1, x1, x2, m =>
    Option.bind (f_X12_height x1 m) fun r1 =>
    if r1 < x2 then
      Option.bind (f_X12_height x1 m) fun r3 =>
      Option.bind (f_X12_worth x1 r3 m) fun r4 =>
      z_gd (z_nz (128 : Int32)) <| z_gd (z_inb ((z_sI (z_sI m 13 0 30 ((r4 - (1 : Int32)) / (128 : Int32))) 13 0 29 (0 : Int32)).1 13 0 29) (z_alen 27)) <| f_X12_bestWay_195 zF r3 x1 (z_sI (z_sI (z_sI (z_sI m 13 0 30 ((r4 - (1 : Int32)) / (128 : Int32))) 13 0 29 (0 : Int32)) 13 0 29 (((z_sI (z_sI m 13 0 30 ((r4 - (1 : Int32)) / (128 : Int32))) 13 0 29 (0 : Int32)).1 13 0 29) + (1 : Int32))) 27 0 (Int32.toNatClampNeg ((z_sI (z_sI m 13 0 30 ((r4 - (1 : Int32)) / (128 : Int32))) 13 0 29 (0 : Int32)).1 13 0 29)) x1)
    else
      f_X12_bestWay_13 (f_X12_bestWay_2 j) zF x1 x2 (0 : Int32) m
noncomputable def f_X12_bestWay (x1 : Int32) (m : zM) : Option (zM) :=
  f_X12_bestWay_2 zF x1 (0 : Int32) m
theorem w_X12_bestWay_206 (d k : Nat) {o : zO} {G : Nat → Nat → zL → List zA → zM → Prop} (R : zRu (d + 3) tX12_bestWay 0 (z_hf []) o G) (c195 : Int32 → Int32 → zM → Option (zM)) (hc195 : ∀ (x2 : Int32) (x3 : Int32) (m : zM), zLK G (fun a => (.inl none, a) : zM → zO) o (c195 x2 x3 m) some (k + 0) 195 [some (.inr (13, 0)), none, some (.inl (.int x2)), some (.inl (.int x3)), none, none, none] [] m) : ∀ (j : Nat) (x2 : Int32) (x3 : Int32) (x4 : Int32) (m : zM), zLK G (fun a => (.inl none, a) : zM → zO) o (f_X12_bestWay_206 c195 j x2 x3 x4 m) some (k + 0) 206 [some (.inr (13, 0)), none, some (.inl (.int x2)), some (.inl (.int x3)), some (.inl (.int x4)), none, none] [] m := by
  intro j
  induction j with
  | zero =>
    intro _ _ _ _
    exact zk_none
  | succ j ih =>
    intro x2 x3 x4 m
    unfold f_X12_bestWay_206
    refine zk_st R 4 211 [some (.inr (13, 0)), none, some (.inl (.int x2)), some (.inl (.int x3)), some (.inl (.int x4)), none, none] [.inl (.int x4), .inl (.int x2), .inl (.int x3), .inr (13, 0)] m rfl ⟨trivial, trivial, trivial, trivial, trivial⟩ ?_
    refine zk_call R (fun b => some (.inl (.int b))) (fun _ => m) rfl (r_X12_goesBy (Nat.le_of_ble_eq_true rfl)) (fun b hb => w_X12_goesBy d 0 x3 x2 x4 m b hb) (fun r1 => ?_)
    refine zk_st R 3 217 [some (.inr (13, 0)), none, some (.inl (.int x2)), some (.inl (.int x3)), some (.inl (.int x4)), none, none] [.inl (.int x2), .inl (.int x3), .inr (13, 0), .inl (.int r1)] m rfl ⟨trivial, trivial, trivial, trivial⟩ ?_
    refine zk_call R (fun b => some (.inl (.int b))) (fun _ => m) rfl (r_X12_worth (Nat.le_of_ble_eq_true rfl)) (fun b hb => w_X12_worth (d + 1) 0 x3 x2 m b hb) (fun r2 => ?_)
    refine zk_br R rfl (fun _ => ?_) (fun _ => ?_)
    · refine zk_st R 3 233 [some (.inr (13, 0)), none, some (.inl (.int x2)), some (.inl (.int x3)), some (.inl (.int x4)), none, none] [.inl (.int x4), .inl (.int x3), .inr (13, 0)] m rfl ⟨trivial, trivial, trivial, trivial⟩ ?_
      refine zk_call R (fun b => some (.inl (.int b))) (fun _ => m) rfl (r_X12_next (Nat.le_of_ble_eq_true rfl)) (fun b hb => w_X12_next (d + 2) 0 x3 x4 m b hb) (fun r4 => ?_)
      refine zk_st R 4 240 [some (.inr (13, 0)), none, some (.inl (.int x2)), some (.inl (.int r4)), some (.inl (.int x4)), none, none] [.inl (.int r4), .inr (13, 0), .inl (.int x2)] m rfl ⟨trivial, trivial, trivial, trivial, trivial⟩ ?_
      refine zk_call R (fun b => some (.inl (.int b))) (fun _ => m) rfl (r_X12_height (Nat.le_of_ble_eq_true rfl)) (fun b hb => w_X12_height (d + 2) 0 r4 m b hb) (fun r5 => ?_)
      refine zk_call R (fun b => some (.inl (.int b))) (fun _ => m) rfl (r_J9_min_7cf53) (fun b hb => w_J9_min_7cf53 (d + 2) 0 x2 r5 m b hb) (fun r6 => ?_)
      refine zk_gd fun e7 => ?_
      refine zk_st R 13 195 [some (.inr (13, 0)), none, some (.inl (.int r6)), some (.inl (.int r4)), some (.inl (.int x4)), none, none] [] (z_sI (z_sI m 13 0 29 ((m.1 13 0 29) + (1 : Int32))) 27 0 (Int32.toNatClampNeg (m.1 13 0 29)) r4) rfl ⟨trivial, trivial, (Nat.le_of_ble_eq_true rfl), trivial, trivial, (Nat.le_of_ble_eq_true rfl), trivial, trivial, trivial, (Nat.le_of_ble_eq_true rfl), trivial, ⟨(Nat.le_of_ble_eq_true rfl), z_inb_in e7⟩, trivial, trivial⟩ ?_
      refine zk_mask R [true, false, true, true, false, false, false] rfl ?_
      exact hc195 r6 r4 (z_sI (z_sI m 13 0 29 ((m.1 13 0 29) + (1 : Int32))) 27 0 (Int32.toNatClampNeg (m.1 13 0 29)) r4)
    · refine zk_st R 2 206 [some (.inr (13, 0)), none, some (.inl (.int x2)), some (.inl (.int x3)), some (.inl (.int (x4 + (1 : Int32)))), none, none] [] m rfl ⟨trivial, trivial, trivial⟩ ?_
      refine zk_mask R [true, false, true, true, true, false, false] rfl ?_
      exact ih x2 x3 (x4 + (1 : Int32)) m
theorem w_X12_bestWay_195 (d k : Nat) {o : zO} {G : Nat → Nat → zL → List zA → zM → Prop} (R : zRu (d + 3) tX12_bestWay 0 (z_hf []) o G) : ∀ (j : Nat) (x2 : Int32) (x3 : Int32) (m : zM), zLK G (fun a => (.inl none, a) : zM → zO) o (f_X12_bestWay_195 j x2 x3 m) some (k + 0) 195 [some (.inr (13, 0)), none, some (.inl (.int x2)), some (.inl (.int x3)), none, none, none] [] m := by
  intro j
  induction j with
  | zero =>
    intro _ _ _
    exact zk_none
  | succ j ih =>
    intro x2 x3 m
    unfold f_X12_bestWay_195
    refine zk_st R 2 197 [some (.inr (13, 0)), none, some (.inl (.int x2)), some (.inl (.int x3)), none, none, none] [.inl (.int x3), .inr (13, 0)] m rfl ⟨trivial, trivial, trivial⟩ ?_
    refine zk_call R (fun b => some (.inl (.int (z_bi b)))) (fun _ => m) rfl (r_X12_isOutlet (Nat.le_of_ble_eq_true rfl)) (fun b hb => w_X12_isOutlet (d + 2) 0 x3 m b hb) (fun r1 => ?_)
    refine zk_br R rfl (fun _ => ?_) (fun _ => ?_)
    · refine zk_st R 2 206 [some (.inr (13, 0)), none, some (.inl (.int x2)), some (.inl (.int x3)), some (.inl (.int (0 : Int32))), none, none] [] m rfl ⟨trivial, trivial, trivial⟩ ?_
      refine zk_mask R [true, false, true, true, true, false, false] rfl ?_
      exact w_X12_bestWay_206 d k R (f_X12_bestWay_195 j) ih zF x2 x3 (0 : Int32) m
    · exact zk_ret R rfl trivial rfl
theorem w_X12_bestWay_75 (d k : Nat) {o : zO} {G : Nat → Nat → zL → List zA → zM → Prop} (R : zRu (d + 3) tX12_bestWay 0 (z_hf []) o G) (c2 : Int32 → Int32 → zM → Option (zM)) (c42 : Int32 → Int32 → Int32 → zM → Option (zM)) (c51 : Int32 → Int32 → Int32 → Int32 → zM → Option (zM)) (hc2 : ∀ (x1 : Int32) (x2 : Int32) (m : zM), zLK G (fun a => (.inl none, a) : zM → zO) o (c2 x1 x2 m) some (k + 0) 2 [some (.inr (13, 0)), some (.inl (.int x1)), some (.inl (.int x2)), none, none, none, none] [] m) (hc42 : ∀ (x1 : Int32) (x2 : Int32) (x3 : Int32) (m : zM), zLK G (fun a => (.inl none, a) : zM → zO) o (c42 x1 x2 x3 m) some (k + 0) 42 [some (.inr (13, 0)), some (.inl (.int x1)), some (.inl (.int x2)), some (.inl (.int x3)), none, none, none] [] m) (hc51 : ∀ (x1 : Int32) (x2 : Int32) (x3 : Int32) (x4 : Int32) (m : zM), zLK G (fun a => (.inl none, a) : zM → zO) o (c51 x1 x2 x3 x4 m) some (k + 0) 51 [some (.inr (13, 0)), some (.inl (.int x1)), some (.inl (.int x2)), some (.inl (.int x3)), some (.inl (.int x4)), none, none] [] m) : ∀ (j : Nat) (x1 : Int32) (x2 : Int32) (x3 : Int32) (x4 : Int32) (x5 : Int32) (m : zM), zLK G (fun a => (.inl none, a) : zM → zO) o (f_X12_bestWay_75 c2 c42 c51 j x1 x2 x3 x4 x5 m) some (k + 0) 75 [some (.inr (13, 0)), some (.inl (.int x1)), some (.inl (.int x2)), some (.inl (.int x3)), some (.inl (.int x4)), some (.inl (.int x5)), none] [] m := by
  intro j
  induction j with
  | zero =>
    intro _ _ _ _ _ _
    exact zk_none
  | succ j ih =>
    intro x1 x2 x3 x4 x5 m
    unfold f_X12_bestWay_75
    refine zk_st R 2 78 [some (.inr (13, 0)), some (.inl (.int x1)), some (.inl (.int x2)), some (.inl (.int x3)), some (.inl (.int x4)), some (.inl (.int x5)), none] [.inl (.int (4 : Int32)), .inl (.int x5)] m rfl ⟨trivial, trivial, trivial⟩ ?_
    refine zk_br R rfl (fun _ => ?_) (fun _ => ?_)
    · refine zk_st R 2 51 [some (.inr (13, 0)), some (.inl (.int x1)), some (.inl (.int x2)), some (.inl (.int x3)), some (.inl (.int (x4 + (1 : Int32)))), some (.inl (.int x5)), none] [] m rfl ⟨trivial, trivial, trivial⟩ ?_
      refine zk_mask R [true, true, true, true, true, false, false] rfl ?_
      exact hc51 x1 x2 x3 (x4 + (1 : Int32)) m
    · refine zk_st R 4 87 [some (.inr (13, 0)), some (.inl (.int x1)), some (.inl (.int x2)), some (.inl (.int x3)), some (.inl (.int x4)), some (.inl (.int x5)), none] [.inl (.int x5), .inl (.int x2), .inl (.int x4), .inr (13, 0)] m rfl ⟨trivial, trivial, trivial, trivial, trivial⟩ ?_
      refine zk_call R (fun b => some (.inl (.int b))) (fun _ => m) rfl (r_X12_goesBy (Nat.le_of_ble_eq_true rfl)) (fun b hb => w_X12_goesBy d 0 x4 x2 x5 m b hb) (fun r2 => ?_)
      refine zk_gd fun e3 => ?_
      refine zk_st R 10 106 [some (.inr (13, 0)), some (.inl (.int x1)), some (.inl (.int x2)), some (.inl (.int x3)), some (.inl (.int x4)), some (.inl (.int x5)), some (.inl (.int r2))] [.inl (.int (m.1 26 0 (Int32.toNatClampNeg (((64 : Int32) * x2) + x4)))), .inl (.int r2)] m rfl ⟨trivial, trivial, trivial, (Nat.le_of_ble_eq_true rfl), trivial, trivial, trivial, trivial, trivial, ⟨(Nat.le_of_ble_eq_true rfl), z_inb_in e3⟩, trivial⟩ ?_
      refine zk_br R rfl (fun _ => ?_) (fun _ => ?_)
      · refine zk_gd fun e5 => ?_
        refine zk_st R 13 75 [some (.inr (13, 0)), some (.inl (.int x1)), some (.inl (.int x2)), some (.inl (.int (1 : Int32))), some (.inl (.int x4)), some (.inl (.int (x5 + (1 : Int32)))), some (.inl (.int r2))] [] (z_sI m 26 0 (Int32.toNatClampNeg (((64 : Int32) * x2) + x4)) r2) rfl ⟨trivial, (Nat.le_of_ble_eq_true rfl), trivial, trivial, trivial, trivial, trivial, trivial, ⟨(Nat.le_of_ble_eq_true rfl), z_inb_in e5⟩, trivial, trivial, trivial, trivial, trivial⟩ ?_
        refine zk_mask R [true, true, true, true, true, true, false] rfl ?_
        exact ih x1 x2 (1 : Int32) x4 (x5 + (1 : Int32)) (z_sI m 26 0 (Int32.toNatClampNeg (((64 : Int32) * x2) + x4)) r2)
      · refine zk_st R 3 75 [some (.inr (13, 0)), some (.inl (.int x1)), some (.inl (.int x2)), some (.inl (.int x3)), some (.inl (.int x4)), some (.inl (.int (x5 + (1 : Int32)))), some (.inl (.int r2))] [] m rfl ⟨trivial, trivial, trivial, trivial⟩ ?_
        refine zk_mask R [true, true, true, true, true, true, false] rfl ?_
        exact ih x1 x2 x3 x4 (x5 + (1 : Int32)) m
theorem w_X12_bestWay_51 (d k : Nat) {o : zO} {G : Nat → Nat → zL → List zA → zM → Prop} (R : zRu (d + 3) tX12_bestWay 0 (z_hf []) o G) (c2 : Int32 → Int32 → zM → Option (zM)) (c42 : Int32 → Int32 → Int32 → zM → Option (zM)) (hc2 : ∀ (x1 : Int32) (x2 : Int32) (m : zM), zLK G (fun a => (.inl none, a) : zM → zO) o (c2 x1 x2 m) some (k + 0) 2 [some (.inr (13, 0)), some (.inl (.int x1)), some (.inl (.int x2)), none, none, none, none] [] m) (hc42 : ∀ (x1 : Int32) (x2 : Int32) (x3 : Int32) (m : zM), zLK G (fun a => (.inl none, a) : zM → zO) o (c42 x1 x2 x3 m) some (k + 0) 42 [some (.inr (13, 0)), some (.inl (.int x1)), some (.inl (.int x2)), some (.inl (.int x3)), none, none, none] [] m) : ∀ (j : Nat) (x1 : Int32) (x2 : Int32) (x3 : Int32) (x4 : Int32) (m : zM), zLK G (fun a => (.inl none, a) : zM → zO) o (f_X12_bestWay_51 c2 c42 j x1 x2 x3 x4 m) some (k + 0) 51 [some (.inr (13, 0)), some (.inl (.int x1)), some (.inl (.int x2)), some (.inl (.int x3)), some (.inl (.int x4)), none, none] [] m := by
  intro j
  induction j with
  | zero =>
    intro _ _ _ _ _
    exact zk_none
  | succ j ih =>
    intro x1 x2 x3 x4 m
    unfold f_X12_bestWay_51
    refine zk_st R 2 54 [some (.inr (13, 0)), some (.inl (.int x1)), some (.inl (.int x2)), some (.inl (.int x3)), some (.inl (.int x4)), none, none] [.inr (13, 0), .inl (.int x4)] m rfl ⟨trivial, trivial, trivial⟩ ?_
    refine zk_call R (fun b => some (.inl (.int b))) (fun _ => m) rfl (r_X12_cells (Nat.le_of_ble_eq_true rfl)) (fun b hb => w_X12_cells (d + 2) 0 m b hb) (fun r1 => ?_)
    refine zk_br R rfl (fun _ => ?_) (fun _ => ?_)
    · refine zk_st R 1 42 [some (.inr (13, 0)), some (.inl (.int x1)), some (.inl (.int x2)), some (.inl (.int x3)), some (.inl (.int x4)), none, none] [] m rfl ⟨trivial, trivial⟩ ?_
      refine zk_mask R [true, true, true, true, false, false, false] rfl ?_
      exact hc42 x1 x2 x3 m
    · refine zk_st R 2 63 [some (.inr (13, 0)), some (.inl (.int x1)), some (.inl (.int x2)), some (.inl (.int x3)), some (.inl (.int x4)), none, none] [.inl (.int x4), .inr (13, 0)] m rfl ⟨trivial, trivial, trivial⟩ ?_
      refine zk_call R (fun b => some (.inl (.int (z_bi b)))) (fun _ => m) rfl (r_X12_isOutlet (Nat.le_of_ble_eq_true rfl)) (fun b hb => w_X12_isOutlet (d + 2) 0 x4 m b hb) (fun r3 => ?_)
      refine zk_br R rfl (fun _ => ?_) (fun _ => ?_)
      · refine zk_st R 2 75 [some (.inr (13, 0)), some (.inl (.int x1)), some (.inl (.int x2)), some (.inl (.int x3)), some (.inl (.int x4)), some (.inl (.int (0 : Int32))), none] [] m rfl ⟨trivial, trivial, trivial⟩ ?_
        refine zk_mask R [true, true, true, true, true, true, false] rfl ?_
        exact w_X12_bestWay_75 d k R c2 c42 (f_X12_bestWay_51 c2 c42 j) hc2 hc42 ih zF x1 x2 x3 x4 (0 : Int32) m
      · refine zk_st R 3 51 [some (.inr (13, 0)), some (.inl (.int x1)), some (.inl (.int x2)), some (.inl (.int x3)), some (.inl (.int (x4 + (1 : Int32)))), none, none] [] m rfl ⟨trivial, trivial, trivial, trivial⟩ ?_
        refine zk_mask R [true, true, true, true, true, false, false] rfl ?_
        exact ih x1 x2 x3 (x4 + (1 : Int32)) m
theorem w_X12_bestWay_42 (d k : Nat) {o : zO} {G : Nat → Nat → zL → List zA → zM → Prop} (R : zRu (d + 3) tX12_bestWay 0 (z_hf []) o G) (c2 : Int32 → Int32 → zM → Option (zM)) (hc2 : ∀ (x1 : Int32) (x2 : Int32) (m : zM), zLK G (fun a => (.inl none, a) : zM → zO) o (c2 x1 x2 m) some (k + 0) 2 [some (.inr (13, 0)), some (.inl (.int x1)), some (.inl (.int x2)), none, none, none, none] [] m) : ∀ (j : Nat) (x1 : Int32) (x2 : Int32) (x3 : Int32) (m : zM), zLK G (fun a => (.inl none, a) : zM → zO) o (f_X12_bestWay_42 c2 j x1 x2 x3 m) some (k + 0) 42 [some (.inr (13, 0)), some (.inl (.int x1)), some (.inl (.int x2)), some (.inl (.int x3)), none, none, none] [] m := by
  intro j
  induction j with
  | zero =>
    intro _ _ _ _
    exact zk_none
  | succ j ih =>
    intro x1 x2 x3 m
    unfold f_X12_bestWay_42
    refine zk_st R 1 43 [some (.inr (13, 0)), some (.inl (.int x1)), some (.inl (.int x2)), some (.inl (.int x3)), none, none, none] [.inl (.int x3)] m rfl ⟨trivial, trivial⟩ ?_
    refine zk_br R rfl (fun _ => ?_) (fun _ => ?_)
    · refine zk_st R 2 2 [some (.inr (13, 0)), some (.inl (.int x1)), some (.inl (.int (x2 + (1 : Int32)))), some (.inl (.int x3)), none, none, none] [] m rfl ⟨trivial, trivial, trivial⟩ ?_
      refine zk_mask R [true, true, true, false, false, false, false] rfl ?_
      exact hc2 x1 (x2 + (1 : Int32)) m
    · refine zk_st R 4 51 [some (.inr (13, 0)), some (.inl (.int x1)), some (.inl (.int x2)), some (.inl (.int (0 : Int32))), some (.inl (.int (0 : Int32))), none, none] [] m rfl ⟨trivial, trivial, trivial, trivial, trivial⟩ ?_
      refine zk_mask R [true, true, true, true, true, false, false] rfl ?_
      exact w_X12_bestWay_51 d k R c2 (f_X12_bestWay_42 c2 j) hc2 ih zF x1 x2 (0 : Int32) (0 : Int32) m
theorem w_X12_bestWay_13 (d k : Nat) {o : zO} {G : Nat → Nat → zL → List zA → zM → Prop} (R : zRu (d + 3) tX12_bestWay 0 (z_hf []) o G) (c2 : Int32 → Int32 → zM → Option (zM)) (hc2 : ∀ (x1 : Int32) (x2 : Int32) (m : zM), zLK G (fun a => (.inl none, a) : zM → zO) o (c2 x1 x2 m) some (k + 0) 2 [some (.inr (13, 0)), some (.inl (.int x1)), some (.inl (.int x2)), none, none, none, none] [] m) : ∀ (j : Nat) (x1 : Int32) (x2 : Int32) (x3 : Int32) (m : zM), zLK G (fun a => (.inl none, a) : zM → zO) o (f_X12_bestWay_13 c2 j x1 x2 x3 m) some (k + 0) 13 [some (.inr (13, 0)), some (.inl (.int x1)), some (.inl (.int x2)), some (.inl (.int x3)), none, none, none] [] m := by
  intro j
  induction j with
  | zero =>
    intro _ _ _ _
    exact zk_none
  | succ j ih =>
    intro x1 x2 x3 m
    unfold f_X12_bestWay_13
    refine zk_st R 2 15 [some (.inr (13, 0)), some (.inl (.int x1)), some (.inl (.int x2)), some (.inl (.int x3)), none, none, none] [.inr (13, 0), .inl (.int x3)] m rfl ⟨trivial, trivial, trivial⟩ ?_
    refine zk_call R (fun b => some (.inl (.int b))) (fun _ => m) rfl (r_X12_cells (Nat.le_of_ble_eq_true rfl)) (fun b hb => w_X12_cells (d + 2) 0 m b hb) (fun r1 => ?_)
    refine zk_br R rfl (fun _ => ?_) (fun _ => ?_)
    · refine zk_st R 2 42 [some (.inr (13, 0)), some (.inl (.int x1)), some (.inl (.int x2)), some (.inl (.int (1 : Int32))), none, none, none] [] m rfl ⟨trivial, trivial, trivial⟩ ?_
      refine zk_mask R [true, true, true, true, false, false, false] rfl ?_
      exact w_X12_bestWay_42 d k R c2 hc2 zF x1 x2 (1 : Int32) m
    · refine zk_gd fun e3 => ?_
      refine zk_st R 11 13 [some (.inr (13, 0)), some (.inl (.int x1)), some (.inl (.int x2)), some (.inl (.int (x3 + (1 : Int32)))), none, none, none] [] (z_sI m 26 0 (Int32.toNatClampNeg (((64 : Int32) * x2) + x3)) (1000000 : Int32)) rfl ⟨trivial, (Nat.le_of_ble_eq_true rfl), trivial, trivial, trivial, trivial, trivial, trivial, ⟨(Nat.le_of_ble_eq_true rfl), z_inb_in e3⟩, trivial, trivial, trivial⟩ ?_
      refine zk_mask R [true, true, true, true, false, false, false] rfl ?_
      exact ih x1 x2 (x3 + (1 : Int32)) (z_sI m 26 0 (Int32.toNatClampNeg (((64 : Int32) * x2) + x3)) (1000000 : Int32))
theorem w_X12_bestWay_2 (d k : Nat) {o : zO} {G : Nat → Nat → zL → List zA → zM → Prop} (R : zRu (d + 3) tX12_bestWay 0 (z_hf []) o G) : ∀ (j : Nat) (x1 : Int32) (x2 : Int32) (m : zM), zLK G (fun a => (.inl none, a) : zM → zO) o (f_X12_bestWay_2 j x1 x2 m) some (k + 0) 2 [some (.inr (13, 0)), some (.inl (.int x1)), some (.inl (.int x2)), none, none, none, none] [] m := by
  intro j
  induction j with
  | zero =>
    intro _ _ _
    exact zk_none
  | succ j ih =>
    intro x1 x2 m
    unfold f_X12_bestWay_2
    refine zk_st R 3 5 [some (.inr (13, 0)), some (.inl (.int x1)), some (.inl (.int x2)), none, none, none, none] [.inl (.int x1), .inr (13, 0), .inl (.int x2)] m rfl ⟨trivial, trivial, trivial, trivial⟩ ?_
    refine zk_call R (fun b => some (.inl (.int b))) (fun _ => m) rfl (r_X12_height (Nat.le_of_ble_eq_true rfl)) (fun b hb => w_X12_height (d + 2) 0 x1 m b hb) (fun r1 => ?_)
    refine zk_br R rfl (fun _ => ?_) (fun _ => ?_)
    · refine zk_st R 2 151 [some (.inr (13, 0)), some (.inl (.int x1)), some (.inl (.int x2)), none, none, none, none] [.inl (.int x1), .inr (13, 0)] m rfl ⟨trivial, trivial, trivial⟩ ?_
      refine zk_call R (fun b => some (.inl (.int b))) (fun _ => m) rfl (r_X12_height (Nat.le_of_ble_eq_true rfl)) (fun b hb => w_X12_height (d + 2) 0 x1 m b hb) (fun r3 => ?_)
      refine zk_st R 5 159 [some (.inr (13, 0)), some (.inl (.int x1)), some (.inl (.int r3)), none, none, none, none] [.inl (.int r3), .inl (.int x1), .inr (13, 0), .inr (13, 0)] m rfl ⟨trivial, trivial, trivial, trivial, trivial, trivial⟩ ?_
      refine zk_call R (fun b => some (.inl (.int b))) (fun _ => m) rfl (r_X12_worth (Nat.le_of_ble_eq_true rfl)) (fun b hb => w_X12_worth (d + 1) 0 x1 r3 m b hb) (fun r4 => ?_)
      refine zk_gd fun e5 => ?_
      refine zk_gd fun e6 => ?_
      refine zk_st R 21 195 [some (.inr (13, 0)), some (.inl (.int x1)), some (.inl (.int r3)), some (.inl (.int x1)), none, none, none] [] (z_sI (z_sI (z_sI (z_sI m 13 0 30 ((r4 - (1 : Int32)) / (128 : Int32))) 13 0 29 (0 : Int32)) 13 0 29 (((z_sI (z_sI m 13 0 30 ((r4 - (1 : Int32)) / (128 : Int32))) 13 0 29 (0 : Int32)).1 13 0 29) + (1 : Int32))) 27 0 (Int32.toNatClampNeg ((z_sI (z_sI m 13 0 30 ((r4 - (1 : Int32)) / (128 : Int32))) 13 0 29 (0 : Int32)).1 13 0 29)) x1) rfl ⟨trivial, trivial, trivial, (z_nz_ne e5), (Nat.le_of_ble_eq_true rfl), trivial, trivial, (Nat.le_of_ble_eq_true rfl), trivial, trivial, trivial, (Nat.le_of_ble_eq_true rfl), trivial, trivial, (Nat.le_of_ble_eq_true rfl), trivial, trivial, trivial, (Nat.le_of_ble_eq_true rfl), trivial, ⟨(Nat.le_of_ble_eq_true rfl), z_inb_in e6⟩, trivial⟩ ?_
      refine zk_mask R [true, false, true, true, false, false, false] rfl ?_
      exact w_X12_bestWay_195 d k R zF r3 x1 (z_sI (z_sI (z_sI (z_sI m 13 0 30 ((r4 - (1 : Int32)) / (128 : Int32))) 13 0 29 (0 : Int32)) 13 0 29 (((z_sI (z_sI m 13 0 30 ((r4 - (1 : Int32)) / (128 : Int32))) 13 0 29 (0 : Int32)).1 13 0 29) + (1 : Int32))) 27 0 (Int32.toNatClampNeg ((z_sI (z_sI m 13 0 30 ((r4 - (1 : Int32)) / (128 : Int32))) 13 0 29 (0 : Int32)).1 13 0 29)) x1)
    · refine zk_st R 2 13 [some (.inr (13, 0)), some (.inl (.int x1)), some (.inl (.int x2)), some (.inl (.int (0 : Int32))), none, none, none] [] m rfl ⟨trivial, trivial, trivial⟩ ?_
      refine zk_mask R [true, true, true, true, false, false, false] rfl ?_
      exact w_X12_bestWay_13 d k R (f_X12_bestWay_2 j) ih zF x1 x2 (0 : Int32) m
theorem w_X12_bestWay (d k : Nat) (x1 : Int32) (m : zM) (a : zM) (ha : f_X12_bestWay x1 m = some a) : z_Ev z_MT zN zRf (d + 4) (k + 0) 202 [.inr (13, 0), .inl (.int x1)] m ((fun a => (.inl none, a) : zM → zO) a) := by
  refine zk_top (I := (yX12_bestWay, cX12_bestWay, 7, none, [], tX12_bestWay, 13, 1, 13, 0, 0, 0)) (oc := (fun a => (.inl none, a) : zM → zO)) (a := a) rfl (Nat.le_of_ble_eq_true rfl) (fun G R => ?_) ha
  unfold f_X12_bestWay
  refine zk_st R 2 2 [some (.inr (13, 0)), some (.inl (.int x1)), some (.inl (.int (0 : Int32))), none, none, none, none] [] m rfl ⟨trivial, trivial, trivial⟩ ?_
  refine zk_mask R [true, true, true, false, false, false, false] rfl ?_
  exact w_X12_bestWay_2 d k R zF x1 (0 : Int32) m
theorem r_X12_flow {i : Nat} {t : List zA} (h : i < zN 13) : z_rcv zN (zKD 214) (.inr (13, i) :: t) := by
  rw [show zKD 214 = 13 from rfl]
  exact ⟨rfl, h⟩
noncomputable def f_X12_flow (x1 : Int32) (m : zM) : Option (Int32 × zM) :=
  Option.bind (f_X12_isCell x1 (z_sI m 13 0 0 (0 : Int32))) fun r1 =>
  if (z_bi r1) = 0 then
    Option.bind (f_X12_raises (1 : Int32) (z_sI m 13 0 0 (0 : Int32))) fun r3 =>
    some (r3.1, r3.2)
  else
    Option.bind (f_X12_isOutlet x1 (z_sI m 13 0 0 (0 : Int32))) fun r4 =>
    if (z_bi r4) = 0 then
      Option.bind (f_X12_looks (z_sI m 13 0 0 (0 : Int32))) fun r6 =>
      z_gd (z_inb x1 (z_alen 20)) <| some ((r6.1 20 61 (Int32.toNatClampNeg x1)), r6)
    else
      Option.bind (f_X12_raises (2 : Int32) (z_sI m 13 0 0 (0 : Int32))) fun r8 =>
      some (r8.1, r8.2)
theorem w_X12_flow (d k : Nat) (x1 : Int32) (m : zM) (a : Int32 × zM) (ha : f_X12_flow x1 m = some a) : z_Ev z_MT zN zRf (d + 4) (k + 0) 214 [.inr (13, 0), .inl (.int x1)] m ((fun a => (z_cI a.1, a.2) : Int32 × zM → zO) a) := by
  refine zk_top (I := (yX12_flow, cX12_flow, 2, (some .int), [], tX12_flow, 13, 1, 13, 0, 0, 0)) (oc := (fun a => (z_cI a.1, a.2) : Int32 × zM → zO)) (a := a) rfl (Nat.le_of_ble_eq_true rfl) (fun G R => ?_) ha
  unfold f_X12_flow
  refine zk_st R 5 7 [some (.inr (13, 0)), some (.inl (.int x1))] [.inl (.int x1), .inr (13, 0)] (z_sI m 13 0 0 (0 : Int32)) rfl ⟨trivial, trivial, (Nat.le_of_ble_eq_true rfl), trivial, trivial, trivial⟩ ?_
  refine zk_call R (fun b => some (.inl (.int (z_bi b)))) (fun _ => (z_sI m 13 0 0 (0 : Int32))) rfl (r_X12_isCell (Nat.le_of_ble_eq_true rfl)) (fun b hb => w_X12_isCell (d + 1) 0 x1 (z_sI m 13 0 0 (0 : Int32)) b hb) (fun r1 => ?_)
  refine zk_br R rfl (fun _ => ?_) (fun _ => ?_)
  · refine zk_st R 2 15 [some (.inr (13, 0)), some (.inl (.int x1))] [.inl (.int (1 : Int32)), .inr (13, 0)] (z_sI m 13 0 0 (0 : Int32)) rfl ⟨trivial, trivial, trivial⟩ ?_
    refine zk_call R (fun b => some (.inl (.int b.1))) (fun b => b.2) rfl (r_X12_raises (Nat.le_of_ble_eq_true rfl)) (fun b hb => w_X12_raises (d + 2) 0 (1 : Int32) (z_sI m 13 0 0 (0 : Int32)) b hb) (fun r3 => ?_)
    exact zk_ret R rfl trivial rfl
  · refine zk_st R 2 21 [some (.inr (13, 0)), some (.inl (.int x1))] [.inl (.int x1), .inr (13, 0)] (z_sI m 13 0 0 (0 : Int32)) rfl ⟨trivial, trivial, trivial⟩ ?_
    refine zk_call R (fun b => some (.inl (.int (z_bi b)))) (fun _ => (z_sI m 13 0 0 (0 : Int32))) rfl (r_X12_isOutlet (Nat.le_of_ble_eq_true rfl)) (fun b hb => w_X12_isOutlet (d + 2) 0 x1 (z_sI m 13 0 0 (0 : Int32)) b hb) (fun r4 => ?_)
    refine zk_br R rfl (fun _ => ?_) (fun _ => ?_)
    · refine zk_st R 1 34 [some (.inr (13, 0)), some (.inl (.int x1))] [.inr (13, 0)] (z_sI m 13 0 0 (0 : Int32)) rfl ⟨trivial, trivial⟩ ?_
      refine zk_call R (fun _ => none) id rfl (r_X12_looks (Nat.le_of_ble_eq_true rfl)) (fun b hb => w_X12_looks d 0 (z_sI m 13 0 0 (0 : Int32)) b hb) (fun r6 => ?_)
      refine zk_gd fun e7 => ?_
      refine zk_st R 4 43 [some (.inr (13, 0)), some (.inl (.int x1))] [.inl (.int (r6.1 20 61 (Int32.toNatClampNeg x1)))] r6 rfl ⟨trivial, (Nat.le_of_ble_eq_true rfl), trivial, ⟨(Nat.le_of_ble_eq_true rfl), z_inb_in e7⟩, trivial⟩ ?_
      exact zk_ret R rfl trivial rfl
    · refine zk_st R 2 29 [some (.inr (13, 0)), some (.inl (.int x1))] [.inl (.int (2 : Int32)), .inr (13, 0)] (z_sI m 13 0 0 (0 : Int32)) rfl ⟨trivial, trivial, trivial⟩ ?_
      refine zk_call R (fun b => some (.inl (.int b.1))) (fun b => b.2) rfl (r_X12_raises (Nat.le_of_ble_eq_true rfl)) (fun b hb => w_X12_raises (d + 2) 0 (2 : Int32) (z_sI m 13 0 0 (0 : Int32)) b hb) (fun r8 => ?_)
      exact zk_ret R rfl trivial rfl
theorem r_X12_why {i : Nat} {t : List zA} (h : i < zN 13) : z_rcv zN (zKD 215) (.inr (13, i) :: t) := by
  rw [show zKD 215 = 13 from rfl]
  exact ⟨rfl, h⟩
noncomputable def f_X12_why (x1 : Int32) (x2 : Int32) (m : zM) : Option (Int32 × zM) :=
  Option.bind (f_X12_isCell x1 (z_sI m 13 0 0 (0 : Int32))) fun r1 =>
  if (z_bi r1) = 0 then
    Option.bind (f_X12_raises (1 : Int32) (z_sI m 13 0 0 (0 : Int32))) fun r3 =>
    some (r3.1, r3.2)
  else
    Option.bind (f_X12_looks (z_sI m 13 0 0 (0 : Int32))) fun r4 =>
    if x2 = (0 : Int32) then
      Option.bind (f_X12_isOutlet x1 r4) fun r6 =>
      if (z_bi r6) = 0 then
        z_gd (z_inb x1 (z_alen 20)) <| if (r4.1 20 60 (Int32.toNatClampNeg x1)) = 0 then
          some ((1 : Int32), r4)
        else
          some ((2 : Int32), r4)
      else
        some ((0 : Int32), r4)
    else if x2 = (1 : Int32) then
      z_gd (z_inb x1 (z_alen 20)) <| some ((r4.1 20 62 (Int32.toNatClampNeg x1)), r4)
    else if x2 = (2 : Int32) then
      z_gd (z_inb x1 (z_alen 20)) <| some ((r4.1 20 60 (Int32.toNatClampNeg x1)), r4)
    else
      Option.bind (f_X12_raises (2 : Int32) r4) fun r14 =>
      some (r14.1, r14.2)
theorem w_X12_why (d k : Nat) (x1 : Int32) (x2 : Int32) (m : zM) (a : Int32 × zM) (ha : f_X12_why x1 x2 m = some a) : z_Ev z_MT zN zRf (d + 4) (k + 0) 215 [.inr (13, 0), .inl (.int x1), .inl (.int x2)] m ((fun a => (z_cI a.1, a.2) : Int32 × zM → zO) a) := by
  refine zk_top (I := (yX12_why, cX12_why, 3, (some .int), [], tX12_why, 13, 2, 13, 0, 0, 0)) (oc := (fun a => (z_cI a.1, a.2) : Int32 × zM → zO)) (a := a) rfl (Nat.le_of_ble_eq_true rfl) (fun G R => ?_) ha
  unfold f_X12_why
  refine zk_st R 5 7 [some (.inr (13, 0)), some (.inl (.int x1)), some (.inl (.int x2))] [.inl (.int x1), .inr (13, 0)] (z_sI m 13 0 0 (0 : Int32)) rfl ⟨trivial, trivial, (Nat.le_of_ble_eq_true rfl), trivial, trivial, trivial⟩ ?_
  refine zk_call R (fun b => some (.inl (.int (z_bi b)))) (fun _ => (z_sI m 13 0 0 (0 : Int32))) rfl (r_X12_isCell (Nat.le_of_ble_eq_true rfl)) (fun b hb => w_X12_isCell (d + 1) 0 x1 (z_sI m 13 0 0 (0 : Int32)) b hb) (fun r1 => ?_)
  refine zk_br R rfl (fun _ => ?_) (fun _ => ?_)
  · refine zk_st R 2 15 [some (.inr (13, 0)), some (.inl (.int x1)), some (.inl (.int x2))] [.inl (.int (1 : Int32)), .inr (13, 0)] (z_sI m 13 0 0 (0 : Int32)) rfl ⟨trivial, trivial, trivial⟩ ?_
    refine zk_call R (fun b => some (.inl (.int b.1))) (fun b => b.2) rfl (r_X12_raises (Nat.le_of_ble_eq_true rfl)) (fun b hb => w_X12_raises (d + 2) 0 (1 : Int32) (z_sI m 13 0 0 (0 : Int32)) b hb) (fun r3 => ?_)
    exact zk_ret R rfl trivial rfl
  · refine zk_st R 1 20 [some (.inr (13, 0)), some (.inl (.int x1)), some (.inl (.int x2))] [.inr (13, 0)] (z_sI m 13 0 0 (0 : Int32)) rfl ⟨trivial, trivial⟩ ?_
    refine zk_call R (fun _ => none) id rfl (r_X12_looks (Nat.le_of_ble_eq_true rfl)) (fun b hb => w_X12_looks d 0 (z_sI m 13 0 0 (0 : Int32)) b hb) (fun r4 => ?_)
    refine zk_st R 1 24 [some (.inr (13, 0)), some (.inl (.int x1)), some (.inl (.int x2))] [.inl (.int x2)] r4 rfl ⟨trivial, trivial⟩ ?_
    refine zk_if (fun e5 => ?_) (fun e5 => ?_)
    · refine zk_tsw R rfl (z_swv e5 (by decide +kernel : _ = 52)) ?_
      refine zk_st R 2 54 [some (.inr (13, 0)), some (.inl (.int x1)), some (.inl (.int x2))] [.inl (.int x1), .inr (13, 0)] r4 rfl ⟨trivial, trivial, trivial⟩ ?_
      refine zk_call R (fun b => some (.inl (.int (z_bi b)))) (fun _ => r4) rfl (r_X12_isOutlet (Nat.le_of_ble_eq_true rfl)) (fun b hb => w_X12_isOutlet (d + 2) 0 x1 r4 b hb) (fun r6 => ?_)
      refine zk_br R rfl (fun _ => ?_) (fun _ => ?_)
      · refine zk_gd fun e8 => ?_
        refine zk_st R 4 70 [some (.inr (13, 0)), some (.inl (.int x1)), some (.inl (.int x2))] [.inl (.int (r4.1 20 60 (Int32.toNatClampNeg x1)))] r4 rfl ⟨trivial, (Nat.le_of_ble_eq_true rfl), trivial, ⟨(Nat.le_of_ble_eq_true rfl), z_inb_in e8⟩, trivial⟩ ?_
        refine zk_br R rfl (fun _ => ?_) (fun _ => ?_)
        · refine zk_st R 2 78 [some (.inr (13, 0)), some (.inl (.int x1)), some (.inl (.int x2))] [.inl (.int (1 : Int32))] r4 rfl ⟨trivial, trivial, trivial⟩ ?_
          exact zk_ret R rfl trivial rfl
        · refine zk_st R 1 78 [some (.inr (13, 0)), some (.inl (.int x1)), some (.inl (.int x2))] [.inl (.int (2 : Int32))] r4 rfl ⟨trivial, trivial⟩ ?_
          exact zk_ret R rfl trivial rfl
      · refine zk_st R 2 78 [some (.inr (13, 0)), some (.inl (.int x1)), some (.inl (.int x2))] [.inl (.int (0 : Int32))] r4 rfl ⟨trivial, trivial, trivial⟩ ?_
        exact zk_ret R rfl trivial rfl
    refine zk_if (fun e10 => ?_) (fun e10 => ?_)
    · refine zk_tsw R rfl (z_swv e10 (by decide +kernel : _ = 79)) ?_
      refine zk_gd fun e11 => ?_
      refine zk_st R 4 85 [some (.inr (13, 0)), some (.inl (.int x1)), some (.inl (.int x2))] [.inl (.int (r4.1 20 62 (Int32.toNatClampNeg x1)))] r4 rfl ⟨trivial, (Nat.le_of_ble_eq_true rfl), trivial, ⟨(Nat.le_of_ble_eq_true rfl), z_inb_in e11⟩, trivial⟩ ?_
      exact zk_ret R rfl trivial rfl
    refine zk_if (fun e12 => ?_) (fun e12 => ?_)
    · refine zk_tsw R rfl (z_swv e12 (by decide +kernel : _ = 86)) ?_
      refine zk_gd fun e13 => ?_
      refine zk_st R 4 92 [some (.inr (13, 0)), some (.inl (.int x1)), some (.inl (.int x2))] [.inl (.int (r4.1 20 60 (Int32.toNatClampNeg x1)))] r4 rfl ⟨trivial, (Nat.le_of_ble_eq_true rfl), trivial, ⟨(Nat.le_of_ble_eq_true rfl), z_inb_in e13⟩, trivial⟩ ?_
      exact zk_ret R rfl trivial rfl
    refine zk_tsw R rfl (z_swd 3 (by decide) (fun i hi => ?_) (by decide : _ = 93)) ?_
    · have hi' : i = 0 ∨ i = 1 ∨ i = 2 := by omega
      rcases hi' with rfl | rfl | rfl
      · exact e5
      · exact e10
      · exact e12
    · refine zk_st R 2 95 [some (.inr (13, 0)), some (.inl (.int x1)), some (.inl (.int x2))] [.inl (.int (2 : Int32)), .inr (13, 0)] r4 rfl ⟨trivial, trivial, trivial⟩ ?_
      refine zk_call R (fun b => some (.inl (.int b.1))) (fun b => b.2) rfl (r_X12_raises (Nat.le_of_ble_eq_true rfl)) (fun b hb => w_X12_raises (d + 2) 0 (2 : Int32) r4 b hb) (fun r14 => ?_)
      exact zk_ret R rfl trivial rfl
theorem r_X12_route {i : Nat} {t : List zA} (h : i < zN 13) : z_rcv zN (zKD 216) (.inr (13, i) :: t) := by
  rw [show zKD 216 = 13 from rfl]
  exact ⟨rfl, h⟩
noncomputable def f_X12_route_61 : Nat → Int32 → Int32 → Int32 → zM → Option (Int32 × zM)
  | 0, _, _, _, _ => none
  | j + 1, x2, x3, x4, m =>
    if x2 ≤ x4 then
      some (x3, m)
    else
      Option.bind (f_X12_onward x3 m) fun r2 =>
      f_X12_route_61 j x2 r2 (x4 + (1 : Int32)) m
noncomputable def f_X12_route (x1 : Int32) (x2 : Int32) (m : zM) : Option (Int32 × zM) :=
  Option.bind (f_X12_isCell x1 (z_sI m 13 0 0 (0 : Int32))) fun r1 =>
  if (z_bi r1) = 0 then
    Option.bind (f_X12_raises (1 : Int32) (z_sI m 13 0 0 (0 : Int32))) fun r3 =>
    some (r3.1, r3.2)
  else
    Option.bind (f_X12_looks (z_sI m 13 0 0 (0 : Int32))) fun r4 =>
    Option.bind (f_X12_stepsOf x1 r4) fun r5 =>
    Option.bind (f_X12_in (Int32.toInt64 x2) (-1 : Int64) (Int32.toInt64 r5) r4) fun r6 =>
    if (z_bi r6) = 0 then
      Option.bind (f_X12_raises (2 : Int32) r4) fun r8 =>
      some (r8.1, r8.2)
    else
      if 0 ≤ x2 then
        f_X12_route_61 zF x2 x1 (0 : Int32) r4
      else
        Option.bind (f_X12_mouth x1 r4) fun r10 =>
        some (r10, r4)
theorem w_X12_route_61 (d k : Nat) {o : zO} {G : Nat → Nat → zL → List zA → zM → Prop} (R : zRu (d + 3) tX12_route 0 (z_hf []) o G) : ∀ (j : Nat) (x2 : Int32) (x3 : Int32) (x4 : Int32) (m : zM), zLK G (fun a => (z_cI a.1, a.2) : Int32 × zM → zO) o (f_X12_route_61 j x2 x3 x4 m) some (k + 0) 61 [some (.inr (13, 0)), none, some (.inl (.int x2)), some (.inl (.int x3)), some (.inl (.int x4))] [] m := by
  intro j
  induction j with
  | zero =>
    intro _ _ _ _
    exact zk_none
  | succ j ih =>
    intro x2 x3 x4 m
    unfold f_X12_route_61
    refine zk_st R 2 64 [some (.inr (13, 0)), none, some (.inl (.int x2)), some (.inl (.int x3)), some (.inl (.int x4))] [.inl (.int x2), .inl (.int x4)] m rfl ⟨trivial, trivial, trivial⟩ ?_
    refine zk_br R rfl (fun _ => ?_) (fun _ => ?_)
    · refine zk_st R 1 80 [some (.inr (13, 0)), none, some (.inl (.int x2)), some (.inl (.int x3)), some (.inl (.int x4))] [.inl (.int x3)] m rfl ⟨trivial, trivial⟩ ?_
      exact zk_ret R rfl trivial rfl
    · refine zk_st R 2 69 [some (.inr (13, 0)), none, some (.inl (.int x2)), some (.inl (.int x3)), some (.inl (.int x4))] [.inl (.int x3), .inr (13, 0)] m rfl ⟨trivial, trivial, trivial⟩ ?_
      refine zk_call R (fun b => some (.inl (.int b))) (fun _ => m) rfl (r_X12_onward (Nat.le_of_ble_eq_true rfl)) (fun b hb => w_X12_onward (d + 1) 0 x3 m b hb) (fun r2 => ?_)
      refine zk_st R 3 61 [some (.inr (13, 0)), none, some (.inl (.int x2)), some (.inl (.int r2)), some (.inl (.int (x4 + (1 : Int32))))] [] m rfl ⟨trivial, trivial, trivial, trivial⟩ ?_
      refine zk_mask R [true, false, true, true, true] rfl ?_
      exact ih x2 r2 (x4 + (1 : Int32)) m
theorem w_X12_route (d k : Nat) (x1 : Int32) (x2 : Int32) (m : zM) (a : Int32 × zM) (ha : f_X12_route x1 x2 m = some a) : z_Ev z_MT zN zRf (d + 4) (k + 0) 216 [.inr (13, 0), .inl (.int x1), .inl (.int x2)] m ((fun a => (z_cI a.1, a.2) : Int32 × zM → zO) a) := by
  refine zk_top (I := (yX12_route, cX12_route, 5, (some .int), [], tX12_route, 13, 2, 13, 0, 0, 0)) (oc := (fun a => (z_cI a.1, a.2) : Int32 × zM → zO)) (a := a) rfl (Nat.le_of_ble_eq_true rfl) (fun G R => ?_) ha
  unfold f_X12_route
  refine zk_st R 5 7 [some (.inr (13, 0)), some (.inl (.int x1)), some (.inl (.int x2)), none, none] [.inl (.int x1), .inr (13, 0)] (z_sI m 13 0 0 (0 : Int32)) rfl ⟨trivial, trivial, (Nat.le_of_ble_eq_true rfl), trivial, trivial, trivial⟩ ?_
  refine zk_call R (fun b => some (.inl (.int (z_bi b)))) (fun _ => (z_sI m 13 0 0 (0 : Int32))) rfl (r_X12_isCell (Nat.le_of_ble_eq_true rfl)) (fun b hb => w_X12_isCell (d + 1) 0 x1 (z_sI m 13 0 0 (0 : Int32)) b hb) (fun r1 => ?_)
  refine zk_br R rfl (fun _ => ?_) (fun _ => ?_)
  · refine zk_st R 2 15 [some (.inr (13, 0)), some (.inl (.int x1)), some (.inl (.int x2)), none, none] [.inl (.int (1 : Int32)), .inr (13, 0)] (z_sI m 13 0 0 (0 : Int32)) rfl ⟨trivial, trivial, trivial⟩ ?_
    refine zk_call R (fun b => some (.inl (.int b.1))) (fun b => b.2) rfl (r_X12_raises (Nat.le_of_ble_eq_true rfl)) (fun b hb => w_X12_raises (d + 2) 0 (1 : Int32) (z_sI m 13 0 0 (0 : Int32)) b hb) (fun r3 => ?_)
    exact zk_ret R rfl trivial rfl
  · refine zk_st R 1 20 [some (.inr (13, 0)), some (.inl (.int x1)), some (.inl (.int x2)), none, none] [.inr (13, 0)] (z_sI m 13 0 0 (0 : Int32)) rfl ⟨trivial, trivial⟩ ?_
    refine zk_call R (fun _ => none) id rfl (r_X12_looks (Nat.le_of_ble_eq_true rfl)) (fun b hb => w_X12_looks d 0 (z_sI m 13 0 0 (0 : Int32)) b hb) (fun r4 => ?_)
    refine zk_st R 5 30 [some (.inr (13, 0)), some (.inl (.int x1)), some (.inl (.int x2)), none, none] [.inl (.int x1), .inr (13, 0), .inl (.long (-1 : Int64)), .inl (.long (Int32.toInt64 x2))] r4 rfl ⟨trivial, trivial, trivial, trivial, trivial, trivial⟩ ?_
    refine zk_call R (fun b => some (.inl (.int b))) (fun _ => r4) rfl (r_X12_stepsOf (Nat.le_of_ble_eq_true rfl)) (fun b hb => w_X12_stepsOf d 0 x1 r4 b hb) (fun r5 => ?_)
    refine zk_st R 1 34 [some (.inr (13, 0)), some (.inl (.int x1)), some (.inl (.int x2)), none, none] [.inl (.long (Int32.toInt64 r5)), .inl (.long (-1 : Int64)), .inl (.long (Int32.toInt64 x2))] r4 rfl ⟨trivial, trivial⟩ ?_
    refine zk_call R (fun b => some (.inl (.int (z_bi b)))) (fun _ => r4) rfl (r_X12_in) (fun b hb => w_X12_in (d + 2) 0 (Int32.toInt64 x2) (-1 : Int64) (Int32.toInt64 r5) r4 b hb) (fun r6 => ?_)
    refine zk_br R rfl (fun _ => ?_) (fun _ => ?_)
    · refine zk_st R 2 42 [some (.inr (13, 0)), some (.inl (.int x1)), some (.inl (.int x2)), none, none] [.inl (.int (2 : Int32)), .inr (13, 0)] r4 rfl ⟨trivial, trivial, trivial⟩ ?_
      refine zk_call R (fun b => some (.inl (.int b.1))) (fun b => b.2) rfl (r_X12_raises (Nat.le_of_ble_eq_true rfl)) (fun b hb => w_X12_raises (d + 2) 0 (2 : Int32) r4 b hb) (fun r8 => ?_)
      exact zk_ret R rfl trivial rfl
    · refine zk_st R 1 47 [some (.inr (13, 0)), some (.inl (.int x1)), some (.inl (.int x2)), none, none] [.inl (.int x2)] r4 rfl ⟨trivial, trivial⟩ ?_
      refine zk_br R rfl (fun _ => ?_) (fun _ => ?_)
      · refine zk_st R 4 61 [some (.inr (13, 0)), some (.inl (.int x1)), some (.inl (.int x2)), some (.inl (.int x1)), some (.inl (.int (0 : Int32)))] [] r4 rfl ⟨trivial, trivial, trivial, trivial, trivial⟩ ?_
        refine zk_mask R [true, false, true, true, true] rfl ?_
        exact w_X12_route_61 d k R zF x2 x1 (0 : Int32) r4
      · refine zk_st R 2 52 [some (.inr (13, 0)), some (.inl (.int x1)), some (.inl (.int x2)), none, none] [.inl (.int x1), .inr (13, 0)] r4 rfl ⟨trivial, trivial, trivial⟩ ?_
        refine zk_call R (fun b => some (.inl (.int b))) (fun _ => r4) rfl (r_X12_mouth (Nat.le_of_ble_eq_true rfl)) (fun b hb => w_X12_mouth d 0 x1 r4 b hb) (fun r10 => ?_)
        exact zk_ret R rfl trivial rfl
theorem r_X12_upstream {i : Nat} {t : List zA} (h : i < zN 13) : z_rcv zN (zKD 218) (.inr (13, i) :: t) := by
  rw [show zKD 218 = 13 from rfl]
  exact ⟨rfl, h⟩
noncomputable def f_X12_upstream_35 : Nat → Int32 → Int64 → Int32 → zM → Option (Int64 × zM)
  | 0, _, _, _, _ => none
  | j + 1, x1, x2, x4, m =>
    Option.bind (f_X12_cells m) fun r1 =>
    if r1 ≤ x4 then
      some (x2, m)
    else
      Option.bind (f_X12_leadsTo x4 x1 m) fun r3 =>
      if (z_bi r3) = 0 then
        f_X12_upstream_35 j x1 x2 (x4 + (1 : Int32)) m
      else
        f_X12_upstream_35 j x1 (x2 ||| (z_shl (1 : Int64) x4)) (x4 + (1 : Int32)) m
noncomputable def f_X12_upstream_14 (x1 : Int32) (s1 : Int32) (m : zM) : Option (Int64 × zM) :=
  if ((z_sI m 13 0 0 s1).1 13 0 0) ≤ 0 then
    Option.bind (f_X12_looks (z_sI m 13 0 0 s1)) fun r2 =>
    f_X12_upstream_35 zF x1 (0 : Int64) (0 : Int32) r2
  else
    some ((0 : Int64), (z_sI m 13 0 0 s1))
noncomputable def f_X12_upstream (x1 : Int32) (m : zM) : Option (Int64 × zM) :=
  Option.bind (f_X12_isCell x1 m) fun r1 =>
  if (z_bi r1) = 0 then
    f_X12_upstream_14 x1 (1 : Int32) m
  else
    f_X12_upstream_14 x1 (0 : Int32) m
theorem w_X12_upstream_35 (d k : Nat) {o : zO} {G : Nat → Nat → zL → List zA → zM → Prop} (R : zRu (d + 3) tX12_upstream 0 (z_hf []) o G) : ∀ (j : Nat) (x1 : Int32) (x2 : Int64) (x4 : Int32) (m : zM), zLK G (fun a => (z_cL a.1, a.2) : Int64 × zM → zO) o (f_X12_upstream_35 j x1 x2 x4 m) some (k + 0) 35 [some (.inr (13, 0)), some (.inl (.int x1)), some (.inl (.long x2)), none, some (.inl (.int x4))] [] m := by
  intro j
  induction j with
  | zero =>
    intro _ _ _ _
    exact zk_none
  | succ j ih =>
    intro x1 x2 x4 m
    unfold f_X12_upstream_35
    refine zk_st R 2 38 [some (.inr (13, 0)), some (.inl (.int x1)), some (.inl (.long x2)), none, some (.inl (.int x4))] [.inr (13, 0), .inl (.int x4)] m rfl ⟨trivial, trivial, trivial⟩ ?_
    refine zk_call R (fun b => some (.inl (.int b))) (fun _ => m) rfl (r_X12_cells (Nat.le_of_ble_eq_true rfl)) (fun b hb => w_X12_cells (d + 2) 0 m b hb) (fun r1 => ?_)
    refine zk_br R rfl (fun _ => ?_) (fun _ => ?_)
    · refine zk_st R 1 68 [some (.inr (13, 0)), some (.inl (.int x1)), some (.inl (.long x2)), none, some (.inl (.int x4))] [.inl (.long x2)] m rfl ⟨trivial, trivial⟩ ?_
      exact zk_ret R rfl trivial rfl
    · refine zk_st R 3 48 [some (.inr (13, 0)), some (.inl (.int x1)), some (.inl (.long x2)), none, some (.inl (.int x4))] [.inl (.int x1), .inl (.int x4), .inr (13, 0)] m rfl ⟨trivial, trivial, trivial, trivial⟩ ?_
      refine zk_call R (fun b => some (.inl (.int (z_bi b)))) (fun _ => m) rfl (r_X12_leadsTo (Nat.le_of_ble_eq_true rfl)) (fun b hb => w_X12_leadsTo d 0 x4 x1 m b hb) (fun r3 => ?_)
      refine zk_br R rfl (fun _ => ?_) (fun _ => ?_)
      · refine zk_st R 2 35 [some (.inr (13, 0)), some (.inl (.int x1)), some (.inl (.long x2)), none, some (.inl (.int (x4 + (1 : Int32))))] [] m rfl ⟨trivial, trivial, trivial⟩ ?_
        refine zk_mask R [true, true, true, false, true] rfl ?_
        exact ih x1 x2 (x4 + (1 : Int32)) m
      · refine zk_st R 8 35 [some (.inr (13, 0)), some (.inl (.int x1)), some (.inl (.long (x2 ||| (z_shl (1 : Int64) x4)))), none, some (.inl (.int (x4 + (1 : Int32))))] [] m rfl ⟨trivial, trivial, trivial, trivial, trivial, trivial, trivial, trivial, trivial⟩ ?_
        refine zk_mask R [true, true, true, false, true] rfl ?_
        exact ih x1 (x2 ||| (z_shl (1 : Int64) x4)) (x4 + (1 : Int32)) m
theorem w_X12_upstream_14 (d k : Nat) {o : zO} {G : Nat → Nat → zL → List zA → zM → Prop} (R : zRu (d + 3) tX12_upstream 0 (z_hf []) o G) (x1 : Int32) (s1 : Int32) (m : zM) : zLK G (fun a => (z_cL a.1, a.2) : Int64 × zM → zO) o (f_X12_upstream_14 x1 s1 m) some (k + 0) 14 [some (.inr (13, 0)), some (.inl (.int x1)), none, none, none] [.inl (.int s1), .inr (13, 0)] m := by
  unfold f_X12_upstream_14
  refine zk_st R 3 21 [some (.inr (13, 0)), some (.inl (.int x1)), none, none, none] [.inl (.int ((z_sI m 13 0 0 s1).1 13 0 0))] (z_sI m 13 0 0 s1) rfl ⟨(Nat.le_of_ble_eq_true rfl), trivial, (Nat.le_of_ble_eq_true rfl), trivial⟩ ?_
  refine zk_br R rfl (fun _ => ?_) (fun _ => ?_)
  · refine zk_st R 1 27 [some (.inr (13, 0)), some (.inl (.int x1)), none, none, none] [.inr (13, 0)] (z_sI m 13 0 0 s1) rfl ⟨trivial, trivial⟩ ?_
    refine zk_call R (fun _ => none) id rfl (r_X12_looks (Nat.le_of_ble_eq_true rfl)) (fun b hb => w_X12_looks d 0 (z_sI m 13 0 0 s1) b hb) (fun r2 => ?_)
    refine zk_st R 4 35 [some (.inr (13, 0)), some (.inl (.int x1)), some (.inl (.long (0 : Int64))), none, some (.inl (.int (0 : Int32)))] [] r2 rfl ⟨trivial, trivial, trivial, trivial, trivial⟩ ?_
    refine zk_mask R [true, true, true, false, true] rfl ?_
    exact w_X12_upstream_35 d k R zF x1 (0 : Int64) (0 : Int32) r2
  · refine zk_st R 1 25 [some (.inr (13, 0)), some (.inl (.int x1)), none, none, none] [.inl (.long (0 : Int64))] (z_sI m 13 0 0 s1) rfl ⟨trivial, trivial⟩ ?_
    exact zk_ret R rfl trivial rfl
theorem w_X12_upstream (d k : Nat) (x1 : Int32) (m : zM) (a : Int64 × zM) (ha : f_X12_upstream x1 m = some a) : z_Ev z_MT zN zRf (d + 4) (k + 0) 218 [.inr (13, 0), .inl (.int x1)] m ((fun a => (z_cL a.1, a.2) : Int64 × zM → zO) a) := by
  refine zk_top (I := (yX12_upstream, cX12_upstream, 5, (some .long), [], tX12_upstream, 13, 1, 13, 0, 0, 0)) (oc := (fun a => (z_cL a.1, a.2) : Int64 × zM → zO)) (a := a) rfl (Nat.le_of_ble_eq_true rfl) (fun G R => ?_) ha
  unfold f_X12_upstream
  refine zk_st R 3 3 [some (.inr (13, 0)), some (.inl (.int x1)), none, none, none] [.inl (.int x1), .inr (13, 0), .inr (13, 0)] m rfl ⟨trivial, trivial, trivial, trivial⟩ ?_
  refine zk_call R (fun b => some (.inl (.int (z_bi b)))) (fun _ => m) rfl (r_X12_isCell (Nat.le_of_ble_eq_true rfl)) (fun b hb => w_X12_isCell (d + 1) 0 x1 m b hb) (fun r1 => ?_)
  refine zk_br R rfl (fun _ => ?_) (fun _ => ?_)
  · refine zk_st R 1 14 [some (.inr (13, 0)), some (.inl (.int x1)), none, none, none] [.inl (.int (1 : Int32)), .inr (13, 0)] m rfl ⟨trivial, trivial⟩ ?_
    refine zk_mask R [true, true, false, false, false] rfl ?_
    exact w_X12_upstream_14 d k R x1 (1 : Int32) m
  · refine zk_st R 2 14 [some (.inr (13, 0)), some (.inl (.int x1)), none, none, none] [.inl (.int (0 : Int32)), .inr (13, 0)] m rfl ⟨trivial, trivial, trivial⟩ ?_
    refine zk_mask R [true, true, false, false, false] rfl ?_
    exact w_X12_upstream_14 d k R x1 (0 : Int32) m
theorem r_X12_head {i : Nat} {t : List zA} (h : i < zN 13) : z_rcv zN (zKD 224) (.inr (13, i) :: t) := by
  rw [show zKD 224 = 13 from rfl]
  exact ⟨rfl, h⟩
noncomputable def f_X12_head_2 (m : zM) : Nat → Int32 → Int32 → Option (Int32)
  | 0, _, _ => none
  | j + 1, x1, x2 =>
    z_gd (z_inb x2 (z_alen 20)) <| if (m.1 20 65 (Int32.toNatClampNeg x2)) = x1 then
      Option.bind (f_X12_feeders x2 m) fun r3 =>
      if r3 = (1 : Int32) then
        f_X12_head_2 m j x1 (x2 + (1 : Int32))
      else
        some x2
    else
      f_X12_head_2 m j x1 (x2 + (1 : Int32))
noncomputable def f_X12_head (x1 : Int32) (m : zM) : Option (Int32) :=
  f_X12_head_2 m zF x1 (0 : Int32)
theorem w_X12_head_2 (d k : Nat) {o : zO} {G : Nat → Nat → zL → List zA → zM → Prop} (m : zM) (R : zRu (d + 3) tX12_head 0 (z_hf []) o G) : ∀ (j : Nat) (x1 : Int32) (x2 : Int32), zLK G (fun a => (z_cI a, m) : Int32 → zO) o (f_X12_head_2 m j x1 x2) some (k + 0) 2 [some (.inr (13, 0)), some (.inl (.int x1)), some (.inl (.int x2))] [] m := by
  intro j
  induction j with
  | zero =>
    intro _ _
    exact zk_none
  | succ j ih =>
    intro x1 x2
    unfold f_X12_head_2
    refine zk_gd fun e1 => ?_
    refine zk_st R 5 9 [some (.inr (13, 0)), some (.inl (.int x1)), some (.inl (.int x2))] [.inl (.int x1), .inl (.int (m.1 20 65 (Int32.toNatClampNeg x2)))] m rfl ⟨trivial, (Nat.le_of_ble_eq_true rfl), trivial, ⟨(Nat.le_of_ble_eq_true rfl), z_inb_in e1⟩, trivial, trivial⟩ ?_
    refine zk_br R rfl (fun _ => ?_) (fun _ => ?_)
    · refine zk_st R 2 14 [some (.inr (13, 0)), some (.inl (.int x1)), some (.inl (.int x2))] [.inl (.int x2), .inr (13, 0)] m rfl ⟨trivial, trivial, trivial⟩ ?_
      refine zk_call R (fun b => some (.inl (.int b))) (fun _ => m) rfl (r_X12_feeders (Nat.le_of_ble_eq_true rfl)) (fun b hb => w_X12_feeders d 0 x2 m b hb) (fun r3 => ?_)
      refine zk_st R 1 18 [some (.inr (13, 0)), some (.inl (.int x1)), some (.inl (.int x2))] [.inl (.int (1 : Int32)), .inl (.int r3)] m rfl ⟨trivial, trivial⟩ ?_
      refine zk_br R rfl (fun _ => ?_) (fun _ => ?_)
      · refine zk_st R 2 2 [some (.inr (13, 0)), some (.inl (.int x1)), some (.inl (.int (x2 + (1 : Int32))))] [] m rfl ⟨trivial, trivial, trivial⟩ ?_
        refine zk_mask R [true, true, true] rfl ?_
        exact ih x1 (x2 + (1 : Int32))
      · refine zk_st R 1 28 [some (.inr (13, 0)), some (.inl (.int x1)), some (.inl (.int x2))] [.inl (.int x2)] m rfl ⟨trivial, trivial⟩ ?_
        exact zk_ret R rfl trivial rfl
    · refine zk_st R 2 2 [some (.inr (13, 0)), some (.inl (.int x1)), some (.inl (.int (x2 + (1 : Int32))))] [] m rfl ⟨trivial, trivial, trivial⟩ ?_
      refine zk_mask R [true, true, true] rfl ?_
      exact ih x1 (x2 + (1 : Int32))
theorem w_X12_head (d k : Nat) (x1 : Int32) (m : zM) (a : Int32) (ha : f_X12_head x1 m = some a) : z_Ev z_MT zN zRf (d + 4) (k + 0) 224 [.inr (13, 0), .inl (.int x1)] m ((fun a => (z_cI a, m) : Int32 → zO) a) := by
  refine zk_top (I := (yX12_head, cX12_head, 3, (some .int), [], tX12_head, 13, 1, 13, 0, 0, 0)) (oc := (fun a => (z_cI a, m) : Int32 → zO)) (a := a) rfl (Nat.le_of_ble_eq_true rfl) (fun G R => ?_) ha
  unfold f_X12_head
  refine zk_st R 2 2 [some (.inr (13, 0)), some (.inl (.int x1)), some (.inl (.int (0 : Int32)))] [] m rfl ⟨trivial, trivial, trivial⟩ ?_
  refine zk_mask R [true, true, true] rfl ?_
  exact w_X12_head_2 d k m R zF x1 (0 : Int32)
theorem r_X12_divides {i : Nat} {t : List zA} (h : i < zN 13) : z_rcv zN (zKD 229) (.inr (13, i) :: t) := by
  rw [show zKD 229 = 13 from rfl]
  exact ⟨rfl, h⟩
noncomputable def f_X12_divides_23 (c13 : Int32 → Int32 → zM → Option (Int32 × zM)) : Nat → Int32 → Int32 → Int32 → zM → Option (Int32 × zM)
  | 0, _, _, _, _ => none
  | j + 1, x1, x2, x3, m =>
    if (3 : Int32) ≤ x3 then
      c13 x1 (x2 + (1 : Int32)) m
    else
      Option.bind (f_X12_next x2 x3 m) fun r2 =>
      if r2 < 0 then
        f_X12_divides_23 c13 j x1 x2 (x3 + (1 : Int32)) m
      else
        Option.bind (f_X12_mouth x2 m) fun r4 =>
        Option.bind (f_X12_next x2 x3 m) fun r5 =>
        Option.bind (f_X12_mouth r5 m) fun r6 =>
        if r4 = r6 then
          f_X12_divides_23 c13 j x1 x2 (x3 + (1 : Int32)) m
        else
          f_X12_divides_23 c13 j (x1 + (1 : Int32)) x2 (x3 + (1 : Int32)) m
noncomputable def f_X12_divides_13 : Nat → Int32 → Int32 → zM → Option (Int32 × zM)
  | 0, _, _, _ => none
  | j + 1, x1, x2, m =>
    Option.bind (f_X12_cells m) fun r1 =>
    if r1 ≤ x2 then
      some (x1, m)
    else
      f_X12_divides_23 (f_X12_divides_13 j) zF x1 x2 (1 : Int32) m
noncomputable def f_X12_divides (m : zM) : Option (Int32 × zM) :=
  Option.bind (f_X12_looks (z_sI m 13 0 0 (0 : Int32))) fun r1 =>
  f_X12_divides_13 zF (0 : Int32) (0 : Int32) r1
theorem w_X12_divides_23 (d k : Nat) {o : zO} {G : Nat → Nat → zL → List zA → zM → Prop} (R : zRu (d + 3) tX12_divides 0 (z_hf []) o G) (c13 : Int32 → Int32 → zM → Option (Int32 × zM)) (hc13 : ∀ (x1 : Int32) (x2 : Int32) (m : zM), zLK G (fun a => (z_cI a.1, a.2) : Int32 × zM → zO) o (c13 x1 x2 m) some (k + 0) 13 [some (.inr (13, 0)), some (.inl (.int x1)), some (.inl (.int x2)), none] [] m) : ∀ (j : Nat) (x1 : Int32) (x2 : Int32) (x3 : Int32) (m : zM), zLK G (fun a => (z_cI a.1, a.2) : Int32 × zM → zO) o (f_X12_divides_23 c13 j x1 x2 x3 m) some (k + 0) 23 [some (.inr (13, 0)), some (.inl (.int x1)), some (.inl (.int x2)), some (.inl (.int x3))] [] m := by
  intro j
  induction j with
  | zero =>
    intro _ _ _ _
    exact zk_none
  | succ j ih =>
    intro x1 x2 x3 m
    unfold f_X12_divides_23
    refine zk_st R 2 25 [some (.inr (13, 0)), some (.inl (.int x1)), some (.inl (.int x2)), some (.inl (.int x3))] [.inl (.int (3 : Int32)), .inl (.int x3)] m rfl ⟨trivial, trivial, trivial⟩ ?_
    refine zk_br R rfl (fun _ => ?_) (fun _ => ?_)
    · refine zk_st R 2 13 [some (.inr (13, 0)), some (.inl (.int x1)), some (.inl (.int (x2 + (1 : Int32)))), some (.inl (.int x3))] [] m rfl ⟨trivial, trivial, trivial⟩ ?_
      refine zk_mask R [true, true, true, false] rfl ?_
      exact hc13 x1 (x2 + (1 : Int32)) m
    · refine zk_st R 3 31 [some (.inr (13, 0)), some (.inl (.int x1)), some (.inl (.int x2)), some (.inl (.int x3))] [.inl (.int x3), .inl (.int x2), .inr (13, 0)] m rfl ⟨trivial, trivial, trivial, trivial⟩ ?_
      refine zk_call R (fun b => some (.inl (.int b))) (fun _ => m) rfl (r_X12_next (Nat.le_of_ble_eq_true rfl)) (fun b hb => w_X12_next (d + 2) 0 x2 x3 m b hb) (fun r2 => ?_)
      refine zk_br R rfl (fun _ => ?_) (fun _ => ?_)
      · refine zk_st R 2 23 [some (.inr (13, 0)), some (.inl (.int x1)), some (.inl (.int x2)), some (.inl (.int (x3 + (1 : Int32))))] [] m rfl ⟨trivial, trivial, trivial⟩ ?_
        refine zk_mask R [true, true, true, true] rfl ?_
        exact ih x1 x2 (x3 + (1 : Int32)) m
      · refine zk_st R 2 39 [some (.inr (13, 0)), some (.inl (.int x1)), some (.inl (.int x2)), some (.inl (.int x3))] [.inl (.int x2), .inr (13, 0)] m rfl ⟨trivial, trivial, trivial⟩ ?_
        refine zk_call R (fun b => some (.inl (.int b))) (fun _ => m) rfl (r_X12_mouth (Nat.le_of_ble_eq_true rfl)) (fun b hb => w_X12_mouth d 0 x2 m b hb) (fun r4 => ?_)
        refine zk_st R 4 46 [some (.inr (13, 0)), some (.inl (.int x1)), some (.inl (.int x2)), some (.inl (.int x3))] [.inl (.int x3), .inl (.int x2), .inr (13, 0), .inr (13, 0), .inl (.int r4)] m rfl ⟨trivial, trivial, trivial, trivial, trivial⟩ ?_
        refine zk_call R (fun b => some (.inl (.int b))) (fun _ => m) rfl (r_X12_next (Nat.le_of_ble_eq_true rfl)) (fun b hb => w_X12_next (d + 2) 0 x2 x3 m b hb) (fun r5 => ?_)
        refine zk_call R (fun b => some (.inl (.int b))) (fun _ => m) rfl (r_X12_mouth (Nat.le_of_ble_eq_true rfl)) (fun b hb => w_X12_mouth d 0 r5 m b hb) (fun r6 => ?_)
        refine zk_br R rfl (fun _ => ?_) (fun _ => ?_)
        · refine zk_st R 2 23 [some (.inr (13, 0)), some (.inl (.int x1)), some (.inl (.int x2)), some (.inl (.int (x3 + (1 : Int32))))] [] m rfl ⟨trivial, trivial, trivial⟩ ?_
          refine zk_mask R [true, true, true, true] rfl ?_
          exact ih x1 x2 (x3 + (1 : Int32)) m
        · refine zk_st R 3 23 [some (.inr (13, 0)), some (.inl (.int (x1 + (1 : Int32)))), some (.inl (.int x2)), some (.inl (.int (x3 + (1 : Int32))))] [] m rfl ⟨trivial, trivial, trivial, trivial⟩ ?_
          refine zk_mask R [true, true, true, true] rfl ?_
          exact ih (x1 + (1 : Int32)) x2 (x3 + (1 : Int32)) m
theorem w_X12_divides_13 (d k : Nat) {o : zO} {G : Nat → Nat → zL → List zA → zM → Prop} (R : zRu (d + 3) tX12_divides 0 (z_hf []) o G) : ∀ (j : Nat) (x1 : Int32) (x2 : Int32) (m : zM), zLK G (fun a => (z_cI a.1, a.2) : Int32 × zM → zO) o (f_X12_divides_13 j x1 x2 m) some (k + 0) 13 [some (.inr (13, 0)), some (.inl (.int x1)), some (.inl (.int x2)), none] [] m := by
  intro j
  induction j with
  | zero =>
    intro _ _ _
    exact zk_none
  | succ j ih =>
    intro x1 x2 m
    unfold f_X12_divides_13
    refine zk_st R 2 15 [some (.inr (13, 0)), some (.inl (.int x1)), some (.inl (.int x2)), none] [.inr (13, 0), .inl (.int x2)] m rfl ⟨trivial, trivial, trivial⟩ ?_
    refine zk_call R (fun b => some (.inl (.int b))) (fun _ => m) rfl (r_X12_cells (Nat.le_of_ble_eq_true rfl)) (fun b hb => w_X12_cells (d + 2) 0 m b hb) (fun r1 => ?_)
    refine zk_br R rfl (fun _ => ?_) (fun _ => ?_)
    · refine zk_st R 1 71 [some (.inr (13, 0)), some (.inl (.int x1)), some (.inl (.int x2)), none] [.inl (.int x1)] m rfl ⟨trivial, trivial⟩ ?_
      exact zk_ret R rfl trivial rfl
    · refine zk_st R 2 23 [some (.inr (13, 0)), some (.inl (.int x1)), some (.inl (.int x2)), some (.inl (.int (1 : Int32)))] [] m rfl ⟨trivial, trivial, trivial⟩ ?_
      refine zk_mask R [true, true, true, true] rfl ?_
      exact w_X12_divides_23 d k R (f_X12_divides_13 j) ih zF x1 x2 (1 : Int32) m
theorem w_X12_divides (d k : Nat) (m : zM) (a : Int32 × zM) (ha : f_X12_divides m = some a) : z_Ev z_MT zN zRf (d + 4) (k + 0) 229 [.inr (13, 0)] m ((fun a => (z_cI a.1, a.2) : Int32 × zM → zO) a) := by
  refine zk_top (I := (yX12_divides, cX12_divides, 4, (some .int), [], tX12_divides, 13, 0, 13, 0, 0, 0)) (oc := (fun a => (z_cI a.1, a.2) : Int32 × zM → zO)) (a := a) rfl (Nat.le_of_ble_eq_true rfl) (fun G R => ?_) ha
  unfold f_X12_divides
  refine zk_st R 4 6 [some (.inr (13, 0)), none, none, none] [.inr (13, 0)] (z_sI m 13 0 0 (0 : Int32)) rfl ⟨trivial, trivial, (Nat.le_of_ble_eq_true rfl), trivial, trivial⟩ ?_
  refine zk_call R (fun _ => none) id rfl (r_X12_looks (Nat.le_of_ble_eq_true rfl)) (fun b hb => w_X12_looks d 0 (z_sI m 13 0 0 (0 : Int32)) b hb) (fun r1 => ?_)
  refine zk_st R 4 13 [some (.inr (13, 0)), some (.inl (.int (0 : Int32))), some (.inl (.int (0 : Int32))), none] [] r1 rfl ⟨trivial, trivial, trivial, trivial, trivial⟩ ?_
  refine zk_mask R [true, true, true, false] rfl ?_
  exact w_X12_divides_13 d k R zF (0 : Int32) (0 : Int32) r1
