theorem r_X11_depthsIf {i : Nat} {t : List zA} (h : i < zN 12) : z_rcv zN (zKD 141) (.inr (12, i) :: t) := by
  rw [show zKD 141 = 12 from rfl]
  exact ⟨rfl, h⟩
noncomputable def f_X11_depthsIf (x1 : Int32) (x2 : Int32) (m : zM) : Option ((Int32 ⊕ Nat) × zM) :=
  z_bx (f_X11_requireCell x1 m) (fun r1 m2 =>
  z_bx (f_X11_requireRange x2 (0 : Int32) (99 : Int32) m2) (fun r3 m4 =>
  Option.bind (f_X4_copyFrom 1 0 m4) fun r5 =>
  Option.bind (f_X7_put 20 3 x1 x2 r5) fun r6 =>
  Option.bind (f_X2_fill 1 r6) fun r7 =>
  Option.bind (f_X4_all 1 r7) fun r8 =>
  Option.bind (f_X7_sum 20 34 r8 r7) fun r9 =>
  some (.inl r9, r7)) id) id
theorem w_X11_depthsIf (d k : Nat) (x1 : Int32) (x2 : Int32) (m : zM) (a : (Int32 ⊕ Nat) × zM) (ha : f_X11_depthsIf x1 x2 m = some a) : z_Ev z_MT zN zRf (d + 5) (k + 2) 141 [.inr (12, 0), .inl (.int x1), .inl (.int x2)] m ((fun a => (z_cX z_cI a.1, a.2) : (Int32 ⊕ Nat) × zM → zO) a) := by
  refine zk_top (I := (yX11_depthsIf, cX11_depthsIf, 3, (some .int), [], tX11_depthsIf, 12, 2, 12, 0, 0, 0)) (oc := (fun a => (z_cX z_cI a.1, a.2) : (Int32 ⊕ Nat) × zM → zO)) (a := a) rfl (Nat.le_of_ble_eq_true rfl) (fun G R => ?_) ha
  unfold f_X11_depthsIf
  refine zk_st R 2 2 [some (.inr (12, 0)), some (.inl (.int x1)), some (.inl (.int x2))] [.inl (.int x1), .inr (12, 0)] m rfl ⟨trivial, trivial, trivial⟩ ?_
  refine zk_callz R (k + 1) 1 (fun _ => none) rfl (r_X11_requireCell (Nat.le_of_ble_eq_true rfl)) (fun b m' hb => w_X11_requireCell (d + 2) 0 x1 m _ hb) (fun e m' hb => w_X11_requireCell (d + 2) 0 x1 m _ hb) (fun _ => rfl) (fun _ _ => rfl) (fun r1 m2 => ?_)
  refine zk_st R 3 9 [some (.inr (12, 0)), some (.inl (.int x1)), some (.inl (.int x2))] [.inl (.int (99 : Int32)), .inl (.int (0 : Int32)), .inl (.int x2)] m2 rfl ⟨trivial, trivial, trivial, trivial⟩ ?_
  refine zk_callz R (k + 0) 1 (fun _ => none) rfl (r_X11_requireRange) (fun b m' hb => w_X11_requireRange (d + 3) 0 x2 (0 : Int32) (99 : Int32) m2 _ hb) (fun e m' hb => w_X11_requireRange (d + 3) 0 x2 (0 : Int32) (99 : Int32) m2 _ hb) (fun _ => rfl) (fun _ _ => rfl) (fun r3 m4 => ?_)
  refine zk_st R 4 20 [some (.inr (12, 0)), some (.inl (.int x1)), some (.inl (.int x2))] [.inr (6, 0), .inr (6, 1)] m4 rfl ⟨trivial, (Nat.le_of_ble_eq_true rfl), trivial, (Nat.le_of_ble_eq_true rfl), trivial⟩ ?_
  refine zk_call R (fun _ => none) id rfl (r_X4_copyFrom (Nat.le_of_ble_eq_true rfl)) (fun b hb => w_X4_copyFrom (d + 2) 0 1 0 (Nat.le_of_ble_eq_true rfl) (Nat.le_of_ble_eq_true rfl) m4 b hb) (fun r5 => ?_)
  refine zk_st R 5 32 [some (.inr (12, 0)), some (.inl (.int x1)), some (.inl (.int x2))] [.inl (.int x2), .inl (.int x1), .inr (20, 3)] r5 rfl ⟨trivial, (Nat.le_of_ble_eq_true rfl), (Nat.le_of_ble_eq_true rfl), trivial, trivial, trivial⟩ ?_
  refine zk_call R (fun _ => none) id rfl (r_X7_put) (fun b hb => w_X7_put_k20 (d + 3) 0 3 (Nat.le_of_ble_eq_true rfl) x1 x2 r5 b hb) (fun r6 => ?_)
  refine zk_st R 4 43 [some (.inr (12, 0)), some (.inl (.int x1)), some (.inl (.int x2))] [.inr (6, 1), .inr (4, 0)] r6 rfl ⟨trivial, (Nat.le_of_ble_eq_true rfl), trivial, (Nat.le_of_ble_eq_true rfl), trivial⟩ ?_
  refine zk_call R (fun _ => none) id rfl (r_X2_fill (Nat.le_of_ble_eq_true rfl)) (fun b hb => w_X2_fill d 0 1 (Nat.le_of_ble_eq_true rfl) r6 b hb) (fun r7 => ?_)
  refine zk_st R 5 57 [some (.inr (12, 0)), some (.inl (.int x1)), some (.inl (.int x2))] [.inr (6, 1), .inr (20, 34)] r7 rfl ⟨trivial, (Nat.le_of_ble_eq_true rfl), (Nat.le_of_ble_eq_true rfl), trivial, (Nat.le_of_ble_eq_true rfl), trivial⟩ ?_
  refine zk_call R (fun b => some (.inl (.long b))) (fun _ => r7) rfl (r_X4_all (Nat.le_of_ble_eq_true rfl)) (fun b hb => w_X4_all (d + 2) 0 1 (Nat.le_of_ble_eq_true rfl) r7 b hb) (fun r8 => ?_)
  refine zk_call R (fun b => some (.inl (.int b))) (fun _ => r7) rfl (r_X7_sum) (fun b hb => w_X7_sum_k20 (d + 2) 0 34 (Nat.le_of_ble_eq_true rfl) r8 r7 b hb) (fun r9 => ?_)
  exact zk_ret R rfl trivial rfl
theorem r_X11_requireLake {i : Nat} {t : List zA} (h : i < zN 12) : z_rcv zN (zKD 152) (.inr (12, i) :: t) := by
  rw [show zKD 152 = 12 from rfl]
  exact ⟨rfl, h⟩
noncomputable def f_X11_requireLake (x1 : Int32) (m : zM) : Option ((Unit ⊕ Nat) × zM) :=
  Option.bind (f_X2_fill 0 m) fun r1 =>
  if x1 < 0 then
    some (.inr 1, r1)
  else
    if x1 < (r1.1 4 0 4) then
      some (.inl (), r1)
    else
      some (.inr 1, r1)
theorem w_X11_requireLake (d k : Nat) (x1 : Int32) (m : zM) (a : (Unit ⊕ Nat) × zM) (ha : f_X11_requireLake x1 m = some a) : z_Ev z_MT zN zRf (d + 5) (k + 1) 152 [.inr (12, 0), .inl (.int x1)] m ((fun a => (z_cX z_cU a.1, a.2) : (Unit ⊕ Nat) × zM → zO) a) := by
  refine zk_top (I := (yX11_requireLake, cX11_requireLake, 2, none, [], tX11_requireLake, 12, 1, 12, 0, 0, 0)) (oc := (fun a => (z_cX z_cU a.1, a.2) : (Unit ⊕ Nat) × zM → zO)) (a := a) rfl (Nat.le_of_ble_eq_true rfl) (fun G R => ?_) ha
  unfold f_X11_requireLake
  refine zk_st R 4 8 [some (.inr (12, 0)), some (.inl (.int x1))] [.inr (6, 0), .inr (4, 0)] m rfl ⟨trivial, (Nat.le_of_ble_eq_true rfl), trivial, (Nat.le_of_ble_eq_true rfl), trivial⟩ ?_
  refine zk_call R (fun _ => none) id rfl (r_X2_fill (Nat.le_of_ble_eq_true rfl)) (fun b hb => w_X2_fill d 0 0 (Nat.le_of_ble_eq_true rfl) m b hb) (fun r1 => ?_)
  refine zk_st R 1 12 [some (.inr (12, 0)), some (.inl (.int x1))] [.inl (.int x1)] r1 rfl ⟨trivial, trivial⟩ ?_
  refine zk_br R rfl (fun _ => ?_) (fun _ => ?_)
  · exact zk_thr R (k := k + 0) rfl rfl
  · refine zk_st R 4 23 [some (.inr (12, 0)), some (.inl (.int x1))] [.inl (.int (r1.1 4 0 4)), .inl (.int x1)] r1 rfl ⟨trivial, trivial, (Nat.le_of_ble_eq_true rfl), (Nat.le_of_ble_eq_true rfl), trivial⟩ ?_
    refine zk_br R rfl (fun _ => ?_) (fun _ => ?_)
    · exact zk_ret R rfl trivial rfl
    · exact zk_thr R (k := k + 0) rfl rfl
theorem r_X12_streams {i : Nat} {t : List zA} (h : i < zN 13) : z_rcv zN (zKD 191) (.inr (13, i) :: t) := by
  rw [show zKD 191 = 13 from rfl]
  exact ⟨rfl, h⟩
noncomputable def f_X12_streams_176 (c100 : Int32 → zM → Option (zM)) (c132 : Int32 → Int32 → Int32 → zM → Option (zM)) (x1 : Int32) (x2 : Int32) (m : zM) : Option (zM) :=
  c132 x1 x2 (0 : Int32) m
noncomputable def f_X12_streams_132 (c100 : Int32 → zM → Option (zM)) : Nat → Int32 → Int32 → Int32 → zM → Option (zM)
  | 0, _, _, _, _ => none
  | j + 1, x1, x2, x3, m =>
    if x3 = 0 then
      c100 (x1 + (1 : Int32)) (z_sI m 13 0 18 ((m.1 13 0 18) + (1 : Int32)))
    else
      z_gd (z_inb x2 (z_alen 20)) <| Option.bind (f_X12_onward x2 (z_sI m 20 65 (Int32.toNatClampNeg x2) (m.1 13 0 18))) fun r3 =>
      if r3 < 0 then
        f_X12_streams_176 c100 (f_X12_streams_132 c100 j) x1 r3 (z_sI m 20 65 (Int32.toNatClampNeg x2) (m.1 13 0 18))
      else
        Option.bind (f_X12_isStream r3 (z_sI m 20 65 (Int32.toNatClampNeg x2) (m.1 13 0 18))) fun r5 =>
        if (z_bi r5) = 0 then
          f_X12_streams_176 c100 (f_X12_streams_132 c100 j) x1 r3 (z_sI m 20 65 (Int32.toNatClampNeg x2) (m.1 13 0 18))
        else
          Option.bind (f_X12_isJunction r3 (z_sI m 20 65 (Int32.toNatClampNeg x2) (m.1 13 0 18))) fun r7 =>
          if (z_bi r7) = 0 then
            f_X12_streams_132 c100 j x1 r3 (1 : Int32) (z_sI m 20 65 (Int32.toNatClampNeg x2) (m.1 13 0 18))
          else
            f_X12_streams_176 c100 (f_X12_streams_132 c100 j) x1 r3 (z_sI m 20 65 (Int32.toNatClampNeg x2) (m.1 13 0 18))
noncomputable def f_X12_streams_100 : Nat → Int32 → zM → Option (zM)
  | 0, _, _ => none
  | j + 1, x1, m =>
    Option.bind (f_X12_cells m) fun r1 =>
    if r1 ≤ x1 then
      some m
    else
      Option.bind (f_X12_isStream x1 m) fun r3 =>
      if (z_bi r3) = 0 then
        f_X12_streams_100 j (x1 + (1 : Int32)) m
      else
        Option.bind (f_X12_feeders x1 m) fun r5 =>
        if r5 = (1 : Int32) then
          f_X12_streams_100 j (x1 + (1 : Int32)) m
        else
          f_X12_streams_132 (f_X12_streams_100 j) zF x1 x1 (1 : Int32) m
noncomputable def f_X12_streams_45 (c39 : Int32 → zM → Option (zM)) : Nat → Int32 → Int32 → zM → Option (zM)
  | 0, _, _, _ => none
  | j + 1, x1, x2, m =>
    Option.bind (f_X12_cells m) fun r1 =>
    if r1 ≤ x2 then
      c39 (x1 + (-1 : Int32)) m
    else
      Option.bind (f_X12_isStream x2 m) fun r3 =>
      if (z_bi r3) = 0 then
        f_X12_streams_45 c39 j x1 (x2 + (1 : Int32)) m
      else
        Option.bind (f_X12_stepsOf x2 m) fun r5 =>
        if r5 = x1 then
          Option.bind (f_X12_orderBy x2 m) fun r7 =>
          z_gd (z_inb x2 (z_alen 20)) <| f_X12_streams_45 c39 j x1 (x2 + (1 : Int32)) (z_sI m 20 64 (Int32.toNatClampNeg x2) r7)
        else
          f_X12_streams_45 c39 j x1 (x2 + (1 : Int32)) m
noncomputable def f_X12_streams_39 : Nat → Int32 → zM → Option (zM)
  | 0, _, _ => none
  | j + 1, x1, m =>
    if x1 < 0 then
      f_X12_streams_100 zF (0 : Int32) (z_sI m 13 0 18 (0 : Int32))
    else
      f_X12_streams_45 (f_X12_streams_39 j) zF x1 (0 : Int32) m
noncomputable def f_X12_streams_6 : Nat → Int32 → zM → Option (zM)
  | 0, _, _ => none
  | j + 1, x1, m =>
    Option.bind (f_X12_cells m) fun r1 =>
    if r1 ≤ x1 then
      Option.bind (f_X12_cells m) fun r3 =>
      f_X12_streams_39 zF r3 m
    else
      z_gd (z_inb x1 (z_alen 20)) <| f_X12_streams_6 j (x1 + (1 : Int32)) (z_sI (z_sI m 20 64 (Int32.toNatClampNeg x1) (0 : Int32)) 20 65 (Int32.toNatClampNeg x1) (-1 : Int32))
noncomputable def f_X12_streams (m : zM) : Option (zM) :=
  Option.bind (f_X12_waters m) fun r1 =>
  f_X12_streams_6 zF (0 : Int32) r1
theorem w_X12_streams_176 (d k : Nat) {o : zO} {G : Nat → Nat → zL → List zA → zM → Prop} (R : zRu (d + 4) tX12_streams 0 (z_hf []) o G) (c100 : Int32 → zM → Option (zM)) (c132 : Int32 → Int32 → Int32 → zM → Option (zM)) (hc100 : ∀ (x1 : Int32) (m : zM), zLK G (fun a => (.inl none, a) : zM → zO) o (c100 x1 m) some (k + 0) 100 [some (.inr (13, 0)), some (.inl (.int x1)), none, none] [] m) (hc132 : ∀ (x1 : Int32) (x2 : Int32) (x3 : Int32) (m : zM), zLK G (fun a => (.inl none, a) : zM → zO) o (c132 x1 x2 x3 m) some (k + 0) 132 [some (.inr (13, 0)), some (.inl (.int x1)), some (.inl (.int x2)), some (.inl (.int x3))] [] m) (x1 : Int32) (x2 : Int32) (m : zM) : zLK G (fun a => (.inl none, a) : zM → zO) o (f_X12_streams_176 c100 c132 x1 x2 m) some (k + 0) 176 [some (.inr (13, 0)), some (.inl (.int x1)), some (.inl (.int x2)), none] [] m := by
  unfold f_X12_streams_176
  refine zk_st R 3 132 [some (.inr (13, 0)), some (.inl (.int x1)), some (.inl (.int x2)), some (.inl (.int (0 : Int32)))] [] m rfl ⟨trivial, trivial, trivial, trivial⟩ ?_
  refine zk_mask R [true, true, true, true] rfl ?_
  exact hc132 x1 x2 (0 : Int32) m
theorem w_X12_streams_132 (d k : Nat) {o : zO} {G : Nat → Nat → zL → List zA → zM → Prop} (R : zRu (d + 4) tX12_streams 0 (z_hf []) o G) (c100 : Int32 → zM → Option (zM)) (hc100 : ∀ (x1 : Int32) (m : zM), zLK G (fun a => (.inl none, a) : zM → zO) o (c100 x1 m) some (k + 0) 100 [some (.inr (13, 0)), some (.inl (.int x1)), none, none] [] m) : ∀ (j : Nat) (x1 : Int32) (x2 : Int32) (x3 : Int32) (m : zM), zLK G (fun a => (.inl none, a) : zM → zO) o (f_X12_streams_132 c100 j x1 x2 x3 m) some (k + 0) 132 [some (.inr (13, 0)), some (.inl (.int x1)), some (.inl (.int x2)), some (.inl (.int x3))] [] m := by
  intro j
  induction j with
  | zero =>
    intro _ _ _ _
    exact zk_none
  | succ j ih =>
    intro x1 x2 x3 m
    unfold f_X12_streams_132
    refine zk_st R 1 133 [some (.inr (13, 0)), some (.inl (.int x1)), some (.inl (.int x2)), some (.inl (.int x3))] [.inl (.int x3)] m rfl ⟨trivial, trivial⟩ ?_
    refine zk_br R rfl (fun _ => ?_) (fun _ => ?_)
    · refine zk_st R 8 100 [some (.inr (13, 0)), some (.inl (.int (x1 + (1 : Int32)))), some (.inl (.int x2)), some (.inl (.int x3))] [] (z_sI m 13 0 18 ((m.1 13 0 18) + (1 : Int32))) rfl ⟨trivial, trivial, (Nat.le_of_ble_eq_true rfl), trivial, trivial, (Nat.le_of_ble_eq_true rfl), trivial, trivial, trivial⟩ ?_
      refine zk_mask R [true, true, false, false] rfl ?_
      exact hc100 (x1 + (1 : Int32)) (z_sI m 13 0 18 ((m.1 13 0 18) + (1 : Int32)))
    · refine zk_gd fun e2 => ?_
      refine zk_st R 8 148 [some (.inr (13, 0)), some (.inl (.int x1)), some (.inl (.int x2)), some (.inl (.int x3))] [.inl (.int x2), .inr (13, 0)] (z_sI m 20 65 (Int32.toNatClampNeg x2) (m.1 13 0 18)) rfl ⟨trivial, (Nat.le_of_ble_eq_true rfl), trivial, trivial, (Nat.le_of_ble_eq_true rfl), ⟨(Nat.le_of_ble_eq_true rfl), z_inb_in e2⟩, trivial, trivial, trivial⟩ ?_
      refine zk_call R (fun b => some (.inl (.int b))) (fun _ => (z_sI m 20 65 (Int32.toNatClampNeg x2) (m.1 13 0 18))) rfl (r_X12_onward (Nat.le_of_ble_eq_true rfl)) (fun b hb => w_X12_onward (d + 2) 0 x2 (z_sI m 20 65 (Int32.toNatClampNeg x2) (m.1 13 0 18)) b hb) (fun r3 => ?_)
      refine zk_st R 2 153 [some (.inr (13, 0)), some (.inl (.int x1)), some (.inl (.int r3)), some (.inl (.int x3))] [.inl (.int r3)] (z_sI m 20 65 (Int32.toNatClampNeg x2) (m.1 13 0 18)) rfl ⟨trivial, trivial, trivial⟩ ?_
      refine zk_br R rfl (fun _ => ?_) (fun _ => ?_)
      · refine zk_mask R [true, true, true, false] rfl ?_
        exact w_X12_streams_176 d k R c100 (f_X12_streams_132 c100 j) hc100 ih x1 r3 (z_sI m 20 65 (Int32.toNatClampNeg x2) (m.1 13 0 18))
      · refine zk_st R 2 158 [some (.inr (13, 0)), some (.inl (.int x1)), some (.inl (.int r3)), some (.inl (.int x3))] [.inl (.int r3), .inr (13, 0)] (z_sI m 20 65 (Int32.toNatClampNeg x2) (m.1 13 0 18)) rfl ⟨trivial, trivial, trivial⟩ ?_
        refine zk_call R (fun b => some (.inl (.int (z_bi b)))) (fun _ => (z_sI m 20 65 (Int32.toNatClampNeg x2) (m.1 13 0 18))) rfl (r_X12_isStream (Nat.le_of_ble_eq_true rfl)) (fun b hb => w_X12_isStream (d + 3) 0 r3 (z_sI m 20 65 (Int32.toNatClampNeg x2) (m.1 13 0 18)) b hb) (fun r5 => ?_)
        refine zk_br R rfl (fun _ => ?_) (fun _ => ?_)
        · refine zk_mask R [true, true, true, false] rfl ?_
          exact w_X12_streams_176 d k R c100 (f_X12_streams_132 c100 j) hc100 ih x1 r3 (z_sI m 20 65 (Int32.toNatClampNeg x2) (m.1 13 0 18))
        · refine zk_st R 2 166 [some (.inr (13, 0)), some (.inl (.int x1)), some (.inl (.int r3)), some (.inl (.int x3))] [.inl (.int r3), .inr (13, 0)] (z_sI m 20 65 (Int32.toNatClampNeg x2) (m.1 13 0 18)) rfl ⟨trivial, trivial, trivial⟩ ?_
          refine zk_call R (fun b => some (.inl (.int (z_bi b)))) (fun _ => (z_sI m 20 65 (Int32.toNatClampNeg x2) (m.1 13 0 18))) rfl (r_X12_isJunction (Nat.le_of_ble_eq_true rfl)) (fun b hb => w_X12_isJunction d 0 r3 (z_sI m 20 65 (Int32.toNatClampNeg x2) (m.1 13 0 18)) b hb) (fun r7 => ?_)
          refine zk_br R rfl (fun _ => ?_) (fun _ => ?_)
          · refine zk_st R 4 132 [some (.inr (13, 0)), some (.inl (.int x1)), some (.inl (.int r3)), some (.inl (.int (1 : Int32)))] [] (z_sI m 20 65 (Int32.toNatClampNeg x2) (m.1 13 0 18)) rfl ⟨trivial, trivial, trivial, trivial, trivial⟩ ?_
            refine zk_mask R [true, true, true, true] rfl ?_
            exact ih x1 r3 (1 : Int32) (z_sI m 20 65 (Int32.toNatClampNeg x2) (m.1 13 0 18))
          · refine zk_mask R [true, true, true, false] rfl ?_
            exact w_X12_streams_176 d k R c100 (f_X12_streams_132 c100 j) hc100 ih x1 r3 (z_sI m 20 65 (Int32.toNatClampNeg x2) (m.1 13 0 18))
theorem w_X12_streams_100 (d k : Nat) {o : zO} {G : Nat → Nat → zL → List zA → zM → Prop} (R : zRu (d + 4) tX12_streams 0 (z_hf []) o G) : ∀ (j : Nat) (x1 : Int32) (m : zM), zLK G (fun a => (.inl none, a) : zM → zO) o (f_X12_streams_100 j x1 m) some (k + 0) 100 [some (.inr (13, 0)), some (.inl (.int x1)), none, none] [] m := by
  intro j
  induction j with
  | zero =>
    intro _ _
    exact zk_none
  | succ j ih =>
    intro x1 m
    unfold f_X12_streams_100
    refine zk_st R 2 102 [some (.inr (13, 0)), some (.inl (.int x1)), none, none] [.inr (13, 0), .inl (.int x1)] m rfl ⟨trivial, trivial, trivial⟩ ?_
    refine zk_call R (fun b => some (.inl (.int b))) (fun _ => m) rfl (r_X12_cells (Nat.le_of_ble_eq_true rfl)) (fun b hb => w_X12_cells (d + 3) 0 m b hb) (fun r1 => ?_)
    refine zk_br R rfl (fun _ => ?_) (fun _ => ?_)
    · exact zk_ret R rfl trivial rfl
    · refine zk_st R 2 110 [some (.inr (13, 0)), some (.inl (.int x1)), none, none] [.inl (.int x1), .inr (13, 0)] m rfl ⟨trivial, trivial, trivial⟩ ?_
      refine zk_call R (fun b => some (.inl (.int (z_bi b)))) (fun _ => m) rfl (r_X12_isStream (Nat.le_of_ble_eq_true rfl)) (fun b hb => w_X12_isStream (d + 3) 0 x1 m b hb) (fun r3 => ?_)
      refine zk_br R rfl (fun _ => ?_) (fun _ => ?_)
      · refine zk_st R 2 100 [some (.inr (13, 0)), some (.inl (.int (x1 + (1 : Int32)))), none, none] [] m rfl ⟨trivial, trivial, trivial⟩ ?_
        refine zk_mask R [true, true, false, false] rfl ?_
        exact ih (x1 + (1 : Int32)) m
      · refine zk_st R 2 118 [some (.inr (13, 0)), some (.inl (.int x1)), none, none] [.inl (.int x1), .inr (13, 0)] m rfl ⟨trivial, trivial, trivial⟩ ?_
        refine zk_call R (fun b => some (.inl (.int b))) (fun _ => m) rfl (r_X12_feeders (Nat.le_of_ble_eq_true rfl)) (fun b hb => w_X12_feeders (d + 1) 0 x1 m b hb) (fun r5 => ?_)
        refine zk_st R 1 122 [some (.inr (13, 0)), some (.inl (.int x1)), none, none] [.inl (.int (1 : Int32)), .inl (.int r5)] m rfl ⟨trivial, trivial⟩ ?_
        refine zk_br R rfl (fun _ => ?_) (fun _ => ?_)
        · refine zk_st R 3 100 [some (.inr (13, 0)), some (.inl (.int (x1 + (1 : Int32)))), none, none] [] m rfl ⟨trivial, trivial, trivial, trivial⟩ ?_
          refine zk_mask R [true, true, false, false] rfl ?_
          exact ih (x1 + (1 : Int32)) m
        · refine zk_st R 4 132 [some (.inr (13, 0)), some (.inl (.int x1)), some (.inl (.int x1)), some (.inl (.int (1 : Int32)))] [] m rfl ⟨trivial, trivial, trivial, trivial, trivial⟩ ?_
          refine zk_mask R [true, true, true, true] rfl ?_
          exact w_X12_streams_132 d k R (f_X12_streams_100 j) ih zF x1 x1 (1 : Int32) m
theorem w_X12_streams_45 (d k : Nat) {o : zO} {G : Nat → Nat → zL → List zA → zM → Prop} (R : zRu (d + 4) tX12_streams 0 (z_hf []) o G) (c39 : Int32 → zM → Option (zM)) (hc39 : ∀ (x1 : Int32) (m : zM), zLK G (fun a => (.inl none, a) : zM → zO) o (c39 x1 m) some (k + 0) 39 [some (.inr (13, 0)), some (.inl (.int x1)), none, none] [] m) : ∀ (j : Nat) (x1 : Int32) (x2 : Int32) (m : zM), zLK G (fun a => (.inl none, a) : zM → zO) o (f_X12_streams_45 c39 j x1 x2 m) some (k + 0) 45 [some (.inr (13, 0)), some (.inl (.int x1)), some (.inl (.int x2)), none] [] m := by
  intro j
  induction j with
  | zero =>
    intro _ _ _
    exact zk_none
  | succ j ih =>
    intro x1 x2 m
    unfold f_X12_streams_45
    refine zk_st R 2 47 [some (.inr (13, 0)), some (.inl (.int x1)), some (.inl (.int x2)), none] [.inr (13, 0), .inl (.int x2)] m rfl ⟨trivial, trivial, trivial⟩ ?_
    refine zk_call R (fun b => some (.inl (.int b))) (fun _ => m) rfl (r_X12_cells (Nat.le_of_ble_eq_true rfl)) (fun b hb => w_X12_cells (d + 3) 0 m b hb) (fun r1 => ?_)
    refine zk_br R rfl (fun _ => ?_) (fun _ => ?_)
    · refine zk_st R 2 39 [some (.inr (13, 0)), some (.inl (.int (x1 + (-1 : Int32)))), some (.inl (.int x2)), none] [] m rfl ⟨trivial, trivial, trivial⟩ ?_
      refine zk_mask R [true, true, false, false] rfl ?_
      exact hc39 (x1 + (-1 : Int32)) m
    · refine zk_st R 2 55 [some (.inr (13, 0)), some (.inl (.int x1)), some (.inl (.int x2)), none] [.inl (.int x2), .inr (13, 0)] m rfl ⟨trivial, trivial, trivial⟩ ?_
      refine zk_call R (fun b => some (.inl (.int (z_bi b)))) (fun _ => m) rfl (r_X12_isStream (Nat.le_of_ble_eq_true rfl)) (fun b hb => w_X12_isStream (d + 3) 0 x2 m b hb) (fun r3 => ?_)
      refine zk_br R rfl (fun _ => ?_) (fun _ => ?_)
      · refine zk_st R 2 45 [some (.inr (13, 0)), some (.inl (.int x1)), some (.inl (.int (x2 + (1 : Int32)))), none] [] m rfl ⟨trivial, trivial, trivial⟩ ?_
        refine zk_mask R [true, true, true, false] rfl ?_
        exact ih x1 (x2 + (1 : Int32)) m
      · refine zk_st R 2 63 [some (.inr (13, 0)), some (.inl (.int x1)), some (.inl (.int x2)), none] [.inl (.int x2), .inr (13, 0)] m rfl ⟨trivial, trivial, trivial⟩ ?_
        refine zk_call R (fun b => some (.inl (.int b))) (fun _ => m) rfl (r_X12_stepsOf (Nat.le_of_ble_eq_true rfl)) (fun b hb => w_X12_stepsOf (d + 1) 0 x2 m b hb) (fun r5 => ?_)
        refine zk_st R 1 67 [some (.inr (13, 0)), some (.inl (.int x1)), some (.inl (.int x2)), none] [.inl (.int x1), .inl (.int r5)] m rfl ⟨trivial, trivial⟩ ?_
        refine zk_br R rfl (fun _ => ?_) (fun _ => ?_)
        · refine zk_st R 5 77 [some (.inr (13, 0)), some (.inl (.int x1)), some (.inl (.int x2)), none] [.inl (.int x2), .inr (13, 0), .inl (.int x2), .inr (20, 64)] m rfl ⟨trivial, (Nat.le_of_ble_eq_true rfl), trivial, trivial, trivial, trivial⟩ ?_
          refine zk_call R (fun b => some (.inl (.int b))) (fun _ => m) rfl (r_X12_orderBy (Nat.le_of_ble_eq_true rfl)) (fun b hb => w_X12_orderBy (d + 1) 0 x2 m b hb) (fun r7 => ?_)
          refine zk_gd fun e8 => ?_
          refine zk_st R 3 45 [some (.inr (13, 0)), some (.inl (.int x1)), some (.inl (.int (x2 + (1 : Int32)))), none] [] (z_sI m 20 64 (Int32.toNatClampNeg x2) r7) rfl ⟨⟨(Nat.le_of_ble_eq_true rfl), z_inb_in e8⟩, trivial, trivial, trivial⟩ ?_
          refine zk_mask R [true, true, true, false] rfl ?_
          exact ih x1 (x2 + (1 : Int32)) (z_sI m 20 64 (Int32.toNatClampNeg x2) r7)
        · refine zk_st R 2 45 [some (.inr (13, 0)), some (.inl (.int x1)), some (.inl (.int (x2 + (1 : Int32)))), none] [] m rfl ⟨trivial, trivial, trivial⟩ ?_
          refine zk_mask R [true, true, true, false] rfl ?_
          exact ih x1 (x2 + (1 : Int32)) m
theorem w_X12_streams_39 (d k : Nat) {o : zO} {G : Nat → Nat → zL → List zA → zM → Prop} (R : zRu (d + 4) tX12_streams 0 (z_hf []) o G) : ∀ (j : Nat) (x1 : Int32) (m : zM), zLK G (fun a => (.inl none, a) : zM → zO) o (f_X12_streams_39 j x1 m) some (k + 0) 39 [some (.inr (13, 0)), some (.inl (.int x1)), none, none] [] m := by
  intro j
  induction j with
  | zero =>
    intro _ _
    exact zk_none
  | succ j ih =>
    intro x1 m
    unfold f_X12_streams_39
    refine zk_st R 1 40 [some (.inr (13, 0)), some (.inl (.int x1)), none, none] [.inl (.int x1)] m rfl ⟨trivial, trivial⟩ ?_
    refine zk_br R rfl (fun _ => ?_) (fun _ => ?_)
    · refine zk_st R 5 100 [some (.inr (13, 0)), some (.inl (.int (0 : Int32))), none, none] [] (z_sI m 13 0 18 (0 : Int32)) rfl ⟨trivial, trivial, (Nat.le_of_ble_eq_true rfl), trivial, trivial, trivial⟩ ?_
      refine zk_mask R [true, true, false, false] rfl ?_
      exact w_X12_streams_100 d k R zF (0 : Int32) (z_sI m 13 0 18 (0 : Int32))
    · refine zk_st R 2 45 [some (.inr (13, 0)), some (.inl (.int x1)), some (.inl (.int (0 : Int32))), none] [] m rfl ⟨trivial, trivial, trivial⟩ ?_
      refine zk_mask R [true, true, true, false] rfl ?_
      exact w_X12_streams_45 d k R (f_X12_streams_39 j) ih zF x1 (0 : Int32) m
theorem w_X12_streams_6 (d k : Nat) {o : zO} {G : Nat → Nat → zL → List zA → zM → Prop} (R : zRu (d + 4) tX12_streams 0 (z_hf []) o G) : ∀ (j : Nat) (x1 : Int32) (m : zM), zLK G (fun a => (.inl none, a) : zM → zO) o (f_X12_streams_6 j x1 m) some (k + 0) 6 [some (.inr (13, 0)), some (.inl (.int x1)), none, none] [] m := by
  intro j
  induction j with
  | zero =>
    intro _ _
    exact zk_none
  | succ j ih =>
    intro x1 m
    unfold f_X12_streams_6
    refine zk_st R 2 8 [some (.inr (13, 0)), some (.inl (.int x1)), none, none] [.inr (13, 0), .inl (.int x1)] m rfl ⟨trivial, trivial, trivial⟩ ?_
    refine zk_call R (fun b => some (.inl (.int b))) (fun _ => m) rfl (r_X12_cells (Nat.le_of_ble_eq_true rfl)) (fun b hb => w_X12_cells (d + 3) 0 m b hb) (fun r1 => ?_)
    refine zk_br R rfl (fun _ => ?_) (fun _ => ?_)
    · refine zk_st R 1 35 [some (.inr (13, 0)), some (.inl (.int x1)), none, none] [.inr (13, 0)] m rfl ⟨trivial, trivial⟩ ?_
      refine zk_call R (fun b => some (.inl (.int b))) (fun _ => m) rfl (r_X12_cells (Nat.le_of_ble_eq_true rfl)) (fun b hb => w_X12_cells (d + 3) 0 m b hb) (fun r3 => ?_)
      refine zk_st R 1 39 [some (.inr (13, 0)), some (.inl (.int r3)), none, none] [] m rfl ⟨trivial, trivial⟩ ?_
      refine zk_mask R [true, true, false, false] rfl ?_
      exact w_X12_streams_39 d k R zF r3 m
    · refine zk_gd fun e4 => ?_
      refine zk_st R 12 6 [some (.inr (13, 0)), some (.inl (.int (x1 + (1 : Int32)))), none, none] [] (z_sI (z_sI m 20 64 (Int32.toNatClampNeg x1) (0 : Int32)) 20 65 (Int32.toNatClampNeg x1) (-1 : Int32)) rfl ⟨trivial, (Nat.le_of_ble_eq_true rfl), trivial, trivial, ⟨(Nat.le_of_ble_eq_true rfl), z_inb_in e4⟩, trivial, (Nat.le_of_ble_eq_true rfl), trivial, trivial, ⟨(Nat.le_of_ble_eq_true rfl), z_inb_in e4⟩, trivial, trivial, trivial⟩ ?_
      refine zk_mask R [true, true, false, false] rfl ?_
      exact ih (x1 + (1 : Int32)) (z_sI (z_sI m 20 64 (Int32.toNatClampNeg x1) (0 : Int32)) 20 65 (Int32.toNatClampNeg x1) (-1 : Int32))
theorem w_X12_streams (d k : Nat) (m : zM) (a : zM) (ha : f_X12_streams m = some a) : z_Ev z_MT zN zRf (d + 5) (k + 0) 191 [.inr (13, 0)] m ((fun a => (.inl none, a) : zM → zO) a) := by
  refine zk_top (I := (yX12_streams, cX12_streams, 4, none, [], tX12_streams, 13, 0, 13, 0, 0, 0)) (oc := (fun a => (.inl none, a) : zM → zO)) (a := a) rfl (Nat.le_of_ble_eq_true rfl) (fun G R => ?_) ha
  unfold f_X12_streams
  refine zk_st R 1 1 [some (.inr (13, 0)), none, none, none] [.inr (13, 0)] m rfl ⟨trivial, trivial⟩ ?_
  refine zk_call R (fun _ => none) id rfl (r_X12_waters (Nat.le_of_ble_eq_true rfl)) (fun b hb => w_X12_waters d 0 m b hb) (fun r1 => ?_)
  refine zk_st R 2 6 [some (.inr (13, 0)), some (.inl (.int (0 : Int32))), none, none] [] r1 rfl ⟨trivial, trivial, trivial⟩ ?_
  refine zk_mask R [true, true, false, false] rfl ?_
  exact w_X12_streams_6 d k R zF (0 : Int32) r1
theorem r_X12_isLake {i : Nat} {t : List zA} (h : i < zN 13) : z_rcv zN (zKD 203) (.inr (13, i) :: t) := by
  rw [show zKD 203 = 13 from rfl]
  exact ⟨rfl, h⟩
noncomputable def f_X12_isLake (x1 : Int32) (m : zM) : Option (Bool × zM) :=
  Option.bind (f_X12_lakes m) fun r1 =>
  Option.bind (f_X12_in (Int32.toInt64 x1) (0 : Int64) (Int32.toInt64 ((r1.1 13 0 18) - (1 : Int32))) r1) fun r2 =>
  some (r2, r1)
theorem w_X12_isLake (d k : Nat) (x1 : Int32) (m : zM) (a : Bool × zM) (ha : f_X12_isLake x1 m = some a) : z_Ev z_MT zN zRf (d + 5) (k + 0) 203 [.inr (13, 0), .inl (.int x1)] m ((fun a => (z_cB a.1, a.2) : Bool × zM → zO) a) := by
  refine zk_top (I := (yX12_isLake, cX12_isLake, 2, (some .boolean), [], tX12_isLake, 13, 1, 13, 0, 0, 0)) (oc := (fun a => (z_cB a.1, a.2) : Bool × zM → zO)) (a := a) rfl (Nat.le_of_ble_eq_true rfl) (fun G R => ?_) ha
  unfold f_X12_isLake
  refine zk_st R 1 1 [some (.inr (13, 0)), some (.inl (.int x1))] [.inr (13, 0)] m rfl ⟨trivial, trivial⟩ ?_
  refine zk_call R (fun _ => none) id rfl (r_X12_lakes (Nat.le_of_ble_eq_true rfl)) (fun b hb => w_X12_lakes d 0 m b hb) (fun r1 => ?_)
  refine zk_st R 8 14 [some (.inr (13, 0)), some (.inl (.int x1))] [.inl (.long (Int32.toInt64 ((r1.1 13 0 18) - (1 : Int32)))), .inl (.long (0 : Int64)), .inl (.long (Int32.toInt64 x1))] r1 rfl ⟨trivial, trivial, trivial, trivial, (Nat.le_of_ble_eq_true rfl), trivial, trivial, trivial, trivial⟩ ?_
  refine zk_call R (fun b => some (.inl (.int (z_bi b)))) (fun _ => r1) rfl (r_X12_in) (fun b hb => w_X12_in (d + 3) 0 (Int32.toInt64 x1) (0 : Int64) (Int32.toInt64 ((r1.1 13 0 18) - (1 : Int32))) r1 b hb) (fun r2 => ?_)
  exact zk_ret R rfl (z_bi01 _) rfl
theorem r_X12_lakeOf {i : Nat} {t : List zA} (h : i < zN 13) : z_rcv zN (zKD 208) (.inr (13, i) :: t) := by
  rw [show zKD 208 = 13 from rfl]
  exact ⟨rfl, h⟩
noncomputable def f_X12_lakeOf (x1 : Int32) (m : zM) : Option (Int32 × zM) :=
  Option.bind (f_X12_isCell x1 (z_sI m 13 0 0 (0 : Int32))) fun r1 =>
  if (z_bi r1) = 0 then
    Option.bind (f_X12_raises (1 : Int32) (z_sI m 13 0 0 (0 : Int32))) fun r3 =>
    some (r3.1, r3.2)
  else
    Option.bind (f_X12_lakes (z_sI m 13 0 0 (0 : Int32))) fun r4 =>
    z_gd (z_inb x1 (z_alen 20)) <| if 0 ≤ (r4.1 20 65 (Int32.toNatClampNeg x1)) then
      z_gd (z_inb x1 (z_alen 20)) <| some ((r4.1 20 65 (Int32.toNatClampNeg x1)), r4)
    else
      Option.bind (f_X12_raises (2 : Int32) r4) fun r8 =>
      some (r8.1, r8.2)
theorem w_X12_lakeOf (d k : Nat) (x1 : Int32) (m : zM) (a : Int32 × zM) (ha : f_X12_lakeOf x1 m = some a) : z_Ev z_MT zN zRf (d + 5) (k + 0) 208 [.inr (13, 0), .inl (.int x1)] m ((fun a => (z_cI a.1, a.2) : Int32 × zM → zO) a) := by
  refine zk_top (I := (yX12_lakeOf, cX12_lakeOf, 2, (some .int), [], tX12_lakeOf, 13, 1, 13, 0, 0, 0)) (oc := (fun a => (z_cI a.1, a.2) : Int32 × zM → zO)) (a := a) rfl (Nat.le_of_ble_eq_true rfl) (fun G R => ?_) ha
  unfold f_X12_lakeOf
  refine zk_st R 5 7 [some (.inr (13, 0)), some (.inl (.int x1))] [.inl (.int x1), .inr (13, 0)] (z_sI m 13 0 0 (0 : Int32)) rfl ⟨trivial, trivial, (Nat.le_of_ble_eq_true rfl), trivial, trivial, trivial⟩ ?_
  refine zk_call R (fun b => some (.inl (.int (z_bi b)))) (fun _ => (z_sI m 13 0 0 (0 : Int32))) rfl (r_X12_isCell (Nat.le_of_ble_eq_true rfl)) (fun b hb => w_X12_isCell (d + 2) 0 x1 (z_sI m 13 0 0 (0 : Int32)) b hb) (fun r1 => ?_)
  refine zk_br R rfl (fun _ => ?_) (fun _ => ?_)
  · refine zk_st R 2 15 [some (.inr (13, 0)), some (.inl (.int x1))] [.inl (.int (1 : Int32)), .inr (13, 0)] (z_sI m 13 0 0 (0 : Int32)) rfl ⟨trivial, trivial, trivial⟩ ?_
    refine zk_call R (fun b => some (.inl (.int b.1))) (fun b => b.2) rfl (r_X12_raises (Nat.le_of_ble_eq_true rfl)) (fun b hb => w_X12_raises (d + 3) 0 (1 : Int32) (z_sI m 13 0 0 (0 : Int32)) b hb) (fun r3 => ?_)
    exact zk_ret R rfl trivial rfl
  · refine zk_st R 1 20 [some (.inr (13, 0)), some (.inl (.int x1))] [.inr (13, 0)] (z_sI m 13 0 0 (0 : Int32)) rfl ⟨trivial, trivial⟩ ?_
    refine zk_call R (fun _ => none) id rfl (r_X12_lakes (Nat.le_of_ble_eq_true rfl)) (fun b hb => w_X12_lakes d 0 (z_sI m 13 0 0 (0 : Int32)) b hb) (fun r4 => ?_)
    refine zk_gd fun e5 => ?_
    refine zk_st R 4 29 [some (.inr (13, 0)), some (.inl (.int x1))] [.inl (.int (r4.1 20 65 (Int32.toNatClampNeg x1)))] r4 rfl ⟨trivial, (Nat.le_of_ble_eq_true rfl), trivial, ⟨(Nat.le_of_ble_eq_true rfl), z_inb_in e5⟩, trivial⟩ ?_
    refine zk_br R rfl (fun _ => ?_) (fun _ => ?_)
    · refine zk_gd fun e7 => ?_
      refine zk_st R 4 46 [some (.inr (13, 0)), some (.inl (.int x1))] [.inl (.int (r4.1 20 65 (Int32.toNatClampNeg x1)))] r4 rfl ⟨trivial, (Nat.le_of_ble_eq_true rfl), trivial, ⟨(Nat.le_of_ble_eq_true rfl), z_inb_in e7⟩, trivial⟩ ?_
      exact zk_ret R rfl trivial rfl
    · refine zk_st R 2 34 [some (.inr (13, 0)), some (.inl (.int x1))] [.inl (.int (2 : Int32)), .inr (13, 0)] r4 rfl ⟨trivial, trivial, trivial⟩ ?_
      refine zk_call R (fun b => some (.inl (.int b.1))) (fun b => b.2) rfl (r_X12_raises (Nat.le_of_ble_eq_true rfl)) (fun b hb => w_X12_raises (d + 3) 0 (2 : Int32) r4 b hb) (fun r8 => ?_)
      refine zk_st R 1 46 [some (.inr (13, 0)), some (.inl (.int x1))] [.inl (.int r8.1)] r8.2 rfl ⟨trivial, trivial⟩ ?_
      exact zk_ret R rfl trivial rfl
theorem r_X12_carveWay {i : Nat} {t : List zA} (h : i < zN 13) : z_rcv zN (zKD 212) (.inr (13, i) :: t) := by
  rw [show zKD 212 = 13 from rfl]
  exact ⟨rfl, h⟩
noncomputable def f_X12_carveWay (x1 : Int32) (x2 : Int32) (m : zM) : Option (Int32 × zM) :=
  Option.bind (f_X12_isCell x1 (z_sI m 13 0 0 (0 : Int32))) fun r1 =>
  if (z_bi r1) = 0 then
    Option.bind (f_X12_raises (1 : Int32) (z_sI m 13 0 0 (0 : Int32))) fun r3 =>
    some (r3.1, r3.2)
  else
    Option.bind (f_X12_bestWay x1 (z_sI m 13 0 0 (0 : Int32))) fun r4 =>
    Option.bind (f_X12_in (Int32.toInt64 x2) (0 : Int64) (Int32.toInt64 ((r4.1 13 0 29) - (1 : Int32))) r4) fun r5 =>
    if (z_bi r5) = 0 then
      Option.bind (f_X12_raises (2 : Int32) r4) fun r7 =>
      some (r7.1, r7.2)
    else
      z_gd (z_inb x2 (z_alen 27)) <| some ((r4.1 27 0 (Int32.toNatClampNeg x2)), r4)
theorem w_X12_carveWay (d k : Nat) (x1 : Int32) (x2 : Int32) (m : zM) (a : Int32 × zM) (ha : f_X12_carveWay x1 x2 m = some a) : z_Ev z_MT zN zRf (d + 5) (k + 0) 212 [.inr (13, 0), .inl (.int x1), .inl (.int x2)] m ((fun a => (z_cI a.1, a.2) : Int32 × zM → zO) a) := by
  refine zk_top (I := (yX12_carveWay, cX12_carveWay, 3, (some .int), [], tX12_carveWay, 13, 2, 13, 0, 0, 0)) (oc := (fun a => (z_cI a.1, a.2) : Int32 × zM → zO)) (a := a) rfl (Nat.le_of_ble_eq_true rfl) (fun G R => ?_) ha
  unfold f_X12_carveWay
  refine zk_st R 5 7 [some (.inr (13, 0)), some (.inl (.int x1)), some (.inl (.int x2))] [.inl (.int x1), .inr (13, 0)] (z_sI m 13 0 0 (0 : Int32)) rfl ⟨trivial, trivial, (Nat.le_of_ble_eq_true rfl), trivial, trivial, trivial⟩ ?_
  refine zk_call R (fun b => some (.inl (.int (z_bi b)))) (fun _ => (z_sI m 13 0 0 (0 : Int32))) rfl (r_X12_isCell (Nat.le_of_ble_eq_true rfl)) (fun b hb => w_X12_isCell (d + 2) 0 x1 (z_sI m 13 0 0 (0 : Int32)) b hb) (fun r1 => ?_)
  refine zk_br R rfl (fun _ => ?_) (fun _ => ?_)
  · refine zk_st R 2 15 [some (.inr (13, 0)), some (.inl (.int x1)), some (.inl (.int x2))] [.inl (.int (1 : Int32)), .inr (13, 0)] (z_sI m 13 0 0 (0 : Int32)) rfl ⟨trivial, trivial, trivial⟩ ?_
    refine zk_call R (fun b => some (.inl (.int b.1))) (fun b => b.2) rfl (r_X12_raises (Nat.le_of_ble_eq_true rfl)) (fun b hb => w_X12_raises (d + 3) 0 (1 : Int32) (z_sI m 13 0 0 (0 : Int32)) b hb) (fun r3 => ?_)
    exact zk_ret R rfl trivial rfl
  · refine zk_st R 2 21 [some (.inr (13, 0)), some (.inl (.int x1)), some (.inl (.int x2))] [.inl (.int x1), .inr (13, 0)] (z_sI m 13 0 0 (0 : Int32)) rfl ⟨trivial, trivial, trivial⟩ ?_
    refine zk_call R (fun _ => none) id rfl (r_X12_bestWay (Nat.le_of_ble_eq_true rfl)) (fun b hb => w_X12_bestWay d 0 x1 (z_sI m 13 0 0 (0 : Int32)) b hb) (fun r4 => ?_)
    refine zk_st R 8 34 [some (.inr (13, 0)), some (.inl (.int x1)), some (.inl (.int x2))] [.inl (.long (Int32.toInt64 ((r4.1 13 0 29) - (1 : Int32)))), .inl (.long (0 : Int64)), .inl (.long (Int32.toInt64 x2))] r4 rfl ⟨trivial, trivial, trivial, trivial, (Nat.le_of_ble_eq_true rfl), trivial, trivial, trivial, trivial⟩ ?_
    refine zk_call R (fun b => some (.inl (.int (z_bi b)))) (fun _ => r4) rfl (r_X12_in) (fun b hb => w_X12_in (d + 3) 0 (Int32.toInt64 x2) (0 : Int64) (Int32.toInt64 ((r4.1 13 0 29) - (1 : Int32))) r4 b hb) (fun r5 => ?_)
    refine zk_br R rfl (fun _ => ?_) (fun _ => ?_)
    · refine zk_st R 2 51 [some (.inr (13, 0)), some (.inl (.int x1)), some (.inl (.int x2))] [.inl (.int (2 : Int32)), .inr (13, 0)] r4 rfl ⟨trivial, trivial, trivial⟩ ?_
      refine zk_call R (fun b => some (.inl (.int b.1))) (fun b => b.2) rfl (r_X12_raises (Nat.le_of_ble_eq_true rfl)) (fun b hb => w_X12_raises (d + 3) 0 (2 : Int32) r4 b hb) (fun r7 => ?_)
      exact zk_ret R rfl trivial rfl
    · refine zk_gd fun e8 => ?_
      refine zk_st R 5 54 [some (.inr (13, 0)), some (.inl (.int x1)), some (.inl (.int x2))] [.inl (.int (r4.1 27 0 (Int32.toNatClampNeg x2)))] r4 rfl ⟨trivial, (Nat.le_of_ble_eq_true rfl), trivial, ⟨(Nat.le_of_ble_eq_true rfl), z_inb_in e8⟩, trivial, trivial⟩ ?_
      exact zk_ret R rfl trivial rfl
theorem r_X12_water {i : Nat} {t : List zA} (h : i < zN 13) : z_rcv zN (zKD 219) (.inr (13, i) :: t) := by
  rw [show zKD 219 = 13 from rfl]
  exact ⟨rfl, h⟩
noncomputable def f_X12_water (x1 : Int32) (x2 : Int32) (m : zM) : Option (Int32 × zM) :=
  Option.bind (f_X12_isCell x1 (z_sI m 13 0 0 (0 : Int32))) fun r1 =>
  if (z_bi r1) = 0 then
    Option.bind (f_X12_raises (1 : Int32) (z_sI m 13 0 0 (0 : Int32))) fun r3 =>
    some (r3.1, r3.2)
  else
    Option.bind (f_X12_waters (z_sI m 13 0 0 (0 : Int32))) fun r4 =>
    if x2 = (0 : Int32) then
      Option.bind (f_X12_inflow x1 r4) fun r6 =>
      some (r6, r4)
    else if x2 = (1 : Int32) then
      z_gd (z_inb x1 (z_alen 20)) <| some ((r4.1 20 63 (Int32.toNatClampNeg x1)), r4)
    else if x2 = (2 : Int32) then
      Option.bind (f_X12_soaks x1 r4) fun r10 =>
      some (r10, r4)
    else if x2 = (3 : Int32) then
      z_gd (z_inb x1 (z_alen 20)) <| Option.bind (f_X12_soaks x1 r4) fun r13 =>
      some (((r4.1 20 63 (Int32.toNatClampNeg x1)) - r13), r4)
    else
      Option.bind (f_X12_raises (2 : Int32) r4) fun r14 =>
      some (r14.1, r14.2)
theorem w_X12_water (d k : Nat) (x1 : Int32) (x2 : Int32) (m : zM) (a : Int32 × zM) (ha : f_X12_water x1 x2 m = some a) : z_Ev z_MT zN zRf (d + 5) (k + 0) 219 [.inr (13, 0), .inl (.int x1), .inl (.int x2)] m ((fun a => (z_cI a.1, a.2) : Int32 × zM → zO) a) := by
  refine zk_top (I := (yX12_water, cX12_water, 3, (some .int), [], tX12_water, 13, 2, 13, 0, 0, 0)) (oc := (fun a => (z_cI a.1, a.2) : Int32 × zM → zO)) (a := a) rfl (Nat.le_of_ble_eq_true rfl) (fun G R => ?_) ha
  unfold f_X12_water
  refine zk_st R 5 7 [some (.inr (13, 0)), some (.inl (.int x1)), some (.inl (.int x2))] [.inl (.int x1), .inr (13, 0)] (z_sI m 13 0 0 (0 : Int32)) rfl ⟨trivial, trivial, (Nat.le_of_ble_eq_true rfl), trivial, trivial, trivial⟩ ?_
  refine zk_call R (fun b => some (.inl (.int (z_bi b)))) (fun _ => (z_sI m 13 0 0 (0 : Int32))) rfl (r_X12_isCell (Nat.le_of_ble_eq_true rfl)) (fun b hb => w_X12_isCell (d + 2) 0 x1 (z_sI m 13 0 0 (0 : Int32)) b hb) (fun r1 => ?_)
  refine zk_br R rfl (fun _ => ?_) (fun _ => ?_)
  · refine zk_st R 2 15 [some (.inr (13, 0)), some (.inl (.int x1)), some (.inl (.int x2))] [.inl (.int (1 : Int32)), .inr (13, 0)] (z_sI m 13 0 0 (0 : Int32)) rfl ⟨trivial, trivial, trivial⟩ ?_
    refine zk_call R (fun b => some (.inl (.int b.1))) (fun b => b.2) rfl (r_X12_raises (Nat.le_of_ble_eq_true rfl)) (fun b hb => w_X12_raises (d + 3) 0 (1 : Int32) (z_sI m 13 0 0 (0 : Int32)) b hb) (fun r3 => ?_)
    exact zk_ret R rfl trivial rfl
  · refine zk_st R 1 20 [some (.inr (13, 0)), some (.inl (.int x1)), some (.inl (.int x2))] [.inr (13, 0)] (z_sI m 13 0 0 (0 : Int32)) rfl ⟨trivial, trivial⟩ ?_
    refine zk_call R (fun _ => none) id rfl (r_X12_waters (Nat.le_of_ble_eq_true rfl)) (fun b hb => w_X12_waters d 0 (z_sI m 13 0 0 (0 : Int32)) b hb) (fun r4 => ?_)
    refine zk_st R 1 24 [some (.inr (13, 0)), some (.inl (.int x1)), some (.inl (.int x2))] [.inl (.int x2)] r4 rfl ⟨trivial, trivial⟩ ?_
    refine zk_if (fun e5 => ?_) (fun e5 => ?_)
    · refine zk_tsw R rfl (z_swv e5 (by decide +kernel : _ = 56)) ?_
      refine zk_st R 2 58 [some (.inr (13, 0)), some (.inl (.int x1)), some (.inl (.int x2))] [.inl (.int x1), .inr (13, 0)] r4 rfl ⟨trivial, trivial, trivial⟩ ?_
      refine zk_call R (fun b => some (.inl (.int b))) (fun _ => r4) rfl (r_X12_inflow (Nat.le_of_ble_eq_true rfl)) (fun b hb => w_X12_inflow (d + 1) 0 x1 r4 b hb) (fun r6 => ?_)
      exact zk_ret R rfl trivial rfl
    refine zk_if (fun e7 => ?_) (fun e7 => ?_)
    · refine zk_tsw R rfl (z_swv e7 (by decide +kernel : _ = 62)) ?_
      refine zk_gd fun e8 => ?_
      refine zk_st R 4 68 [some (.inr (13, 0)), some (.inl (.int x1)), some (.inl (.int x2))] [.inl (.int (r4.1 20 63 (Int32.toNatClampNeg x1)))] r4 rfl ⟨trivial, (Nat.le_of_ble_eq_true rfl), trivial, ⟨(Nat.le_of_ble_eq_true rfl), z_inb_in e8⟩, trivial⟩ ?_
      exact zk_ret R rfl trivial rfl
    refine zk_if (fun e9 => ?_) (fun e9 => ?_)
    · refine zk_tsw R rfl (z_swv e9 (by decide +kernel : _ = 69)) ?_
      refine zk_st R 2 71 [some (.inr (13, 0)), some (.inl (.int x1)), some (.inl (.int x2))] [.inl (.int x1), .inr (13, 0)] r4 rfl ⟨trivial, trivial, trivial⟩ ?_
      refine zk_call R (fun b => some (.inl (.int b))) (fun _ => r4) rfl (r_X12_soaks (Nat.le_of_ble_eq_true rfl)) (fun b hb => w_X12_soaks (d + 2) 0 x1 r4 b hb) (fun r10 => ?_)
      exact zk_ret R rfl trivial rfl
    refine zk_if (fun e11 => ?_) (fun e11 => ?_)
    · refine zk_tsw R rfl (z_swv e11 (by decide +kernel : _ = 75)) ?_
      refine zk_gd fun e12 => ?_
      refine zk_st R 6 83 [some (.inr (13, 0)), some (.inl (.int x1)), some (.inl (.int x2))] [.inl (.int x1), .inr (13, 0), .inl (.int (r4.1 20 63 (Int32.toNatClampNeg x1)))] r4 rfl ⟨trivial, (Nat.le_of_ble_eq_true rfl), trivial, ⟨(Nat.le_of_ble_eq_true rfl), z_inb_in e12⟩, trivial, trivial, trivial⟩ ?_
      refine zk_call R (fun b => some (.inl (.int b))) (fun _ => r4) rfl (r_X12_soaks (Nat.le_of_ble_eq_true rfl)) (fun b hb => w_X12_soaks (d + 2) 0 x1 r4 b hb) (fun r13 => ?_)
      refine zk_st R 1 87 [some (.inr (13, 0)), some (.inl (.int x1)), some (.inl (.int x2))] [.inl (.int ((r4.1 20 63 (Int32.toNatClampNeg x1)) - r13))] r4 rfl ⟨trivial, trivial⟩ ?_
      exact zk_ret R rfl trivial rfl
    refine zk_tsw R rfl (z_swd 4 (by decide) (fun i hi => ?_) (by decide : _ = 88)) ?_
    · have hi' : i = 0 ∨ i = 1 ∨ i = 2 ∨ i = 3 := by omega
      rcases hi' with rfl | rfl | rfl | rfl
      · exact e5
      · exact e7
      · exact e9
      · exact e11
    · refine zk_st R 2 90 [some (.inr (13, 0)), some (.inl (.int x1)), some (.inl (.int x2))] [.inl (.int (2 : Int32)), .inr (13, 0)] r4 rfl ⟨trivial, trivial, trivial⟩ ?_
      refine zk_call R (fun b => some (.inl (.int b.1))) (fun b => b.2) rfl (r_X12_raises (Nat.le_of_ble_eq_true rfl)) (fun b hb => w_X12_raises (d + 3) 0 (2 : Int32) r4 b hb) (fun r14 => ?_)
      exact zk_ret R rfl trivial rfl
theorem r_X12_leaves {i : Nat} {t : List zA} (h : i < zN 13) : z_rcv zN (zKD 220) (.inr (13, i) :: t) := by
  rw [show zKD 220 = 13 from rfl]
  exact ⟨rfl, h⟩
noncomputable def f_X12_leaves_8 : Nat → Int32 → Int32 → zM → Option (Int32 × zM)
  | 0, _, _, _ => none
  | j + 1, x1, x2, m =>
    Option.bind (f_X12_cells m) fun r1 =>
    if r1 ≤ x2 then
      some (x1, m)
    else
      Option.bind (f_X12_isOutlet x2 m) fun r3 =>
      if (z_bi r3) = 0 then
        f_X12_leaves_8 j x1 (x2 + (1 : Int32)) m
      else
        z_gd (z_inb x2 (z_alen 20)) <| Option.bind (f_X12_soaks x2 m) fun r6 =>
        f_X12_leaves_8 j (x1 + ((m.1 20 63 (Int32.toNatClampNeg x2)) - r6)) (x2 + (1 : Int32)) m
noncomputable def f_X12_leaves (m : zM) : Option (Int32 × zM) :=
  Option.bind (f_X12_waters m) fun r1 =>
  f_X12_leaves_8 zF (0 : Int32) (0 : Int32) r1
theorem w_X12_leaves_8 (d k : Nat) {o : zO} {G : Nat → Nat → zL → List zA → zM → Prop} (R : zRu (d + 4) tX12_leaves 0 (z_hf []) o G) : ∀ (j : Nat) (x1 : Int32) (x2 : Int32) (m : zM), zLK G (fun a => (z_cI a.1, a.2) : Int32 × zM → zO) o (f_X12_leaves_8 j x1 x2 m) some (k + 0) 8 [some (.inr (13, 0)), some (.inl (.int x1)), some (.inl (.int x2))] [] m := by
  intro j
  induction j with
  | zero =>
    intro _ _ _
    exact zk_none
  | succ j ih =>
    intro x1 x2 m
    unfold f_X12_leaves_8
    refine zk_st R 2 10 [some (.inr (13, 0)), some (.inl (.int x1)), some (.inl (.int x2))] [.inr (13, 0), .inl (.int x2)] m rfl ⟨trivial, trivial, trivial⟩ ?_
    refine zk_call R (fun b => some (.inl (.int b))) (fun _ => m) rfl (r_X12_cells (Nat.le_of_ble_eq_true rfl)) (fun b hb => w_X12_cells (d + 3) 0 m b hb) (fun r1 => ?_)
    refine zk_br R rfl (fun _ => ?_) (fun _ => ?_)
    · refine zk_st R 1 46 [some (.inr (13, 0)), some (.inl (.int x1)), some (.inl (.int x2))] [.inl (.int x1)] m rfl ⟨trivial, trivial⟩ ?_
      exact zk_ret R rfl trivial rfl
    · refine zk_st R 2 18 [some (.inr (13, 0)), some (.inl (.int x1)), some (.inl (.int x2))] [.inl (.int x2), .inr (13, 0)] m rfl ⟨trivial, trivial, trivial⟩ ?_
      refine zk_call R (fun b => some (.inl (.int (z_bi b)))) (fun _ => m) rfl (r_X12_isOutlet (Nat.le_of_ble_eq_true rfl)) (fun b hb => w_X12_isOutlet (d + 3) 0 x2 m b hb) (fun r3 => ?_)
      refine zk_br R rfl (fun _ => ?_) (fun _ => ?_)
      · refine zk_st R 2 8 [some (.inr (13, 0)), some (.inl (.int x1)), some (.inl (.int (x2 + (1 : Int32))))] [] m rfl ⟨trivial, trivial, trivial⟩ ?_
        refine zk_mask R [true, true, true] rfl ?_
        exact ih x1 (x2 + (1 : Int32)) m
      · refine zk_gd fun e5 => ?_
        refine zk_st R 7 33 [some (.inr (13, 0)), some (.inl (.int x1)), some (.inl (.int x2))] [.inl (.int x2), .inr (13, 0), .inl (.int (m.1 20 63 (Int32.toNatClampNeg x2))), .inl (.int x1)] m rfl ⟨trivial, trivial, (Nat.le_of_ble_eq_true rfl), trivial, ⟨(Nat.le_of_ble_eq_true rfl), z_inb_in e5⟩, trivial, trivial, trivial⟩ ?_
        refine zk_call R (fun b => some (.inl (.int b))) (fun _ => m) rfl (r_X12_soaks (Nat.le_of_ble_eq_true rfl)) (fun b hb => w_X12_soaks (d + 2) 0 x2 m b hb) (fun r6 => ?_)
        refine zk_st R 5 8 [some (.inr (13, 0)), some (.inl (.int (x1 + ((m.1 20 63 (Int32.toNatClampNeg x2)) - r6)))), some (.inl (.int (x2 + (1 : Int32))))] [] m rfl ⟨trivial, trivial, trivial, trivial, trivial, trivial⟩ ?_
        refine zk_mask R [true, true, true] rfl ?_
        exact ih (x1 + ((m.1 20 63 (Int32.toNatClampNeg x2)) - r6)) (x2 + (1 : Int32)) m
theorem w_X12_leaves (d k : Nat) (m : zM) (a : Int32 × zM) (ha : f_X12_leaves m = some a) : z_Ev z_MT zN zRf (d + 5) (k + 0) 220 [.inr (13, 0)] m ((fun a => (z_cI a.1, a.2) : Int32 × zM → zO) a) := by
  refine zk_top (I := (yX12_leaves, cX12_leaves, 3, (some .int), [], tX12_leaves, 13, 0, 13, 0, 0, 0)) (oc := (fun a => (z_cI a.1, a.2) : Int32 × zM → zO)) (a := a) rfl (Nat.le_of_ble_eq_true rfl) (fun G R => ?_) ha
  unfold f_X12_leaves
  refine zk_st R 1 1 [some (.inr (13, 0)), none, none] [.inr (13, 0)] m rfl ⟨trivial, trivial⟩ ?_
  refine zk_call R (fun _ => none) id rfl (r_X12_waters (Nat.le_of_ble_eq_true rfl)) (fun b hb => w_X12_waters d 0 m b hb) (fun r1 => ?_)
  refine zk_st R 4 8 [some (.inr (13, 0)), some (.inl (.int (0 : Int32))), some (.inl (.int (0 : Int32)))] [] r1 rfl ⟨trivial, trivial, trivial, trivial, trivial⟩ ?_
  refine zk_mask R [true, true, true] rfl ?_
  exact w_X12_leaves_8 d k R zF (0 : Int32) (0 : Int32) r1
theorem r_X12_tail {i : Nat} {t : List zA} (h : i < zN 13) : z_rcv zN (zKD 225) (.inr (13, i) :: t) := by
  rw [show zKD 225 = 13 from rfl]
  exact ⟨rfl, h⟩
noncomputable def f_X12_tail_6 (m : zM) : Nat → Int32 → Int32 → Option (Int32)
  | 0, _, _ => none
  | j + 1, x1, x2 =>
    Option.bind (f_X12_onward x2 m) fun r1 =>
    if r1 < 0 then
      some x2
    else
      Option.bind (f_X12_onward x2 m) fun r3 =>
      z_gd (z_inb r3 (z_alen 20)) <| if (m.1 20 65 (Int32.toNatClampNeg r3)) = x1 then
        Option.bind (f_X12_onward x2 m) fun r6 =>
        f_X12_tail_6 m j x1 r6
      else
        some x2
noncomputable def f_X12_tail (x1 : Int32) (m : zM) : Option (Int32) :=
  Option.bind (f_X12_head x1 m) fun r1 =>
  f_X12_tail_6 m zF x1 r1
theorem w_X12_tail_6 (d k : Nat) {o : zO} {G : Nat → Nat → zL → List zA → zM → Prop} (m : zM) (R : zRu (d + 4) tX12_tail 0 (z_hf []) o G) : ∀ (j : Nat) (x1 : Int32) (x2 : Int32), zLK G (fun a => (z_cI a, m) : Int32 → zO) o (f_X12_tail_6 m j x1 x2) some (k + 0) 6 [some (.inr (13, 0)), some (.inl (.int x1)), some (.inl (.int x2))] [] m := by
  intro j
  induction j with
  | zero =>
    intro _ _
    exact zk_none
  | succ j ih =>
    intro x1 x2
    unfold f_X12_tail_6
    refine zk_st R 2 8 [some (.inr (13, 0)), some (.inl (.int x1)), some (.inl (.int x2))] [.inl (.int x2), .inr (13, 0)] m rfl ⟨trivial, trivial, trivial⟩ ?_
    refine zk_call R (fun b => some (.inl (.int b))) (fun _ => m) rfl (r_X12_onward (Nat.le_of_ble_eq_true rfl)) (fun b hb => w_X12_onward (d + 2) 0 x2 m b hb) (fun r1 => ?_)
    refine zk_br R rfl (fun _ => ?_) (fun _ => ?_)
    · refine zk_st R 1 38 [some (.inr (13, 0)), some (.inl (.int x1)), some (.inl (.int x2))] [.inl (.int x2)] m rfl ⟨trivial, trivial⟩ ?_
      exact zk_ret R rfl trivial rfl
    · refine zk_st R 4 20 [some (.inr (13, 0)), some (.inl (.int x1)), some (.inl (.int x2))] [.inl (.int x2), .inr (13, 0), .inr (20, 65)] m rfl ⟨trivial, (Nat.le_of_ble_eq_true rfl), trivial, trivial, trivial⟩ ?_
      refine zk_call R (fun b => some (.inl (.int b))) (fun _ => m) rfl (r_X12_onward (Nat.le_of_ble_eq_true rfl)) (fun b hb => w_X12_onward (d + 2) 0 x2 m b hb) (fun r3 => ?_)
      refine zk_gd fun e4 => ?_
      refine zk_st R 2 25 [some (.inr (13, 0)), some (.inl (.int x1)), some (.inl (.int x2))] [.inl (.int x1), .inl (.int (m.1 20 65 (Int32.toNatClampNeg r3)))] m rfl ⟨⟨(Nat.le_of_ble_eq_true rfl), z_inb_in e4⟩, trivial, trivial⟩ ?_
      refine zk_br R rfl (fun _ => ?_) (fun _ => ?_)
      · refine zk_st R 2 30 [some (.inr (13, 0)), some (.inl (.int x1)), some (.inl (.int x2))] [.inl (.int x2), .inr (13, 0)] m rfl ⟨trivial, trivial, trivial⟩ ?_
        refine zk_call R (fun b => some (.inl (.int b))) (fun _ => m) rfl (r_X12_onward (Nat.le_of_ble_eq_true rfl)) (fun b hb => w_X12_onward (d + 2) 0 x2 m b hb) (fun r6 => ?_)
        refine zk_st R 2 6 [some (.inr (13, 0)), some (.inl (.int x1)), some (.inl (.int r6))] [] m rfl ⟨trivial, trivial, trivial⟩ ?_
        refine zk_mask R [true, true, true] rfl ?_
        exact ih x1 r6
      · refine zk_st R 1 38 [some (.inr (13, 0)), some (.inl (.int x1)), some (.inl (.int x2))] [.inl (.int x2)] m rfl ⟨trivial, trivial⟩ ?_
        exact zk_ret R rfl trivial rfl
theorem w_X12_tail (d k : Nat) (x1 : Int32) (m : zM) (a : Int32) (ha : f_X12_tail x1 m = some a) : z_Ev z_MT zN zRf (d + 5) (k + 0) 225 [.inr (13, 0), .inl (.int x1)] m ((fun a => (z_cI a, m) : Int32 → zO) a) := by
  refine zk_top (I := (yX12_tail, cX12_tail, 3, (some .int), [], tX12_tail, 13, 1, 13, 0, 0, 0)) (oc := (fun a => (z_cI a, m) : Int32 → zO)) (a := a) rfl (Nat.le_of_ble_eq_true rfl) (fun G R => ?_) ha
  unfold f_X12_tail
  refine zk_st R 2 2 [some (.inr (13, 0)), some (.inl (.int x1)), none] [.inl (.int x1), .inr (13, 0)] m rfl ⟨trivial, trivial, trivial⟩ ?_
  refine zk_call R (fun b => some (.inl (.int b))) (fun _ => m) rfl (r_X12_head (Nat.le_of_ble_eq_true rfl)) (fun b hb => w_X12_head d 0 x1 m b hb) (fun r1 => ?_)
  refine zk_st R 1 6 [some (.inr (13, 0)), some (.inl (.int x1)), some (.inl (.int r1))] [] m rfl ⟨trivial, trivial⟩ ?_
  refine zk_mask R [true, true, true] rfl ?_
  exact w_X12_tail_6 d k m R zF x1 r1
theorem r_X12_basin {i : Nat} {t : List zA} (h : i < zN 13) : z_rcv zN (zKD 228) (.inr (13, i) :: t) := by
  rw [show zKD 228 = 13 from rfl]
  exact ⟨rfl, h⟩
noncomputable def f_X12_basin_107 (c60 : Int32 → Int32 → Int32 → Int32 → zM → Option (Int32 × zM)) (x1 : Int32) (x2 : Int32) (x3 : Int32) (x4 : Int32) (m : zM) : Option (Int32 × zM) :=
  if x2 = (3 : Int32) then
    Option.bind (f_X12_stepsOf x4 m) fun r2 =>
    Option.bind (f_J9_max_7cf53 x3 r2 m) fun r3 =>
    c60 x1 x2 r3 (x4 + (1 : Int32)) m
  else
    c60 x1 x2 x3 (x4 + (1 : Int32)) m
noncomputable def f_X12_basin_89 (c60 : Int32 → Int32 → Int32 → Int32 → zM → Option (Int32 × zM)) (x1 : Int32) (x2 : Int32) (x3 : Int32) (x4 : Int32) (m : zM) : Option (Int32 × zM) :=
  if x2 = (1 : Int32) then
    z_gd (z_inb ((67 : Int32) + x4) (z_alen 23)) <| f_X12_basin_107 c60 x1 x2 (x3 + (m.1 23 0 (Int32.toNatClampNeg ((67 : Int32) + x4)))) x4 m
  else
    f_X12_basin_107 c60 x1 x2 x3 x4 m
noncomputable def f_X12_basin_60 : Nat → Int32 → Int32 → Int32 → Int32 → zM → Option (Int32 × zM)
  | 0, _, _, _, _, _ => none
  | j + 1, x1, x2, x3, x4, m =>
    Option.bind (f_X12_cells m) fun r1 =>
    if r1 ≤ x4 then
      if x2 = (2 : Int32) then
        z_gd (z_inb x1 (z_alen 20)) <| Option.bind (f_X12_soaks x1 m) fun r5 =>
        some (((m.1 20 63 (Int32.toNatClampNeg x1)) - r5), m)
      else
        some (x3, m)
    else
      Option.bind (f_X12_mouth x4 m) fun r6 =>
      if r6 = x1 then
        if x2 = 0 then
          f_X12_basin_89 (f_X12_basin_60 j) x1 x2 (x3 + (1 : Int32)) x4 m
        else
          f_X12_basin_89 (f_X12_basin_60 j) x1 x2 x3 x4 m
      else
        f_X12_basin_60 j x1 x2 x3 (x4 + (1 : Int32)) m
noncomputable def f_X12_basin (x1 : Int32) (x2 : Int32) (m : zM) : Option (Int32 × zM) :=
  Option.bind (f_X12_isCell x1 (z_sI m 13 0 0 (0 : Int32))) fun r1 =>
  if (z_bi r1) = 0 then
    Option.bind (f_X12_raises (1 : Int32) (z_sI m 13 0 0 (0 : Int32))) fun r3 =>
    some (r3.1, r3.2)
  else
    Option.bind (f_X12_isOutlet x1 (z_sI m 13 0 0 (0 : Int32))) fun r4 =>
    if (z_bi r4) = 0 then
      Option.bind (f_X12_raises (2 : Int32) (z_sI m 13 0 0 (0 : Int32))) fun r6 =>
      some (r6.1, r6.2)
    else
      Option.bind (f_X12_in (Int32.toInt64 x2) (0 : Int64) (3 : Int64) (z_sI m 13 0 0 (0 : Int32))) fun r7 =>
      if (z_bi r7) = 0 then
        Option.bind (f_X12_raises (3 : Int32) (z_sI m 13 0 0 (0 : Int32))) fun r9 =>
        some (r9.1, r9.2)
      else
        Option.bind (f_X12_waters (z_sI m 13 0 0 (0 : Int32))) fun r10 =>
        f_X12_basin_60 zF x1 x2 (0 : Int32) (0 : Int32) r10
theorem w_X12_basin_107 (d k : Nat) {o : zO} {G : Nat → Nat → zL → List zA → zM → Prop} (R : zRu (d + 4) tX12_basin 0 (z_hf []) o G) (c60 : Int32 → Int32 → Int32 → Int32 → zM → Option (Int32 × zM)) (hc60 : ∀ (x1 : Int32) (x2 : Int32) (x3 : Int32) (x4 : Int32) (m : zM), zLK G (fun a => (z_cI a.1, a.2) : Int32 × zM → zO) o (c60 x1 x2 x3 x4 m) some (k + 0) 60 [some (.inr (13, 0)), some (.inl (.int x1)), some (.inl (.int x2)), some (.inl (.int x3)), some (.inl (.int x4))] [] m) (x1 : Int32) (x2 : Int32) (x3 : Int32) (x4 : Int32) (m : zM) : zLK G (fun a => (z_cI a.1, a.2) : Int32 × zM → zO) o (f_X12_basin_107 c60 x1 x2 x3 x4 m) some (k + 0) 107 [some (.inr (13, 0)), some (.inl (.int x1)), some (.inl (.int x2)), some (.inl (.int x3)), some (.inl (.int x4))] [] m := by
  unfold f_X12_basin_107
  refine zk_st R 2 109 [some (.inr (13, 0)), some (.inl (.int x1)), some (.inl (.int x2)), some (.inl (.int x3)), some (.inl (.int x4))] [.inl (.int (3 : Int32)), .inl (.int x2)] m rfl ⟨trivial, trivial, trivial⟩ ?_
  refine zk_br R rfl (fun _ => ?_) (fun _ => ?_)
  · refine zk_st R 3 116 [some (.inr (13, 0)), some (.inl (.int x1)), some (.inl (.int x2)), some (.inl (.int x3)), some (.inl (.int x4))] [.inl (.int x4), .inr (13, 0), .inl (.int x3)] m rfl ⟨trivial, trivial, trivial, trivial⟩ ?_
    refine zk_call R (fun b => some (.inl (.int b))) (fun _ => m) rfl (r_X12_stepsOf (Nat.le_of_ble_eq_true rfl)) (fun b hb => w_X12_stepsOf (d + 1) 0 x4 m b hb) (fun r2 => ?_)
    refine zk_call R (fun b => some (.inl (.int b))) (fun _ => m) rfl (r_J9_max_7cf53) (fun b hb => w_J9_max_7cf53 (d + 3) 0 x3 r2 m b hb) (fun r3 => ?_)
    refine zk_st R 3 60 [some (.inr (13, 0)), some (.inl (.int x1)), some (.inl (.int x2)), some (.inl (.int r3)), some (.inl (.int (x4 + (1 : Int32))))] [] m rfl ⟨trivial, trivial, trivial, trivial⟩ ?_
    refine zk_mask R [true, true, true, true, true] rfl ?_
    exact hc60 x1 x2 r3 (x4 + (1 : Int32)) m
  · refine zk_st R 2 60 [some (.inr (13, 0)), some (.inl (.int x1)), some (.inl (.int x2)), some (.inl (.int x3)), some (.inl (.int (x4 + (1 : Int32))))] [] m rfl ⟨trivial, trivial, trivial⟩ ?_
    refine zk_mask R [true, true, true, true, true] rfl ?_
    exact hc60 x1 x2 x3 (x4 + (1 : Int32)) m
theorem w_X12_basin_89 (d k : Nat) {o : zO} {G : Nat → Nat → zL → List zA → zM → Prop} (R : zRu (d + 4) tX12_basin 0 (z_hf []) o G) (c60 : Int32 → Int32 → Int32 → Int32 → zM → Option (Int32 × zM)) (hc60 : ∀ (x1 : Int32) (x2 : Int32) (x3 : Int32) (x4 : Int32) (m : zM), zLK G (fun a => (z_cI a.1, a.2) : Int32 × zM → zO) o (c60 x1 x2 x3 x4 m) some (k + 0) 60 [some (.inr (13, 0)), some (.inl (.int x1)), some (.inl (.int x2)), some (.inl (.int x3)), some (.inl (.int x4))] [] m) (x1 : Int32) (x2 : Int32) (x3 : Int32) (x4 : Int32) (m : zM) : zLK G (fun a => (z_cI a.1, a.2) : Int32 × zM → zO) o (f_X12_basin_89 c60 x1 x2 x3 x4 m) some (k + 0) 89 [some (.inr (13, 0)), some (.inl (.int x1)), some (.inl (.int x2)), some (.inl (.int x3)), some (.inl (.int x4))] [] m := by
  unfold f_X12_basin_89
  refine zk_st R 2 91 [some (.inr (13, 0)), some (.inl (.int x1)), some (.inl (.int x2)), some (.inl (.int x3)), some (.inl (.int x4))] [.inl (.int (1 : Int32)), .inl (.int x2)] m rfl ⟨trivial, trivial, trivial⟩ ?_
  refine zk_br R rfl (fun _ => ?_) (fun _ => ?_)
  · refine zk_gd fun e2 => ?_
    refine zk_st R 9 107 [some (.inr (13, 0)), some (.inl (.int x1)), some (.inl (.int x2)), some (.inl (.int (x3 + (m.1 23 0 (Int32.toNatClampNeg ((67 : Int32) + x4)))))), some (.inl (.int x4))] [] m rfl ⟨trivial, trivial, (Nat.le_of_ble_eq_true rfl), trivial, trivial, trivial, ⟨(Nat.le_of_ble_eq_true rfl), z_inb_in e2⟩, trivial, trivial, trivial⟩ ?_
    refine zk_mask R [true, true, true, true, true] rfl ?_
    exact w_X12_basin_107 d k R c60 hc60 x1 x2 (x3 + (m.1 23 0 (Int32.toNatClampNeg ((67 : Int32) + x4)))) x4 m
  · refine zk_mask R [true, true, true, true, true] rfl ?_
    exact w_X12_basin_107 d k R c60 hc60 x1 x2 x3 x4 m
theorem w_X12_basin_60 (d k : Nat) {o : zO} {G : Nat → Nat → zL → List zA → zM → Prop} (R : zRu (d + 4) tX12_basin 0 (z_hf []) o G) : ∀ (j : Nat) (x1 : Int32) (x2 : Int32) (x3 : Int32) (x4 : Int32) (m : zM), zLK G (fun a => (z_cI a.1, a.2) : Int32 × zM → zO) o (f_X12_basin_60 j x1 x2 x3 x4 m) some (k + 0) 60 [some (.inr (13, 0)), some (.inl (.int x1)), some (.inl (.int x2)), some (.inl (.int x3)), some (.inl (.int x4))] [] m := by
  intro j
  induction j with
  | zero =>
    intro _ _ _ _ _
    exact zk_none
  | succ j ih =>
    intro x1 x2 x3 x4 m
    unfold f_X12_basin_60
    refine zk_st R 2 63 [some (.inr (13, 0)), some (.inl (.int x1)), some (.inl (.int x2)), some (.inl (.int x3)), some (.inl (.int x4))] [.inr (13, 0), .inl (.int x4)] m rfl ⟨trivial, trivial, trivial⟩ ?_
    refine zk_call R (fun b => some (.inl (.int b))) (fun _ => m) rfl (r_X12_cells (Nat.le_of_ble_eq_true rfl)) (fun b hb => w_X12_cells (d + 3) 0 m b hb) (fun r1 => ?_)
    refine zk_br R rfl (fun _ => ?_) (fun _ => ?_)
    · refine zk_st R 2 131 [some (.inr (13, 0)), some (.inl (.int x1)), some (.inl (.int x2)), some (.inl (.int x3)), some (.inl (.int x4))] [.inl (.int (2 : Int32)), .inl (.int x2)] m rfl ⟨trivial, trivial, trivial⟩ ?_
      refine zk_br R rfl (fun _ => ?_) (fun _ => ?_)
      · refine zk_gd fun e4 => ?_
        refine zk_st R 6 142 [some (.inr (13, 0)), some (.inl (.int x1)), some (.inl (.int x2)), some (.inl (.int x3)), some (.inl (.int x4))] [.inl (.int x1), .inr (13, 0), .inl (.int (m.1 20 63 (Int32.toNatClampNeg x1)))] m rfl ⟨trivial, (Nat.le_of_ble_eq_true rfl), trivial, ⟨(Nat.le_of_ble_eq_true rfl), z_inb_in e4⟩, trivial, trivial, trivial⟩ ?_
        refine zk_call R (fun b => some (.inl (.int b))) (fun _ => m) rfl (r_X12_soaks (Nat.le_of_ble_eq_true rfl)) (fun b hb => w_X12_soaks (d + 2) 0 x1 m b hb) (fun r5 => ?_)
        refine zk_st R 2 150 [some (.inr (13, 0)), some (.inl (.int x1)), some (.inl (.int x2)), some (.inl (.int x3)), some (.inl (.int x4))] [.inl (.int ((m.1 20 63 (Int32.toNatClampNeg x1)) - r5))] m rfl ⟨trivial, trivial, trivial⟩ ?_
        exact zk_ret R rfl trivial rfl
      · refine zk_st R 1 150 [some (.inr (13, 0)), some (.inl (.int x1)), some (.inl (.int x2)), some (.inl (.int x3)), some (.inl (.int x4))] [.inl (.int x3)] m rfl ⟨trivial, trivial⟩ ?_
        exact zk_ret R rfl trivial rfl
    · refine zk_st R 2 72 [some (.inr (13, 0)), some (.inl (.int x1)), some (.inl (.int x2)), some (.inl (.int x3)), some (.inl (.int x4))] [.inl (.int x4), .inr (13, 0)] m rfl ⟨trivial, trivial, trivial⟩ ?_
      refine zk_call R (fun b => some (.inl (.int b))) (fun _ => m) rfl (r_X12_mouth (Nat.le_of_ble_eq_true rfl)) (fun b hb => w_X12_mouth (d + 1) 0 x4 m b hb) (fun r6 => ?_)
      refine zk_st R 1 76 [some (.inr (13, 0)), some (.inl (.int x1)), some (.inl (.int x2)), some (.inl (.int x3)), some (.inl (.int x4))] [.inl (.int x1), .inl (.int r6)] m rfl ⟨trivial, trivial⟩ ?_
      refine zk_br R rfl (fun _ => ?_) (fun _ => ?_)
      · refine zk_st R 1 83 [some (.inr (13, 0)), some (.inl (.int x1)), some (.inl (.int x2)), some (.inl (.int x3)), some (.inl (.int x4))] [.inl (.int x2)] m rfl ⟨trivial, trivial⟩ ?_
        refine zk_br R rfl (fun _ => ?_) (fun _ => ?_)
        · refine zk_st R 1 89 [some (.inr (13, 0)), some (.inl (.int x1)), some (.inl (.int x2)), some (.inl (.int (x3 + (1 : Int32)))), some (.inl (.int x4))] [] m rfl ⟨trivial, trivial⟩ ?_
          refine zk_mask R [true, true, true, true, true] rfl ?_
          exact w_X12_basin_89 d k R (f_X12_basin_60 j) ih x1 x2 (x3 + (1 : Int32)) x4 m
        · refine zk_mask R [true, true, true, true, true] rfl ?_
          exact w_X12_basin_89 d k R (f_X12_basin_60 j) ih x1 x2 x3 x4 m
      · refine zk_st R 3 60 [some (.inr (13, 0)), some (.inl (.int x1)), some (.inl (.int x2)), some (.inl (.int x3)), some (.inl (.int (x4 + (1 : Int32))))] [] m rfl ⟨trivial, trivial, trivial, trivial⟩ ?_
        refine zk_mask R [true, true, true, true, true] rfl ?_
        exact ih x1 x2 x3 (x4 + (1 : Int32)) m
theorem w_X12_basin (d k : Nat) (x1 : Int32) (x2 : Int32) (m : zM) (a : Int32 × zM) (ha : f_X12_basin x1 x2 m = some a) : z_Ev z_MT zN zRf (d + 5) (k + 0) 228 [.inr (13, 0), .inl (.int x1), .inl (.int x2)] m ((fun a => (z_cI a.1, a.2) : Int32 × zM → zO) a) := by
  refine zk_top (I := (yX12_basin, cX12_basin, 5, (some .int), [], tX12_basin, 13, 2, 13, 0, 0, 0)) (oc := (fun a => (z_cI a.1, a.2) : Int32 × zM → zO)) (a := a) rfl (Nat.le_of_ble_eq_true rfl) (fun G R => ?_) ha
  unfold f_X12_basin
  refine zk_st R 5 7 [some (.inr (13, 0)), some (.inl (.int x1)), some (.inl (.int x2)), none, none] [.inl (.int x1), .inr (13, 0)] (z_sI m 13 0 0 (0 : Int32)) rfl ⟨trivial, trivial, (Nat.le_of_ble_eq_true rfl), trivial, trivial, trivial⟩ ?_
  refine zk_call R (fun b => some (.inl (.int (z_bi b)))) (fun _ => (z_sI m 13 0 0 (0 : Int32))) rfl (r_X12_isCell (Nat.le_of_ble_eq_true rfl)) (fun b hb => w_X12_isCell (d + 2) 0 x1 (z_sI m 13 0 0 (0 : Int32)) b hb) (fun r1 => ?_)
  refine zk_br R rfl (fun _ => ?_) (fun _ => ?_)
  · refine zk_st R 2 15 [some (.inr (13, 0)), some (.inl (.int x1)), some (.inl (.int x2)), none, none] [.inl (.int (1 : Int32)), .inr (13, 0)] (z_sI m 13 0 0 (0 : Int32)) rfl ⟨trivial, trivial, trivial⟩ ?_
    refine zk_call R (fun b => some (.inl (.int b.1))) (fun b => b.2) rfl (r_X12_raises (Nat.le_of_ble_eq_true rfl)) (fun b hb => w_X12_raises (d + 3) 0 (1 : Int32) (z_sI m 13 0 0 (0 : Int32)) b hb) (fun r3 => ?_)
    exact zk_ret R rfl trivial rfl
  · refine zk_st R 2 21 [some (.inr (13, 0)), some (.inl (.int x1)), some (.inl (.int x2)), none, none] [.inl (.int x1), .inr (13, 0)] (z_sI m 13 0 0 (0 : Int32)) rfl ⟨trivial, trivial, trivial⟩ ?_
    refine zk_call R (fun b => some (.inl (.int (z_bi b)))) (fun _ => (z_sI m 13 0 0 (0 : Int32))) rfl (r_X12_isOutlet (Nat.le_of_ble_eq_true rfl)) (fun b hb => w_X12_isOutlet (d + 3) 0 x1 (z_sI m 13 0 0 (0 : Int32)) b hb) (fun r4 => ?_)
    refine zk_br R rfl (fun _ => ?_) (fun _ => ?_)
    · refine zk_st R 2 29 [some (.inr (13, 0)), some (.inl (.int x1)), some (.inl (.int x2)), none, none] [.inl (.int (2 : Int32)), .inr (13, 0)] (z_sI m 13 0 0 (0 : Int32)) rfl ⟨trivial, trivial, trivial⟩ ?_
      refine zk_call R (fun b => some (.inl (.int b.1))) (fun b => b.2) rfl (r_X12_raises (Nat.le_of_ble_eq_true rfl)) (fun b hb => w_X12_raises (d + 3) 0 (2 : Int32) (z_sI m 13 0 0 (0 : Int32)) b hb) (fun r6 => ?_)
      exact zk_ret R rfl trivial rfl
    · refine zk_st R 4 39 [some (.inr (13, 0)), some (.inl (.int x1)), some (.inl (.int x2)), none, none] [.inl (.long (3 : Int64)), .inl (.long (0 : Int64)), .inl (.long (Int32.toInt64 x2))] (z_sI m 13 0 0 (0 : Int32)) rfl ⟨trivial, trivial, trivial, trivial, trivial⟩ ?_
      refine zk_call R (fun b => some (.inl (.int (z_bi b)))) (fun _ => (z_sI m 13 0 0 (0 : Int32))) rfl (r_X12_in) (fun b hb => w_X12_in (d + 3) 0 (Int32.toInt64 x2) (0 : Int64) (3 : Int64) (z_sI m 13 0 0 (0 : Int32)) b hb) (fun r7 => ?_)
      refine zk_br R rfl (fun _ => ?_) (fun _ => ?_)
      · refine zk_st R 2 47 [some (.inr (13, 0)), some (.inl (.int x1)), some (.inl (.int x2)), none, none] [.inl (.int (3 : Int32)), .inr (13, 0)] (z_sI m 13 0 0 (0 : Int32)) rfl ⟨trivial, trivial, trivial⟩ ?_
        refine zk_call R (fun b => some (.inl (.int b.1))) (fun b => b.2) rfl (r_X12_raises (Nat.le_of_ble_eq_true rfl)) (fun b hb => w_X12_raises (d + 3) 0 (3 : Int32) (z_sI m 13 0 0 (0 : Int32)) b hb) (fun r9 => ?_)
        exact zk_ret R rfl trivial rfl
      · refine zk_st R 1 52 [some (.inr (13, 0)), some (.inl (.int x1)), some (.inl (.int x2)), none, none] [.inr (13, 0)] (z_sI m 13 0 0 (0 : Int32)) rfl ⟨trivial, trivial⟩ ?_
        refine zk_call R (fun _ => none) id rfl (r_X12_waters (Nat.le_of_ble_eq_true rfl)) (fun b hb => w_X12_waters d 0 (z_sI m 13 0 0 (0 : Int32)) b hb) (fun r10 => ?_)
        refine zk_st R 4 60 [some (.inr (13, 0)), some (.inl (.int x1)), some (.inl (.int x2)), some (.inl (.int (0 : Int32))), some (.inl (.int (0 : Int32)))] [] r10 rfl ⟨trivial, trivial, trivial, trivial, trivial⟩ ?_
        refine zk_mask R [true, true, true, true, true] rfl ?_
        exact w_X12_basin_60 d k R zF x1 x2 (0 : Int32) (0 : Int32) r10
