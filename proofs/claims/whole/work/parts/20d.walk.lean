theorem r_X2_findDepths {i : Nat} {t : List zA} (h : i < zN 4) : z_rcv zN (zKD 58) (.inr (4, i) :: t) := by
  rw [show zKD 58 = 4 from rfl]
  exact ⟨rfl, h⟩
noncomputable def f_X2_findDepths_12 (g1 : Nat) : Nat → Int32 → Int32 → zM → Option (zM)
  | 0, _, _, _ => none
  | j + 1, x2, x3, m =>
    if x2 ≤ x3 then
      some m
    else
      Option.bind (f_X7_at 20 33 x3 m) fun r2 =>
      Option.bind (f_X7_at 20 (3 * g1) x3 m) fun r3 =>
      Option.bind (f_X7_put 20 34 x3 (r2 - r3) m) fun r4 =>
      if (r2 - r3) ≤ 0 then
        f_X2_findDepths_12 g1 j x2 (x3 + (1 : Int32)) r4
      else
        f_X2_findDepths_12 g1 j x2 (x3 + (1 : Int32)) (z_sL r4 4 0 5 ((r4.2.1 4 0 5) ||| (z_shl (1 : Int64) x3)))
noncomputable def f_X2_findDepths (g1 : Nat) (m : zM) : Option (zM) :=
  Option.bind (f_X4_size g1 (z_sL m 4 0 5 (0 : Int64))) fun r1 =>
  f_X2_findDepths_12 g1 zF r1 (0 : Int32) (z_sL m 4 0 5 (0 : Int64))
theorem w_X2_findDepths_12 (d k : Nat) {o : zO} {G : Nat → Nat → zL → List zA → zM → Prop} (g1 : Nat) (hg1 : g1 < zN 6) (R : zRu (d + 1) tX2_findDepths 0 (z_hf []) o G) : ∀ (j : Nat) (x2 : Int32) (x3 : Int32) (m : zM), zLK G (fun a => (.inl none, a) : zM → zO) o (f_X2_findDepths_12 g1 j x2 x3 m) some (k + 0) 12 [some (.inr (4, 0)), some (.inr (6, g1)), some (.inl (.int x2)), some (.inl (.int x3)), none] [] m := by
  intro j
  induction j with
  | zero =>
    intro _ _ _
    exact zk_none
  | succ j ih =>
    intro x2 x3 m
    unfold f_X2_findDepths_12
    refine zk_st R 2 14 [some (.inr (4, 0)), some (.inr (6, g1)), some (.inl (.int x2)), some (.inl (.int x3)), none] [.inl (.int x2), .inl (.int x3)] m rfl ⟨trivial, trivial, trivial⟩ ?_
    refine zk_br R rfl (fun _ => ?_) (fun _ => ?_)
    · exact zk_ret R rfl trivial rfl
    · refine zk_st R 3 22 [some (.inr (4, 0)), some (.inr (6, g1)), some (.inl (.int x2)), some (.inl (.int x3)), none] [.inl (.int x3), .inr (20, 33)] m rfl ⟨trivial, (Nat.le_of_ble_eq_true rfl), trivial, trivial⟩ ?_
      refine zk_call R (fun b => some (.inl (.int b))) (fun _ => m) rfl (r_X7_at) (fun b hb => w_X7_at_k20 d 0 33 (Nat.le_of_ble_eq_true rfl) x3 m b hb) (fun r2 => ?_)
      refine zk_st R 3 30 [some (.inr (4, 0)), some (.inr (6, g1)), some (.inl (.int x2)), some (.inl (.int x3)), none] [.inl (.int x3), .inr (20, 3 * g1), .inl (.int r2)] m rfl ⟨trivial, hg1, trivial, trivial⟩ ?_
      refine zk_call R (fun b => some (.inl (.int b))) (fun _ => m) rfl (r_X7_at) (fun b hb => w_X7_at_k20 d 0 (3 * g1) (z_g0 hg1) x3 m b hb) (fun r3 => ?_)
      refine zk_st R 6 43 [some (.inr (4, 0)), some (.inr (6, g1)), some (.inl (.int x2)), some (.inl (.int x3)), some (.inl (.int (r2 - r3)))] [.inl (.int (r2 - r3)), .inl (.int x3), .inr (20, 34)] m rfl ⟨trivial, trivial, trivial, (Nat.le_of_ble_eq_true rfl), trivial, trivial, trivial⟩ ?_
      refine zk_call R (fun _ => none) id rfl (r_X7_put) (fun b hb => w_X7_put_k20 d 0 34 (Nat.le_of_ble_eq_true rfl) x3 (r2 - r3) m b hb) (fun r4 => ?_)
      refine zk_st R 1 48 [some (.inr (4, 0)), some (.inr (6, g1)), some (.inl (.int x2)), some (.inl (.int x3)), some (.inl (.int (r2 - r3)))] [.inl (.int (r2 - r3))] r4 rfl ⟨trivial, trivial⟩ ?_
      refine zk_br R rfl (fun _ => ?_) (fun _ => ?_)
      · refine zk_st R 2 12 [some (.inr (4, 0)), some (.inr (6, g1)), some (.inl (.int x2)), some (.inl (.int (x3 + (1 : Int32)))), some (.inl (.int (r2 - r3)))] [] r4 rfl ⟨trivial, trivial, trivial⟩ ?_
        refine zk_mask R [true, true, true, true, false] rfl ?_
        exact ih x2 (x3 + (1 : Int32)) r4
      · refine zk_st R 10 12 [some (.inr (4, 0)), some (.inr (6, g1)), some (.inl (.int x2)), some (.inl (.int (x3 + (1 : Int32)))), some (.inl (.int (r2 - r3)))] [] (z_sL r4 4 0 5 ((r4.2.1 4 0 5) ||| (z_shl (1 : Int64) x3))) rfl ⟨trivial, trivial, (Nat.le_of_ble_eq_true rfl), trivial, trivial, trivial, trivial, (Nat.le_of_ble_eq_true rfl), trivial, trivial, trivial⟩ ?_
        refine zk_mask R [true, true, true, true, false] rfl ?_
        exact ih x2 (x3 + (1 : Int32)) (z_sL r4 4 0 5 ((r4.2.1 4 0 5) ||| (z_shl (1 : Int64) x3)))
theorem w_X2_findDepths (d k : Nat) (g1 : Nat) (hg1 : g1 < zN 6) (m : zM) (a : zM) (ha : f_X2_findDepths g1 m = some a) : z_Ev z_MT zN zRf (d + 2) (k + 0) 58 [.inr (4, 0), .inr (6, g1)] m ((fun a => (.inl none, a) : zM → zO) a) := by
  refine zk_top (I := (yX2_findDepths, cX2_findDepths, 5, none, [], tX2_findDepths, 4, 1, 4, 0, 0, 0)) (oc := (fun a => (.inl none, a) : zM → zO)) (a := a) rfl (Nat.le_of_ble_eq_true rfl) (fun G R => ?_) ha
  unfold f_X2_findDepths
  refine zk_st R 4 6 [some (.inr (4, 0)), some (.inr (6, g1)), none, none, none] [.inr (6, g1)] (z_sL m 4 0 5 (0 : Int64)) rfl ⟨trivial, trivial, (Nat.le_of_ble_eq_true rfl), trivial, trivial⟩ ?_
  refine zk_call R (fun b => some (.inl (.int b))) (fun _ => (z_sL m 4 0 5 (0 : Int64))) rfl (r_X4_size hg1) (fun b hb => w_X4_size d 0 g1 hg1 (z_sL m 4 0 5 (0 : Int64)) b hb) (fun r1 => ?_)
  refine zk_st R 3 12 [some (.inr (4, 0)), some (.inr (6, g1)), some (.inl (.int r1)), some (.inl (.int (0 : Int32))), none] [] (z_sL m 4 0 5 (0 : Int64)) rfl ⟨trivial, trivial, trivial, trivial⟩ ?_
  refine zk_mask R [true, true, true, true, false] rfl ?_
  exact w_X2_findDepths_12 d k g1 hg1 R zF r1 (0 : Int32) (z_sL m 4 0 5 (0 : Int64))
