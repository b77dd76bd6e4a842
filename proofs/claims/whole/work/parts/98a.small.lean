/-! Walks in a smaller world: a new grid, a new reference. -/
def zN1 : Nat → Nat
  | 6 => 1 | 20 => 3 | _ => 0
def zN2 : Nat → Nat
  | 13 => 1 | 23 => 1 | _ => 0
abbrev zRuN (N : Nat → Nat) (d : Nat) (ct : zT) (bo : Nat) (hh : Nat → Nat → Option Int32) (o : zO) (G : Nat → Nat → zL → List zA → zM → Prop) : Prop := z_Rules N zRf zKD (z_Ev z_MT N zRf d) ct bo hh o G
theorem zj_top {N : Nat → Nat} {d k y : Nat} {as : List zA} {m : zM} {I : zI} {α : Type} {oc : α → zO} {A : Option α} {a : α} (hI : z_MT y = I) (hl : (z_sl as).length ≤ I.2.2.1) (h : ∀ G, zRuN N d I.2.2.2.2.2.1 (z_bo I.2.2.2.1) (z_hf I.2.2.2.2.1) (oc a) G → zLK G oc (oc a) A some k 0 (z_ent I.2.2.1 as) [] m) (ha : A = some a) : z_Ev z_MT N zRf (d + 1) k y as m (oc a) := by
  subst hI
  exact ⟨hl, fun G R => h G R a (by rw [ha]; rfl) rfl⟩
theorem zj_rcv {N : Nat → Nat} {as : List zA} : z_rcv N (zKD 7) as := by
  rw [show zKD 7 = 0 from rfl]
  trivial
theorem zj_J7_fill_53178_5_k20 (d k : Nat) {o : zO} {G : Nat → Nat → zL → List zA → zM → Prop} (i0 : Nat) (hi0 : i0 < zN1 20) (R : zRuN zN1 (d + 0) tJ7_fill_53178 0 (z_hf []) o G) : ∀ (j : Nat) (x1 : Int32) (x2 : Int32) (x3 : Int32) (m : zM), zLK G (fun a => (.inl none, a) : zM → zO) o (f_J7_fill_53178_5 20 i0 j x1 x2 x3 m) some (k + 0) 5 [some (.inr (20, i0)), some (.inl (.int x1)), some (.inl (.int x2)), some (.inl (.int x3))] [] m := by
  intro j
  induction j with
  | zero =>
    intro _ _ _ _
    exact zk_none
  | succ j ih =>
    intro x1 x2 x3 m
    unfold f_J7_fill_53178_5
    refine zk_st R 2 7 [some (.inr (20, i0)), some (.inl (.int x1)), some (.inl (.int x2)), some (.inl (.int x3))] [.inl (.int x3), .inl (.int x2)] m rfl ⟨trivial, trivial, trivial⟩ ?_
    refine zk_br R rfl (fun _ => ?_) (fun _ => ?_)
    · exact zk_ret R rfl trivial rfl
    · refine zk_gd fun e2 => ?_
      refine zk_st R 6 5 [some (.inr (20, i0)), some (.inl (.int x1)), some (.inl (.int (x2 + (1 : Int32)))), some (.inl (.int x3))] [] (z_sI m 20 i0 (Int32.toNatClampNeg x2) x1) rfl ⟨trivial, trivial, trivial, ⟨hi0, z_inb_in e2⟩, trivial, trivial, trivial⟩ ?_
      refine zk_mask R [true, true, true, true] rfl ?_
      exact ih x1 (x2 + (1 : Int32)) x3 (z_sI m 20 i0 (Int32.toNatClampNeg x2) x1)
theorem zj_J7_fill_53178_k20 (d k : Nat) (i0 : Nat) (hi0 : i0 < zN1 20) (x1 : Int32) (m : zM) (a : zM) (ha : f_J7_fill_53178 20 i0 x1 m = some a) : z_Ev z_MT zN1 zRf (d + 1) (k + 0) 7 [.inr (20, i0), .inl (.int x1)] m ((fun a => (.inl none, a) : zM → zO) a) := by
  refine zj_top (N := zN1) (I := (yJ7_fill_53178, cJ7_fill_53178, 4, none, [], tJ7_fill_53178, 0, 2, 17, 0, 0, 0)) (oc := (fun a => (.inl none, a) : zM → zO)) (a := a) rfl (Nat.le_of_ble_eq_true rfl) (fun G R => ?_) ha
  unfold f_J7_fill_53178
  refine zk_st R 5 5 [some (.inr (20, i0)), some (.inl (.int x1)), some (.inl (.int (0 : Int32))), some (.inl (.int (Int32.ofNat (z_alen 20))))] [] m rfl ⟨trivial, trivial, trivial, hi0, trivial, trivial⟩ ?_
  refine zk_mask R [true, true, true, true] rfl ?_
  exact zj_J7_fill_53178_5_k20 d k i0 hi0 R zF x1 (0 : Int32) (Int32.ofNat (z_alen 20)) m
theorem zj_X4_startAfresh (d k : Nat) (x1 : Int32) (x2 : Int32) (m : zM) (a : zM) (ha : f_X4_startAfresh 0 x1 x2 m = some a) : z_Ev z_MT zN1 zRf (d + 2) (k + 0) 18 [.inr (6, 0), .inl (.int x1), .inl (.int x2)] m ((fun a => (.inl none, a) : zM → zO) a) := by
  refine zj_top (N := zN1) (I := (yX4_startAfresh, cX4_startAfresh, 3, none, [], tX4_startAfresh, 6, 2, 6, 0, 0, 0)) (oc := (fun a => (.inl none, a) : zM → zO)) (a := a) rfl (Nat.le_of_ble_eq_true rfl) (fun G R => ?_) ha
  unfold f_X4_startAfresh
  refine zk_st R 12 21 [some (.inr (6, 0)), some (.inl (.int x1)), some (.inl (.int x2))] [.inl (.int (50 : Int32)), .inr (20, 3 * 0)] (z_sL (z_sI (z_sI m 6 0 0 x1) 6 0 1 x2) 6 0 3 (1 : Int64)) rfl ⟨trivial, trivial, (show 0 < zN1 6 by decide), trivial, trivial, (show 0 < zN1 6 by decide), trivial, trivial, (show 0 < zN1 6 by decide), trivial, (show 0 < zN1 6 by decide), trivial, trivial⟩ ?_
  refine zk_call R (fun _ => none) id rfl zj_rcv (fun b hb => zj_J7_fill_53178_k20 d 0 (3 * 0) (show 0 < zN1 20 by decide) (50 : Int32) (z_sL (z_sI (z_sI m 6 0 0 x1) 6 0 1 x2) 6 0 3 (1 : Int64)) b hb) (fun r1 => ?_)
  refine zk_st R 3 29 [some (.inr (6, 0)), some (.inl (.int x1)), some (.inl (.int x2))] [.inl (.int (1 : Int32)), .inr (20, 3 * 0 + 1)] r1 rfl ⟨trivial, (show 0 < zN1 6 by decide), trivial, trivial⟩ ?_
  refine zk_call R (fun _ => none) id rfl zj_rcv (fun b hb => zj_J7_fill_53178_k20 d 0 (3 * 0 + 1) (show 1 < zN1 20 by decide) (1 : Int32) r1 b hb) (fun r2 => ?_)
  refine zk_st R 3 37 [some (.inr (6, 0)), some (.inl (.int x1)), some (.inl (.int x2))] [.inl (.int (0 : Int32)), .inr (20, 3 * 0 + 2)] r2 rfl ⟨trivial, (show 0 < zN1 6 by decide), trivial, trivial⟩ ?_
  refine zk_call R (fun _ => none) id rfl zj_rcv (fun b hb => zj_J7_fill_53178_k20 d 0 (3 * 0 + 2) (show 2 < zN1 20 by decide) (0 : Int32) r2 b hb) (fun r3 => ?_)
  exact zk_ret R rfl trivial rfl
theorem zj_X12_lays_71 (d k : Nat) {o : zO} {G : Nat → Nat → zL → List zA → zM → Prop} (R : zRuN zN2 (d + 0) tX12_lays 0 (z_hf []) o G) (c16 : Int32 → zM → Option (zM)) (hc16 : ∀ (x3 : Int32) (m : zM), zLK G (fun a => (.inl none, a) : zM → zO) o (c16 x3 m) some (k + 0) 16 [some (.inr (13, 0)), none, none, some (.inl (.int x3))] [] m) (x3 : Int32) (s1 : Int32) (s2 : Int32) (m : zM) : zLK G (fun a => (.inl none, a) : zM → zO) o (f_X12_lays_71 c16 x3 s1 s2 m) some (k + 0) 71 [some (.inr (13, 0)), none, none, some (.inl (.int x3))] [.inl (.int s2), .inl (.int s1), .inr (23, 0)] m := by
  unfold f_X12_lays_71
  refine zk_gd fun e1 => ?_
  refine zk_st R 3 16 [some (.inr (13, 0)), none, none, some (.inl (.int (x3 + (1 : Int32))))] [] (z_sI m 23 0 (Int32.toNatClampNeg s1) s2) rfl ⟨⟨(Nat.le_of_ble_eq_true rfl), z_inb_in e1⟩, trivial, trivial, trivial⟩ ?_
  refine zk_mask R [true, false, false, true] rfl ?_
  exact hc16 (x3 + (1 : Int32)) (z_sI m 23 0 (Int32.toNatClampNeg s1) s2)
theorem zj_X12_lays_16 (d k : Nat) {o : zO} {G : Nat → Nat → zL → List zA → zM → Prop} (R : zRuN zN2 (d + 0) tX12_lays 0 (z_hf []) o G) : ∀ (j : Nat) (x3 : Int32) (m : zM), zLK G (fun a => (.inl none, a) : zM → zO) o (f_X12_lays_16 j x3 m) some (k + 0) 16 [some (.inr (13, 0)), none, none, some (.inl (.int x3))] [] m := by
  intro j
  induction j with
  | zero =>
    intro _ _
    exact zk_none
  | succ j ih =>
    intro x3 m
    unfold f_X12_lays_16
    refine zk_st R 2 19 [some (.inr (13, 0)), none, none, some (.inl (.int x3))] [.inl (.int (64 : Int32)), .inl (.int x3)] m rfl ⟨trivial, trivial, trivial⟩ ?_
    refine zk_br R rfl (fun _ => ?_) (fun _ => ?_)
    · exact zk_ret R rfl trivial rfl
    · refine zk_gd fun e2 => ?_
      refine zk_gd fun e3 => ?_
      refine zk_gd fun e4 => ?_
      refine zk_st R 27 63 [some (.inr (13, 0)), none, none, some (.inl (.int x3))] [.inl (.int x3), .inl (.int ((195 : Int32) + x3)), .inr (23, 0)] (z_sI (z_sI (z_sI m 23 0 (Int32.toNatClampNeg ((3 : Int32) + x3)) (50 : Int32)) 23 0 (Int32.toNatClampNeg ((67 : Int32) + x3)) (1 : Int32)) 23 0 (Int32.toNatClampNeg ((131 : Int32) + x3)) (0 : Int32)) rfl ⟨trivial, (Nat.le_of_ble_eq_true rfl), trivial, trivial, trivial, trivial, ⟨(Nat.le_of_ble_eq_true rfl), z_inb_in e2⟩, trivial, (Nat.le_of_ble_eq_true rfl), trivial, trivial, trivial, trivial, ⟨(Nat.le_of_ble_eq_true rfl), z_inb_in e3⟩, trivial, (Nat.le_of_ble_eq_true rfl), trivial, trivial, trivial, trivial, ⟨(Nat.le_of_ble_eq_true rfl), z_inb_in e4⟩, trivial, (Nat.le_of_ble_eq_true rfl), trivial, trivial, trivial, trivial, trivial⟩ ?_
      refine zk_br R rfl (fun _ => ?_) (fun _ => ?_)
      · refine zk_st R 2 71 [some (.inr (13, 0)), none, none, some (.inl (.int x3))] [.inl (.int (1 : Int32)), .inl (.int ((195 : Int32) + x3)), .inr (23, 0)] (z_sI (z_sI (z_sI m 23 0 (Int32.toNatClampNeg ((3 : Int32) + x3)) (50 : Int32)) 23 0 (Int32.toNatClampNeg ((67 : Int32) + x3)) (1 : Int32)) 23 0 (Int32.toNatClampNeg ((131 : Int32) + x3)) (0 : Int32)) rfl ⟨trivial, trivial, trivial⟩ ?_
        refine zk_mask R [true, false, false, true] rfl ?_
        exact zj_X12_lays_71 d k R (f_X12_lays_16 j) ih x3 ((195 : Int32) + x3) (1 : Int32) (z_sI (z_sI (z_sI m 23 0 (Int32.toNatClampNeg ((3 : Int32) + x3)) (50 : Int32)) 23 0 (Int32.toNatClampNeg ((67 : Int32) + x3)) (1 : Int32)) 23 0 (Int32.toNatClampNeg ((131 : Int32) + x3)) (0 : Int32))
      · refine zk_st R 1 71 [some (.inr (13, 0)), none, none, some (.inl (.int x3))] [.inl (.int (0 : Int32)), .inl (.int ((195 : Int32) + x3)), .inr (23, 0)] (z_sI (z_sI (z_sI m 23 0 (Int32.toNatClampNeg ((3 : Int32) + x3)) (50 : Int32)) 23 0 (Int32.toNatClampNeg ((67 : Int32) + x3)) (1 : Int32)) 23 0 (Int32.toNatClampNeg ((131 : Int32) + x3)) (0 : Int32)) rfl ⟨trivial, trivial⟩ ?_
        refine zk_mask R [true, false, false, true] rfl ?_
        exact zj_X12_lays_71 d k R (f_X12_lays_16 j) ih x3 ((195 : Int32) + x3) (0 : Int32) (z_sI (z_sI (z_sI m 23 0 (Int32.toNatClampNeg ((3 : Int32) + x3)) (50 : Int32)) 23 0 (Int32.toNatClampNeg ((67 : Int32) + x3)) (1 : Int32)) 23 0 (Int32.toNatClampNeg ((131 : Int32) + x3)) (0 : Int32))
theorem zj_X12_lays (d k : Nat) (x1 : Int32) (x2 : Int32) (m : zM) (a : zM) (ha : f_X12_lays x1 x2 m = some a) : z_Ev z_MT zN2 zRf (d + 1) (k + 0) 160 [.inr (13, 0), .inl (.int x1), .inl (.int x2)] m ((fun a => (.inl none, a) : zM → zO) a) := by
  refine zj_top (N := zN2) (I := (yX12_lays, cX12_lays, 4, none, [], tX12_lays, 13, 2, 13, 0, 0, 0)) (oc := (fun a => (.inl none, a) : zM → zO)) (a := a) rfl (Nat.le_of_ble_eq_true rfl) (fun G R => ?_) ha
  unfold f_X12_lays
  refine zk_gd fun e1 => ?_
  refine zk_gd fun e2 => ?_
  refine zk_st R 12 16 [some (.inr (13, 0)), some (.inl (.int x1)), some (.inl (.int x2)), some (.inl (.int (0 : Int32)))] [] (z_sI (z_sI m 23 0 (Int32.toNatClampNeg (0 : Int32)) x1) 23 0 (Int32.toNatClampNeg (1 : Int32)) x2) rfl ⟨trivial, (Nat.le_of_ble_eq_true rfl), trivial, trivial, ⟨(Nat.le_of_ble_eq_true rfl), z_inb_in e1⟩, trivial, (Nat.le_of_ble_eq_true rfl), trivial, trivial, ⟨(Nat.le_of_ble_eq_true rfl), z_inb_in e2⟩, trivial, trivial, trivial⟩ ?_
  refine zk_mask R [true, false, false, true] rfl ?_
  exact zj_X12_lays_16 d k R zF (0 : Int32) (z_sI (z_sI m 23 0 (Int32.toNatClampNeg (0 : Int32)) x1) 23 0 (Int32.toNatClampNeg (1 : Int32)) x2)
