theorem r_X12_depressions {i : Nat} {t : List zA} (h : i < zN 13) : z_rcv zN (zKD 196) (.inr (13, i) :: t) := by
  rw [show zKD 196 = 13 from rfl]
  exact ⟨rfl, h⟩
noncomputable def f_X12_depressions_179 (c7 : Int32 → zM → Option (zM)) (c24 : Int32 → Int64 → Int32 → Int32 → zM → Option (zM)) : Nat → Int32 → Int64 → Int32 → Int32 → Int32 → zM → Option (zM)
  | 0, _, _, _, _, _, _ => none
  | j + 1, x1, x2, x4, x5, x8, m =>
    if x4 ≤ x8 then
      z_gd (z_inb (m.1 13 0 21) (z_alen 21)) <| z_gd (z_inb ((z_sI m 21 3 (Int32.toNatClampNeg (m.1 13 0 21)) x1).1 13 0 21) (z_alen 21)) <| z_gd (z_inb ((z_sI (z_sI m 21 3 (Int32.toNatClampNeg (m.1 13 0 21)) x1) 21 4 (Int32.toNatClampNeg ((z_sI m 21 3 (Int32.toNatClampNeg (m.1 13 0 21)) x1).1 13 0 21)) x1).1 13 0 21) (z_alen 21)) <| z_gd (z_inb ((z_sI (z_sI (z_sI m 21 3 (Int32.toNatClampNeg (m.1 13 0 21)) x1) 21 4 (Int32.toNatClampNeg ((z_sI m 21 3 (Int32.toNatClampNeg (m.1 13 0 21)) x1).1 13 0 21)) x1) 21 5 (Int32.toNatClampNeg ((z_sI (z_sI m 21 3 (Int32.toNatClampNeg (m.1 13 0 21)) x1) 21 4 (Int32.toNatClampNeg ((z_sI m 21 3 (Int32.toNatClampNeg (m.1 13 0 21)) x1).1 13 0 21)) x1).1 13 0 21)) (-1 : Int32)).1 13 0 21) (z_alen 31)) <| z_gd (z_inb ((z_sL (z_sI (z_sI (z_sI m 21 3 (Int32.toNatClampNeg (m.1 13 0 21)) x1) 21 4 (Int32.toNatClampNeg ((z_sI m 21 3 (Int32.toNatClampNeg (m.1 13 0 21)) x1).1 13 0 21)) x1) 21 5 (Int32.toNatClampNeg ((z_sI (z_sI m 21 3 (Int32.toNatClampNeg (m.1 13 0 21)) x1) 21 4 (Int32.toNatClampNeg ((z_sI m 21 3 (Int32.toNatClampNeg (m.1 13 0 21)) x1).1 13 0 21)) x1).1 13 0 21)) (-1 : Int32)) 31 2 (Int32.toNatClampNeg ((z_sI (z_sI (z_sI m 21 3 (Int32.toNatClampNeg (m.1 13 0 21)) x1) 21 4 (Int32.toNatClampNeg ((z_sI m 21 3 (Int32.toNatClampNeg (m.1 13 0 21)) x1).1 13 0 21)) x1) 21 5 (Int32.toNatClampNeg ((z_sI (z_sI m 21 3 (Int32.toNatClampNeg (m.1 13 0 21)) x1) 21 4 (Int32.toNatClampNeg ((z_sI m 21 3 (Int32.toNatClampNeg (m.1 13 0 21)) x1).1 13 0 21)) x1).1 13 0 21)) (-1 : Int32)).1 13 0 21)) ((z_sI (z_sI (z_sI m 21 3 (Int32.toNatClampNeg (m.1 13 0 21)) x1) 21 4 (Int32.toNatClampNeg ((z_sI m 21 3 (Int32.toNatClampNeg (m.1 13 0 21)) x1).1 13 0 21)) x1) 21 5 (Int32.toNatClampNeg ((z_sI (z_sI m 21 3 (Int32.toNatClampNeg (m.1 13 0 21)) x1) 21 4 (Int32.toNatClampNeg ((z_sI m 21 3 (Int32.toNatClampNeg (m.1 13 0 21)) x1).1 13 0 21)) x1).1 13 0 21)) (-1 : Int32)).2.1 13 0 20)).1 13 0 21) (z_alen 31)) <| c24 x1 x2 x4 (x5 + (1 : Int32)) (z_sL (z_sI (z_sL (z_sI (z_sI (z_sI m 21 3 (Int32.toNatClampNeg (m.1 13 0 21)) x1) 21 4 (Int32.toNatClampNeg ((z_sI m 21 3 (Int32.toNatClampNeg (m.1 13 0 21)) x1).1 13 0 21)) x1) 21 5 (Int32.toNatClampNeg ((z_sI (z_sI m 21 3 (Int32.toNatClampNeg (m.1 13 0 21)) x1) 21 4 (Int32.toNatClampNeg ((z_sI m 21 3 (Int32.toNatClampNeg (m.1 13 0 21)) x1).1 13 0 21)) x1).1 13 0 21)) (-1 : Int32)) 31 2 (Int32.toNatClampNeg ((z_sI (z_sI (z_sI m 21 3 (Int32.toNatClampNeg (m.1 13 0 21)) x1) 21 4 (Int32.toNatClampNeg ((z_sI m 21 3 (Int32.toNatClampNeg (m.1 13 0 21)) x1).1 13 0 21)) x1) 21 5 (Int32.toNatClampNeg ((z_sI (z_sI m 21 3 (Int32.toNatClampNeg (m.1 13 0 21)) x1) 21 4 (Int32.toNatClampNeg ((z_sI m 21 3 (Int32.toNatClampNeg (m.1 13 0 21)) x1).1 13 0 21)) x1).1 13 0 21)) (-1 : Int32)).1 13 0 21)) ((z_sI (z_sI (z_sI m 21 3 (Int32.toNatClampNeg (m.1 13 0 21)) x1) 21 4 (Int32.toNatClampNeg ((z_sI m 21 3 (Int32.toNatClampNeg (m.1 13 0 21)) x1).1 13 0 21)) x1) 21 5 (Int32.toNatClampNeg ((z_sI (z_sI m 21 3 (Int32.toNatClampNeg (m.1 13 0 21)) x1) 21 4 (Int32.toNatClampNeg ((z_sI m 21 3 (Int32.toNatClampNeg (m.1 13 0 21)) x1).1 13 0 21)) x1).1 13 0 21)) (-1 : Int32)).2.1 13 0 20)) 13 0 21 (((z_sL (z_sI (z_sI (z_sI m 21 3 (Int32.toNatClampNeg (m.1 13 0 21)) x1) 21 4 (Int32.toNatClampNeg ((z_sI m 21 3 (Int32.toNatClampNeg (m.1 13 0 21)) x1).1 13 0 21)) x1) 21 5 (Int32.toNatClampNeg ((z_sI (z_sI m 21 3 (Int32.toNatClampNeg (m.1 13 0 21)) x1) 21 4 (Int32.toNatClampNeg ((z_sI m 21 3 (Int32.toNatClampNeg (m.1 13 0 21)) x1).1 13 0 21)) x1).1 13 0 21)) (-1 : Int32)) 31 2 (Int32.toNatClampNeg ((z_sI (z_sI (z_sI m 21 3 (Int32.toNatClampNeg (m.1 13 0 21)) x1) 21 4 (Int32.toNatClampNeg ((z_sI m 21 3 (Int32.toNatClampNeg (m.1 13 0 21)) x1).1 13 0 21)) x1) 21 5 (Int32.toNatClampNeg ((z_sI (z_sI m 21 3 (Int32.toNatClampNeg (m.1 13 0 21)) x1) 21 4 (Int32.toNatClampNeg ((z_sI m 21 3 (Int32.toNatClampNeg (m.1 13 0 21)) x1).1 13 0 21)) x1).1 13 0 21)) (-1 : Int32)).1 13 0 21)) ((z_sI (z_sI (z_sI m 21 3 (Int32.toNatClampNeg (m.1 13 0 21)) x1) 21 4 (Int32.toNatClampNeg ((z_sI m 21 3 (Int32.toNatClampNeg (m.1 13 0 21)) x1).1 13 0 21)) x1) 21 5 (Int32.toNatClampNeg ((z_sI (z_sI m 21 3 (Int32.toNatClampNeg (m.1 13 0 21)) x1) 21 4 (Int32.toNatClampNeg ((z_sI m 21 3 (Int32.toNatClampNeg (m.1 13 0 21)) x1).1 13 0 21)) x1).1 13 0 21)) (-1 : Int32)).2.1 13 0 20)).1 13 0 21) + (1 : Int32))) 31 3 (Int32.toNatClampNeg ((z_sL (z_sI (z_sI (z_sI m 21 3 (Int32.toNatClampNeg (m.1 13 0 21)) x1) 21 4 (Int32.toNatClampNeg ((z_sI m 21 3 (Int32.toNatClampNeg (m.1 13 0 21)) x1).1 13 0 21)) x1) 21 5 (Int32.toNatClampNeg ((z_sI (z_sI m 21 3 (Int32.toNatClampNeg (m.1 13 0 21)) x1) 21 4 (Int32.toNatClampNeg ((z_sI m 21 3 (Int32.toNatClampNeg (m.1 13 0 21)) x1).1 13 0 21)) x1).1 13 0 21)) (-1 : Int32)) 31 2 (Int32.toNatClampNeg ((z_sI (z_sI (z_sI m 21 3 (Int32.toNatClampNeg (m.1 13 0 21)) x1) 21 4 (Int32.toNatClampNeg ((z_sI m 21 3 (Int32.toNatClampNeg (m.1 13 0 21)) x1).1 13 0 21)) x1) 21 5 (Int32.toNatClampNeg ((z_sI (z_sI m 21 3 (Int32.toNatClampNeg (m.1 13 0 21)) x1) 21 4 (Int32.toNatClampNeg ((z_sI m 21 3 (Int32.toNatClampNeg (m.1 13 0 21)) x1).1 13 0 21)) x1).1 13 0 21)) (-1 : Int32)).1 13 0 21)) ((z_sI (z_sI (z_sI m 21 3 (Int32.toNatClampNeg (m.1 13 0 21)) x1) 21 4 (Int32.toNatClampNeg ((z_sI m 21 3 (Int32.toNatClampNeg (m.1 13 0 21)) x1).1 13 0 21)) x1) 21 5 (Int32.toNatClampNeg ((z_sI (z_sI m 21 3 (Int32.toNatClampNeg (m.1 13 0 21)) x1) 21 4 (Int32.toNatClampNeg ((z_sI m 21 3 (Int32.toNatClampNeg (m.1 13 0 21)) x1).1 13 0 21)) x1).1 13 0 21)) (-1 : Int32)).2.1 13 0 20)).1 13 0 21)) ((z_sI (z_sL (z_sI (z_sI (z_sI m 21 3 (Int32.toNatClampNeg (m.1 13 0 21)) x1) 21 4 (Int32.toNatClampNeg ((z_sI m 21 3 (Int32.toNatClampNeg (m.1 13 0 21)) x1).1 13 0 21)) x1) 21 5 (Int32.toNatClampNeg ((z_sI (z_sI m 21 3 (Int32.toNatClampNeg (m.1 13 0 21)) x1) 21 4 (Int32.toNatClampNeg ((z_sI m 21 3 (Int32.toNatClampNeg (m.1 13 0 21)) x1).1 13 0 21)) x1).1 13 0 21)) (-1 : Int32)) 31 2 (Int32.toNatClampNeg ((z_sI (z_sI (z_sI m 21 3 (Int32.toNatClampNeg (m.1 13 0 21)) x1) 21 4 (Int32.toNatClampNeg ((z_sI m 21 3 (Int32.toNatClampNeg (m.1 13 0 21)) x1).1 13 0 21)) x1) 21 5 (Int32.toNatClampNeg ((z_sI (z_sI m 21 3 (Int32.toNatClampNeg (m.1 13 0 21)) x1) 21 4 (Int32.toNatClampNeg ((z_sI m 21 3 (Int32.toNatClampNeg (m.1 13 0 21)) x1).1 13 0 21)) x1).1 13 0 21)) (-1 : Int32)).1 13 0 21)) ((z_sI (z_sI (z_sI m 21 3 (Int32.toNatClampNeg (m.1 13 0 21)) x1) 21 4 (Int32.toNatClampNeg ((z_sI m 21 3 (Int32.toNatClampNeg (m.1 13 0 21)) x1).1 13 0 21)) x1) 21 5 (Int32.toNatClampNeg ((z_sI (z_sI m 21 3 (Int32.toNatClampNeg (m.1 13 0 21)) x1) 21 4 (Int32.toNatClampNeg ((z_sI m 21 3 (Int32.toNatClampNeg (m.1 13 0 21)) x1).1 13 0 21)) x1).1 13 0 21)) (-1 : Int32)).2.1 13 0 20)) 13 0 21 (((z_sL (z_sI (z_sI (z_sI m 21 3 (Int32.toNatClampNeg (m.1 13 0 21)) x1) 21 4 (Int32.toNatClampNeg ((z_sI m 21 3 (Int32.toNatClampNeg (m.1 13 0 21)) x1).1 13 0 21)) x1) 21 5 (Int32.toNatClampNeg ((z_sI (z_sI m 21 3 (Int32.toNatClampNeg (m.1 13 0 21)) x1) 21 4 (Int32.toNatClampNeg ((z_sI m 21 3 (Int32.toNatClampNeg (m.1 13 0 21)) x1).1 13 0 21)) x1).1 13 0 21)) (-1 : Int32)) 31 2 (Int32.toNatClampNeg ((z_sI (z_sI (z_sI m 21 3 (Int32.toNatClampNeg (m.1 13 0 21)) x1) 21 4 (Int32.toNatClampNeg ((z_sI m 21 3 (Int32.toNatClampNeg (m.1 13 0 21)) x1).1 13 0 21)) x1) 21 5 (Int32.toNatClampNeg ((z_sI (z_sI m 21 3 (Int32.toNatClampNeg (m.1 13 0 21)) x1) 21 4 (Int32.toNatClampNeg ((z_sI m 21 3 (Int32.toNatClampNeg (m.1 13 0 21)) x1).1 13 0 21)) x1).1 13 0 21)) (-1 : Int32)).1 13 0 21)) ((z_sI (z_sI (z_sI m 21 3 (Int32.toNatClampNeg (m.1 13 0 21)) x1) 21 4 (Int32.toNatClampNeg ((z_sI m 21 3 (Int32.toNatClampNeg (m.1 13 0 21)) x1).1 13 0 21)) x1) 21 5 (Int32.toNatClampNeg ((z_sI (z_sI m 21 3 (Int32.toNatClampNeg (m.1 13 0 21)) x1) 21 4 (Int32.toNatClampNeg ((z_sI m 21 3 (Int32.toNatClampNeg (m.1 13 0 21)) x1).1 13 0 21)) x1).1 13 0 21)) (-1 : Int32)).2.1 13 0 20)).1 13 0 21) + (1 : Int32))).2.1 13 0 20))
    else
      z_gd (z_inb x8 (z_alen 21)) <| if (m.1 21 4 (Int32.toNatClampNeg x8)) = (x1 - (1 : Int32)) then
        z_gd (z_inb x8 (z_alen 31)) <| if (lg_cmp ((m.2.1 31 3 (Int32.toNatClampNeg x8)) &&& ((m.2.1 13 0 20) ^^^ (-1 : Int64))) (0 : Int64)) = 0 then
          z_gd (z_inb x8 (z_alen 21)) <| f_X12_depressions_179 c7 c24 j x1 x2 x4 x5 (x8 + (1 : Int32)) (z_sI m 21 5 (Int32.toNatClampNeg x8) (m.1 13 0 21))
        else
          f_X12_depressions_179 c7 c24 j x1 x2 x4 x5 (x8 + (1 : Int32)) m
      else
        f_X12_depressions_179 c7 c24 j x1 x2 x4 x5 (x8 + (1 : Int32)) m
noncomputable def f_X12_depressions_91 (c7 : Int32 → zM → Option (zM)) (c24 : Int32 → Int64 → Int32 → Int32 → zM → Option (zM)) : Nat → Int32 → Int64 → Int32 → Int32 → Int32 → Int32 → Int32 → zM → Option (zM)
  | 0, _, _, _, _, _, _, _, _ => none
  | j + 1, x1, x2, x4, x5, x6, x7, x8, m =>
    if x4 ≤ x8 then
      if x6 = (1 : Int32) then
        z_gd (z_inb x7 (z_alen 21)) <| z_gd (z_inb x7 (z_alen 31)) <| c24 x1 x2 x4 (x5 + (1 : Int32)) (z_sL (z_sI m 21 4 (Int32.toNatClampNeg x7) x1) 31 3 (Int32.toNatClampNeg x7) ((z_sI m 21 4 (Int32.toNatClampNeg x7) x1).2.1 13 0 20))
      else
        f_X12_depressions_179 c7 c24 zF x1 x2 x4 x5 (0 : Int32) m
    else
      z_gd (z_inb x8 (z_alen 21)) <| if (m.1 21 4 (Int32.toNatClampNeg x8)) = (x1 - (1 : Int32)) then
        z_gd (z_inb x8 (z_alen 31)) <| if (lg_cmp ((m.2.1 31 3 (Int32.toNatClampNeg x8)) &&& ((m.2.1 13 0 20) ^^^ (-1 : Int64))) (0 : Int64)) = 0 then
          f_X12_depressions_91 c7 c24 j x1 x2 x4 x5 (x6 + (1 : Int32)) x8 (x8 + (1 : Int32)) m
        else
          f_X12_depressions_91 c7 c24 j x1 x2 x4 x5 x6 x7 (x8 + (1 : Int32)) m
      else
        f_X12_depressions_91 c7 c24 j x1 x2 x4 x5 x6 x7 (x8 + (1 : Int32)) m
noncomputable def f_X12_depressions_24 (c7 : Int32 → zM → Option (zM)) : Nat → Int32 → Int64 → Int32 → Int32 → zM → Option (zM)
  | 0, _, _, _, _, _ => none
  | j + 1, x1, x2, x4, x5, m =>
    Option.bind (f_X12_cells m) fun r1 =>
    if r1 ≤ x5 then
      c7 (x1 + (1 : Int32)) m
    else
      Option.bind (f_X12_height x5 m) fun r3 =>
      if x1 < r3 then
        f_X12_depressions_24 c7 j x1 x2 x4 (x5 + (1 : Int32)) m
      else
        if (lg_cmp ((z_shr x2 x5) &&& (1 : Int64)) (1 : Int64)) = 0 then
          f_X12_depressions_24 c7 j x1 x2 x4 (x5 + (1 : Int32)) m
        else
          Option.bind (f_X12_land x5 (0 : Int32) x1 m) fun r6 =>
          Option.bind (f_X12_isPool r6) fun r7 =>
          if (z_bi r7) = 0 then
            f_X12_depressions_24 c7 j x1 (x2 ||| (r6.2.1 13 0 20)) x4 (x5 + (1 : Int32)) r6
          else
            f_X12_depressions_91 c7 (f_X12_depressions_24 c7 j) zF x1 (x2 ||| (r6.2.1 13 0 20)) x4 x5 (0 : Int32) (-1 : Int32) (0 : Int32) r6
noncomputable def f_X12_depressions_7 : Nat → Int32 → zM → Option (zM)
  | 0, _, _ => none
  | j + 1, x1, m =>
    if (100 : Int32) ≤ x1 then
      some m
    else
      f_X12_depressions_24 (f_X12_depressions_7 j) zF x1 (0 : Int64) (m.1 13 0 21) (0 : Int32) m
noncomputable def f_X12_depressions (m : zM) : Option (zM) :=
  f_X12_depressions_7 zF (0 : Int32) (z_sI m 13 0 21 (0 : Int32))
theorem w_X12_depressions_179 (d k : Nat) {o : zO} {G : Nat → Nat → zL → List zA → zM → Prop} (R : zRu (d + 2) tX12_depressions 0 (z_hf []) o G) (c7 : Int32 → zM → Option (zM)) (c24 : Int32 → Int64 → Int32 → Int32 → zM → Option (zM)) (hc7 : ∀ (x1 : Int32) (m : zM), zLK G (fun a => (.inl none, a) : zM → zO) o (c7 x1 m) some (k + 0) 7 [some (.inr (13, 0)), some (.inl (.int x1)), none, none, none, none, none, none, none] [] m) (hc24 : ∀ (x1 : Int32) (x2 : Int64) (x4 : Int32) (x5 : Int32) (m : zM), zLK G (fun a => (.inl none, a) : zM → zO) o (c24 x1 x2 x4 x5 m) some (k + 0) 24 [some (.inr (13, 0)), some (.inl (.int x1)), some (.inl (.long x2)), none, some (.inl (.int x4)), some (.inl (.int x5)), none, none, none] [] m) : ∀ (j : Nat) (x1 : Int32) (x2 : Int64) (x4 : Int32) (x5 : Int32) (x8 : Int32) (m : zM), zLK G (fun a => (.inl none, a) : zM → zO) o (f_X12_depressions_179 c7 c24 j x1 x2 x4 x5 x8 m) some (k + 0) 179 [some (.inr (13, 0)), some (.inl (.int x1)), some (.inl (.long x2)), none, some (.inl (.int x4)), some (.inl (.int x5)), none, none, some (.inl (.int x8))] [] m := by
  intro j
  induction j with
  | zero =>
    intro _ _ _ _ _ _
    exact zk_none
  | succ j ih =>
    intro x1 x2 x4 x5 x8 m
    unfold f_X12_depressions_179
    refine zk_st R 2 183 [some (.inr (13, 0)), some (.inl (.int x1)), some (.inl (.long x2)), none, some (.inl (.int x4)), some (.inl (.int x5)), none, none, some (.inl (.int x8))] [.inl (.int x4), .inl (.int x8)] m rfl ⟨trivial, trivial, trivial⟩ ?_
    refine zk_br R rfl (fun _ => ?_) (fun _ => ?_)
    · refine zk_gd fun e2 => ?_
      refine zk_gd fun e3 => ?_
      refine zk_gd fun e4 => ?_
      refine zk_gd fun e5 => ?_
      refine zk_gd fun e6 => ?_
      refine zk_st R 39 24 [some (.inr (13, 0)), some (.inl (.int x1)), some (.inl (.long x2)), none, some (.inl (.int x4)), some (.inl (.int (x5 + (1 : Int32)))), none, none, some (.inl (.int x8))] [] (z_sL (z_sI (z_sL (z_sI (z_sI (z_sI m 21 3 (Int32.toNatClampNeg (m.1 13 0 21)) x1) 21 4 (Int32.toNatClampNeg ((z_sI m 21 3 (Int32.toNatClampNeg (m.1 13 0 21)) x1).1 13 0 21)) x1) 21 5 (Int32.toNatClampNeg ((z_sI (z_sI m 21 3 (Int32.toNatClampNeg (m.1 13 0 21)) x1) 21 4 (Int32.toNatClampNeg ((z_sI m 21 3 (Int32.toNatClampNeg (m.1 13 0 21)) x1).1 13 0 21)) x1).1 13 0 21)) (-1 : Int32)) 31 2 (Int32.toNatClampNeg ((z_sI (z_sI (z_sI m 21 3 (Int32.toNatClampNeg (m.1 13 0 21)) x1) 21 4 (Int32.toNatClampNeg ((z_sI m 21 3 (Int32.toNatClampNeg (m.1 13 0 21)) x1).1 13 0 21)) x1) 21 5 (Int32.toNatClampNeg ((z_sI (z_sI m 21 3 (Int32.toNatClampNeg (m.1 13 0 21)) x1) 21 4 (Int32.toNatClampNeg ((z_sI m 21 3 (Int32.toNatClampNeg (m.1 13 0 21)) x1).1 13 0 21)) x1).1 13 0 21)) (-1 : Int32)).1 13 0 21)) ((z_sI (z_sI (z_sI m 21 3 (Int32.toNatClampNeg (m.1 13 0 21)) x1) 21 4 (Int32.toNatClampNeg ((z_sI m 21 3 (Int32.toNatClampNeg (m.1 13 0 21)) x1).1 13 0 21)) x1) 21 5 (Int32.toNatClampNeg ((z_sI (z_sI m 21 3 (Int32.toNatClampNeg (m.1 13 0 21)) x1) 21 4 (Int32.toNatClampNeg ((z_sI m 21 3 (Int32.toNatClampNeg (m.1 13 0 21)) x1).1 13 0 21)) x1).1 13 0 21)) (-1 : Int32)).2.1 13 0 20)) 13 0 21 (((z_sL (z_sI (z_sI (z_sI m 21 3 (Int32.toNatClampNeg (m.1 13 0 21)) x1) 21 4 (Int32.toNatClampNeg ((z_sI m 21 3 (Int32.toNatClampNeg (m.1 13 0 21)) x1).1 13 0 21)) x1) 21 5 (Int32.toNatClampNeg ((z_sI (z_sI m 21 3 (Int32.toNatClampNeg (m.1 13 0 21)) x1) 21 4 (Int32.toNatClampNeg ((z_sI m 21 3 (Int32.toNatClampNeg (m.1 13 0 21)) x1).1 13 0 21)) x1).1 13 0 21)) (-1 : Int32)) 31 2 (Int32.toNatClampNeg ((z_sI (z_sI (z_sI m 21 3 (Int32.toNatClampNeg (m.1 13 0 21)) x1) 21 4 (Int32.toNatClampNeg ((z_sI m 21 3 (Int32.toNatClampNeg (m.1 13 0 21)) x1).1 13 0 21)) x1) 21 5 (Int32.toNatClampNeg ((z_sI (z_sI m 21 3 (Int32.toNatClampNeg (m.1 13 0 21)) x1) 21 4 (Int32.toNatClampNeg ((z_sI m 21 3 (Int32.toNatClampNeg (m.1 13 0 21)) x1).1 13 0 21)) x1).1 13 0 21)) (-1 : Int32)).1 13 0 21)) ((z_sI (z_sI (z_sI m 21 3 (Int32.toNatClampNeg (m.1 13 0 21)) x1) 21 4 (Int32.toNatClampNeg ((z_sI m 21 3 (Int32.toNatClampNeg (m.1 13 0 21)) x1).1 13 0 21)) x1) 21 5 (Int32.toNatClampNeg ((z_sI (z_sI m 21 3 (Int32.toNatClampNeg (m.1 13 0 21)) x1) 21 4 (Int32.toNatClampNeg ((z_sI m 21 3 (Int32.toNatClampNeg (m.1 13 0 21)) x1).1 13 0 21)) x1).1 13 0 21)) (-1 : Int32)).2.1 13 0 20)).1 13 0 21) + (1 : Int32))) 31 3 (Int32.toNatClampNeg ((z_sL (z_sI (z_sI (z_sI m 21 3 (Int32.toNatClampNeg (m.1 13 0 21)) x1) 21 4 (Int32.toNatClampNeg ((z_sI m 21 3 (Int32.toNatClampNeg (m.1 13 0 21)) x1).1 13 0 21)) x1) 21 5 (Int32.toNatClampNeg ((z_sI (z_sI m 21 3 (Int32.toNatClampNeg (m.1 13 0 21)) x1) 21 4 (Int32.toNatClampNeg ((z_sI m 21 3 (Int32.toNatClampNeg (m.1 13 0 21)) x1).1 13 0 21)) x1).1 13 0 21)) (-1 : Int32)) 31 2 (Int32.toNatClampNeg ((z_sI (z_sI (z_sI m 21 3 (Int32.toNatClampNeg (m.1 13 0 21)) x1) 21 4 (Int32.toNatClampNeg ((z_sI m 21 3 (Int32.toNatClampNeg (m.1 13 0 21)) x1).1 13 0 21)) x1) 21 5 (Int32.toNatClampNeg ((z_sI (z_sI m 21 3 (Int32.toNatClampNeg (m.1 13 0 21)) x1) 21 4 (Int32.toNatClampNeg ((z_sI m 21 3 (Int32.toNatClampNeg (m.1 13 0 21)) x1).1 13 0 21)) x1).1 13 0 21)) (-1 : Int32)).1 13 0 21)) ((z_sI (z_sI (z_sI m 21 3 (Int32.toNatClampNeg (m.1 13 0 21)) x1) 21 4 (Int32.toNatClampNeg ((z_sI m 21 3 (Int32.toNatClampNeg (m.1 13 0 21)) x1).1 13 0 21)) x1) 21 5 (Int32.toNatClampNeg ((z_sI (z_sI m 21 3 (Int32.toNatClampNeg (m.1 13 0 21)) x1) 21 4 (Int32.toNatClampNeg ((z_sI m 21 3 (Int32.toNatClampNeg (m.1 13 0 21)) x1).1 13 0 21)) x1).1 13 0 21)) (-1 : Int32)).2.1 13 0 20)).1 13 0 21)) ((z_sI (z_sL (z_sI (z_sI (z_sI m 21 3 (Int32.toNatClampNeg (m.1 13 0 21)) x1) 21 4 (Int32.toNatClampNeg ((z_sI m 21 3 (Int32.toNatClampNeg (m.1 13 0 21)) x1).1 13 0 21)) x1) 21 5 (Int32.toNatClampNeg ((z_sI (z_sI m 21 3 (Int32.toNatClampNeg (m.1 13 0 21)) x1) 21 4 (Int32.toNatClampNeg ((z_sI m 21 3 (Int32.toNatClampNeg (m.1 13 0 21)) x1).1 13 0 21)) x1).1 13 0 21)) (-1 : Int32)) 31 2 (Int32.toNatClampNeg ((z_sI (z_sI (z_sI m 21 3 (Int32.toNatClampNeg (m.1 13 0 21)) x1) 21 4 (Int32.toNatClampNeg ((z_sI m 21 3 (Int32.toNatClampNeg (m.1 13 0 21)) x1).1 13 0 21)) x1) 21 5 (Int32.toNatClampNeg ((z_sI (z_sI m 21 3 (Int32.toNatClampNeg (m.1 13 0 21)) x1) 21 4 (Int32.toNatClampNeg ((z_sI m 21 3 (Int32.toNatClampNeg (m.1 13 0 21)) x1).1 13 0 21)) x1).1 13 0 21)) (-1 : Int32)).1 13 0 21)) ((z_sI (z_sI (z_sI m 21 3 (Int32.toNatClampNeg (m.1 13 0 21)) x1) 21 4 (Int32.toNatClampNeg ((z_sI m 21 3 (Int32.toNatClampNeg (m.1 13 0 21)) x1).1 13 0 21)) x1) 21 5 (Int32.toNatClampNeg ((z_sI (z_sI m 21 3 (Int32.toNatClampNeg (m.1 13 0 21)) x1) 21 4 (Int32.toNatClampNeg ((z_sI m 21 3 (Int32.toNatClampNeg (m.1 13 0 21)) x1).1 13 0 21)) x1).1 13 0 21)) (-1 : Int32)).2.1 13 0 20)) 13 0 21 (((z_sL (z_sI (z_sI (z_sI m 21 3 (Int32.toNatClampNeg (m.1 13 0 21)) x1) 21 4 (Int32.toNatClampNeg ((z_sI m 21 3 (Int32.toNatClampNeg (m.1 13 0 21)) x1).1 13 0 21)) x1) 21 5 (Int32.toNatClampNeg ((z_sI (z_sI m 21 3 (Int32.toNatClampNeg (m.1 13 0 21)) x1) 21 4 (Int32.toNatClampNeg ((z_sI m 21 3 (Int32.toNatClampNeg (m.1 13 0 21)) x1).1 13 0 21)) x1).1 13 0 21)) (-1 : Int32)) 31 2 (Int32.toNatClampNeg ((z_sI (z_sI (z_sI m 21 3 (Int32.toNatClampNeg (m.1 13 0 21)) x1) 21 4 (Int32.toNatClampNeg ((z_sI m 21 3 (Int32.toNatClampNeg (m.1 13 0 21)) x1).1 13 0 21)) x1) 21 5 (Int32.toNatClampNeg ((z_sI (z_sI m 21 3 (Int32.toNatClampNeg (m.1 13 0 21)) x1) 21 4 (Int32.toNatClampNeg ((z_sI m 21 3 (Int32.toNatClampNeg (m.1 13 0 21)) x1).1 13 0 21)) x1).1 13 0 21)) (-1 : Int32)).1 13 0 21)) ((z_sI (z_sI (z_sI m 21 3 (Int32.toNatClampNeg (m.1 13 0 21)) x1) 21 4 (Int32.toNatClampNeg ((z_sI m 21 3 (Int32.toNatClampNeg (m.1 13 0 21)) x1).1 13 0 21)) x1) 21 5 (Int32.toNatClampNeg ((z_sI (z_sI m 21 3 (Int32.toNatClampNeg (m.1 13 0 21)) x1) 21 4 (Int32.toNatClampNeg ((z_sI m 21 3 (Int32.toNatClampNeg (m.1 13 0 21)) x1).1 13 0 21)) x1).1 13 0 21)) (-1 : Int32)).2.1 13 0 20)).1 13 0 21) + (1 : Int32))).2.1 13 0 20)) rfl ⟨trivial, (Nat.le_of_ble_eq_true rfl), trivial, (Nat.le_of_ble_eq_true rfl), trivial, ⟨(Nat.le_of_ble_eq_true rfl), z_inb_in e2⟩, trivial, (Nat.le_of_ble_eq_true rfl), trivial, (Nat.le_of_ble_eq_true rfl), trivial, ⟨(Nat.le_of_ble_eq_true rfl), z_inb_in e3⟩, trivial, (Nat.le_of_ble_eq_true rfl), trivial, (Nat.le_of_ble_eq_true rfl), trivial, ⟨(Nat.le_of_ble_eq_true rfl), z_inb_in e4⟩, trivial, (Nat.le_of_ble_eq_true rfl), trivial, (Nat.le_of_ble_eq_true rfl), trivial, (Nat.le_of_ble_eq_true rfl), ⟨(Nat.le_of_ble_eq_true rfl), z_inb_in e5⟩, trivial, (Nat.le_of_ble_eq_true rfl), trivial, trivial, (Nat.le_of_ble_eq_true rfl), trivial, trivial, trivial, (Nat.le_of_ble_eq_true rfl), trivial, (Nat.le_of_ble_eq_true rfl), ⟨(Nat.le_of_ble_eq_true rfl), z_inb_in e6⟩, trivial, trivial, trivial⟩ ?_
      refine zk_mask R [true, true, true, false, true, true, false, false, false] rfl ?_
      exact hc24 x1 x2 x4 (x5 + (1 : Int32)) (z_sL (z_sI (z_sL (z_sI (z_sI (z_sI m 21 3 (Int32.toNatClampNeg (m.1 13 0 21)) x1) 21 4 (Int32.toNatClampNeg ((z_sI m 21 3 (Int32.toNatClampNeg (m.1 13 0 21)) x1).1 13 0 21)) x1) 21 5 (Int32.toNatClampNeg ((z_sI (z_sI m 21 3 (Int32.toNatClampNeg (m.1 13 0 21)) x1) 21 4 (Int32.toNatClampNeg ((z_sI m 21 3 (Int32.toNatClampNeg (m.1 13 0 21)) x1).1 13 0 21)) x1).1 13 0 21)) (-1 : Int32)) 31 2 (Int32.toNatClampNeg ((z_sI (z_sI (z_sI m 21 3 (Int32.toNatClampNeg (m.1 13 0 21)) x1) 21 4 (Int32.toNatClampNeg ((z_sI m 21 3 (Int32.toNatClampNeg (m.1 13 0 21)) x1).1 13 0 21)) x1) 21 5 (Int32.toNatClampNeg ((z_sI (z_sI m 21 3 (Int32.toNatClampNeg (m.1 13 0 21)) x1) 21 4 (Int32.toNatClampNeg ((z_sI m 21 3 (Int32.toNatClampNeg (m.1 13 0 21)) x1).1 13 0 21)) x1).1 13 0 21)) (-1 : Int32)).1 13 0 21)) ((z_sI (z_sI (z_sI m 21 3 (Int32.toNatClampNeg (m.1 13 0 21)) x1) 21 4 (Int32.toNatClampNeg ((z_sI m 21 3 (Int32.toNatClampNeg (m.1 13 0 21)) x1).1 13 0 21)) x1) 21 5 (Int32.toNatClampNeg ((z_sI (z_sI m 21 3 (Int32.toNatClampNeg (m.1 13 0 21)) x1) 21 4 (Int32.toNatClampNeg ((z_sI m 21 3 (Int32.toNatClampNeg (m.1 13 0 21)) x1).1 13 0 21)) x1).1 13 0 21)) (-1 : Int32)).2.1 13 0 20)) 13 0 21 (((z_sL (z_sI (z_sI (z_sI m 21 3 (Int32.toNatClampNeg (m.1 13 0 21)) x1) 21 4 (Int32.toNatClampNeg ((z_sI m 21 3 (Int32.toNatClampNeg (m.1 13 0 21)) x1).1 13 0 21)) x1) 21 5 (Int32.toNatClampNeg ((z_sI (z_sI m 21 3 (Int32.toNatClampNeg (m.1 13 0 21)) x1) 21 4 (Int32.toNatClampNeg ((z_sI m 21 3 (Int32.toNatClampNeg (m.1 13 0 21)) x1).1 13 0 21)) x1).1 13 0 21)) (-1 : Int32)) 31 2 (Int32.toNatClampNeg ((z_sI (z_sI (z_sI m 21 3 (Int32.toNatClampNeg (m.1 13 0 21)) x1) 21 4 (Int32.toNatClampNeg ((z_sI m 21 3 (Int32.toNatClampNeg (m.1 13 0 21)) x1).1 13 0 21)) x1) 21 5 (Int32.toNatClampNeg ((z_sI (z_sI m 21 3 (Int32.toNatClampNeg (m.1 13 0 21)) x1) 21 4 (Int32.toNatClampNeg ((z_sI m 21 3 (Int32.toNatClampNeg (m.1 13 0 21)) x1).1 13 0 21)) x1).1 13 0 21)) (-1 : Int32)).1 13 0 21)) ((z_sI (z_sI (z_sI m 21 3 (Int32.toNatClampNeg (m.1 13 0 21)) x1) 21 4 (Int32.toNatClampNeg ((z_sI m 21 3 (Int32.toNatClampNeg (m.1 13 0 21)) x1).1 13 0 21)) x1) 21 5 (Int32.toNatClampNeg ((z_sI (z_sI m 21 3 (Int32.toNatClampNeg (m.1 13 0 21)) x1) 21 4 (Int32.toNatClampNeg ((z_sI m 21 3 (Int32.toNatClampNeg (m.1 13 0 21)) x1).1 13 0 21)) x1).1 13 0 21)) (-1 : Int32)).2.1 13 0 20)).1 13 0 21) + (1 : Int32))) 31 3 (Int32.toNatClampNeg ((z_sL (z_sI (z_sI (z_sI m 21 3 (Int32.toNatClampNeg (m.1 13 0 21)) x1) 21 4 (Int32.toNatClampNeg ((z_sI m 21 3 (Int32.toNatClampNeg (m.1 13 0 21)) x1).1 13 0 21)) x1) 21 5 (Int32.toNatClampNeg ((z_sI (z_sI m 21 3 (Int32.toNatClampNeg (m.1 13 0 21)) x1) 21 4 (Int32.toNatClampNeg ((z_sI m 21 3 (Int32.toNatClampNeg (m.1 13 0 21)) x1).1 13 0 21)) x1).1 13 0 21)) (-1 : Int32)) 31 2 (Int32.toNatClampNeg ((z_sI (z_sI (z_sI m 21 3 (Int32.toNatClampNeg (m.1 13 0 21)) x1) 21 4 (Int32.toNatClampNeg ((z_sI m 21 3 (Int32.toNatClampNeg (m.1 13 0 21)) x1).1 13 0 21)) x1) 21 5 (Int32.toNatClampNeg ((z_sI (z_sI m 21 3 (Int32.toNatClampNeg (m.1 13 0 21)) x1) 21 4 (Int32.toNatClampNeg ((z_sI m 21 3 (Int32.toNatClampNeg (m.1 13 0 21)) x1).1 13 0 21)) x1).1 13 0 21)) (-1 : Int32)).1 13 0 21)) ((z_sI (z_sI (z_sI m 21 3 (Int32.toNatClampNeg (m.1 13 0 21)) x1) 21 4 (Int32.toNatClampNeg ((z_sI m 21 3 (Int32.toNatClampNeg (m.1 13 0 21)) x1).1 13 0 21)) x1) 21 5 (Int32.toNatClampNeg ((z_sI (z_sI m 21 3 (Int32.toNatClampNeg (m.1 13 0 21)) x1) 21 4 (Int32.toNatClampNeg ((z_sI m 21 3 (Int32.toNatClampNeg (m.1 13 0 21)) x1).1 13 0 21)) x1).1 13 0 21)) (-1 : Int32)).2.1 13 0 20)).1 13 0 21)) ((z_sI (z_sL (z_sI (z_sI (z_sI m 21 3 (Int32.toNatClampNeg (m.1 13 0 21)) x1) 21 4 (Int32.toNatClampNeg ((z_sI m 21 3 (Int32.toNatClampNeg (m.1 13 0 21)) x1).1 13 0 21)) x1) 21 5 (Int32.toNatClampNeg ((z_sI (z_sI m 21 3 (Int32.toNatClampNeg (m.1 13 0 21)) x1) 21 4 (Int32.toNatClampNeg ((z_sI m 21 3 (Int32.toNatClampNeg (m.1 13 0 21)) x1).1 13 0 21)) x1).1 13 0 21)) (-1 : Int32)) 31 2 (Int32.toNatClampNeg ((z_sI (z_sI (z_sI m 21 3 (Int32.toNatClampNeg (m.1 13 0 21)) x1) 21 4 (Int32.toNatClampNeg ((z_sI m 21 3 (Int32.toNatClampNeg (m.1 13 0 21)) x1).1 13 0 21)) x1) 21 5 (Int32.toNatClampNeg ((z_sI (z_sI m 21 3 (Int32.toNatClampNeg (m.1 13 0 21)) x1) 21 4 (Int32.toNatClampNeg ((z_sI m 21 3 (Int32.toNatClampNeg (m.1 13 0 21)) x1).1 13 0 21)) x1).1 13 0 21)) (-1 : Int32)).1 13 0 21)) ((z_sI (z_sI (z_sI m 21 3 (Int32.toNatClampNeg (m.1 13 0 21)) x1) 21 4 (Int32.toNatClampNeg ((z_sI m 21 3 (Int32.toNatClampNeg (m.1 13 0 21)) x1).1 13 0 21)) x1) 21 5 (Int32.toNatClampNeg ((z_sI (z_sI m 21 3 (Int32.toNatClampNeg (m.1 13 0 21)) x1) 21 4 (Int32.toNatClampNeg ((z_sI m 21 3 (Int32.toNatClampNeg (m.1 13 0 21)) x1).1 13 0 21)) x1).1 13 0 21)) (-1 : Int32)).2.1 13 0 20)) 13 0 21 (((z_sL (z_sI (z_sI (z_sI m 21 3 (Int32.toNatClampNeg (m.1 13 0 21)) x1) 21 4 (Int32.toNatClampNeg ((z_sI m 21 3 (Int32.toNatClampNeg (m.1 13 0 21)) x1).1 13 0 21)) x1) 21 5 (Int32.toNatClampNeg ((z_sI (z_sI m 21 3 (Int32.toNatClampNeg (m.1 13 0 21)) x1) 21 4 (Int32.toNatClampNeg ((z_sI m 21 3 (Int32.toNatClampNeg (m.1 13 0 21)) x1).1 13 0 21)) x1).1 13 0 21)) (-1 : Int32)) 31 2 (Int32.toNatClampNeg ((z_sI (z_sI (z_sI m 21 3 (Int32.toNatClampNeg (m.1 13 0 21)) x1) 21 4 (Int32.toNatClampNeg ((z_sI m 21 3 (Int32.toNatClampNeg (m.1 13 0 21)) x1).1 13 0 21)) x1) 21 5 (Int32.toNatClampNeg ((z_sI (z_sI m 21 3 (Int32.toNatClampNeg (m.1 13 0 21)) x1) 21 4 (Int32.toNatClampNeg ((z_sI m 21 3 (Int32.toNatClampNeg (m.1 13 0 21)) x1).1 13 0 21)) x1).1 13 0 21)) (-1 : Int32)).1 13 0 21)) ((z_sI (z_sI (z_sI m 21 3 (Int32.toNatClampNeg (m.1 13 0 21)) x1) 21 4 (Int32.toNatClampNeg ((z_sI m 21 3 (Int32.toNatClampNeg (m.1 13 0 21)) x1).1 13 0 21)) x1) 21 5 (Int32.toNatClampNeg ((z_sI (z_sI m 21 3 (Int32.toNatClampNeg (m.1 13 0 21)) x1) 21 4 (Int32.toNatClampNeg ((z_sI m 21 3 (Int32.toNatClampNeg (m.1 13 0 21)) x1).1 13 0 21)) x1).1 13 0 21)) (-1 : Int32)).2.1 13 0 20)).1 13 0 21) + (1 : Int32))).2.1 13 0 20))
    · refine zk_gd fun e7 => ?_
      refine zk_st R 7 196 [some (.inr (13, 0)), some (.inl (.int x1)), some (.inl (.long x2)), none, some (.inl (.int x4)), some (.inl (.int x5)), none, none, some (.inl (.int x8))] [.inl (.int (x1 - (1 : Int32))), .inl (.int (m.1 21 4 (Int32.toNatClampNeg x8)))] m rfl ⟨trivial, (Nat.le_of_ble_eq_true rfl), trivial, ⟨(Nat.le_of_ble_eq_true rfl), z_inb_in e7⟩, trivial, trivial, trivial, trivial⟩ ?_
      refine zk_br R rfl (fun _ => ?_) (fun _ => ?_)
      · refine zk_gd fun e9 => ?_
        refine zk_st R 11 217 [some (.inr (13, 0)), some (.inl (.int x1)), some (.inl (.long x2)), none, some (.inl (.int x4)), some (.inl (.int x5)), none, none, some (.inl (.int x8))] [.inl (.int (lg_cmp ((m.2.1 31 3 (Int32.toNatClampNeg x8)) &&& ((m.2.1 13 0 20) ^^^ (-1 : Int64))) (0 : Int64)))] m rfl ⟨trivial, (Nat.le_of_ble_eq_true rfl), trivial, ⟨(Nat.le_of_ble_eq_true rfl), z_inb_in e9⟩, trivial, (Nat.le_of_ble_eq_true rfl), trivial, trivial, trivial, trivial, trivial, trivial⟩ ?_
        refine zk_br R rfl (fun _ => ?_) (fun _ => ?_)
        · refine zk_gd fun e11 => ?_
          refine zk_st R 8 179 [some (.inr (13, 0)), some (.inl (.int x1)), some (.inl (.long x2)), none, some (.inl (.int x4)), some (.inl (.int x5)), none, none, some (.inl (.int (x8 + (1 : Int32))))] [] (z_sI m 21 5 (Int32.toNatClampNeg x8) (m.1 13 0 21)) rfl ⟨trivial, (Nat.le_of_ble_eq_true rfl), trivial, trivial, (Nat.le_of_ble_eq_true rfl), ⟨(Nat.le_of_ble_eq_true rfl), z_inb_in e11⟩, trivial, trivial, trivial⟩ ?_
          refine zk_mask R [true, true, true, false, true, true, false, false, true] rfl ?_
          exact ih x1 x2 x4 x5 (x8 + (1 : Int32)) (z_sI m 21 5 (Int32.toNatClampNeg x8) (m.1 13 0 21))
        · refine zk_st R 2 179 [some (.inr (13, 0)), some (.inl (.int x1)), some (.inl (.long x2)), none, some (.inl (.int x4)), some (.inl (.int x5)), none, none, some (.inl (.int (x8 + (1 : Int32))))] [] m rfl ⟨trivial, trivial, trivial⟩ ?_
          refine zk_mask R [true, true, true, false, true, true, false, false, true] rfl ?_
          exact ih x1 x2 x4 x5 (x8 + (1 : Int32)) m
      · refine zk_st R 2 179 [some (.inr (13, 0)), some (.inl (.int x1)), some (.inl (.long x2)), none, some (.inl (.int x4)), some (.inl (.int x5)), none, none, some (.inl (.int (x8 + (1 : Int32))))] [] m rfl ⟨trivial, trivial, trivial⟩ ?_
        refine zk_mask R [true, true, true, false, true, true, false, false, true] rfl ?_
        exact ih x1 x2 x4 x5 (x8 + (1 : Int32)) m
theorem w_X12_depressions_91 (d k : Nat) {o : zO} {G : Nat → Nat → zL → List zA → zM → Prop} (R : zRu (d + 2) tX12_depressions 0 (z_hf []) o G) (c7 : Int32 → zM → Option (zM)) (c24 : Int32 → Int64 → Int32 → Int32 → zM → Option (zM)) (hc7 : ∀ (x1 : Int32) (m : zM), zLK G (fun a => (.inl none, a) : zM → zO) o (c7 x1 m) some (k + 0) 7 [some (.inr (13, 0)), some (.inl (.int x1)), none, none, none, none, none, none, none] [] m) (hc24 : ∀ (x1 : Int32) (x2 : Int64) (x4 : Int32) (x5 : Int32) (m : zM), zLK G (fun a => (.inl none, a) : zM → zO) o (c24 x1 x2 x4 x5 m) some (k + 0) 24 [some (.inr (13, 0)), some (.inl (.int x1)), some (.inl (.long x2)), none, some (.inl (.int x4)), some (.inl (.int x5)), none, none, none] [] m) : ∀ (j : Nat) (x1 : Int32) (x2 : Int64) (x4 : Int32) (x5 : Int32) (x6 : Int32) (x7 : Int32) (x8 : Int32) (m : zM), zLK G (fun a => (.inl none, a) : zM → zO) o (f_X12_depressions_91 c7 c24 j x1 x2 x4 x5 x6 x7 x8 m) some (k + 0) 91 [some (.inr (13, 0)), some (.inl (.int x1)), some (.inl (.long x2)), none, some (.inl (.int x4)), some (.inl (.int x5)), some (.inl (.int x6)), some (.inl (.int x7)), some (.inl (.int x8))] [] m := by
  intro j
  induction j with
  | zero =>
    intro _ _ _ _ _ _ _ _
    exact zk_none
  | succ j ih =>
    intro x1 x2 x4 x5 x6 x7 x8 m
    unfold f_X12_depressions_91
    refine zk_st R 2 95 [some (.inr (13, 0)), some (.inl (.int x1)), some (.inl (.long x2)), none, some (.inl (.int x4)), some (.inl (.int x5)), some (.inl (.int x6)), some (.inl (.int x7)), some (.inl (.int x8))] [.inl (.int x4), .inl (.int x8)] m rfl ⟨trivial, trivial, trivial⟩ ?_
    refine zk_br R rfl (fun _ => ?_) (fun _ => ?_)
    · refine zk_st R 2 151 [some (.inr (13, 0)), some (.inl (.int x1)), some (.inl (.long x2)), none, some (.inl (.int x4)), some (.inl (.int x5)), some (.inl (.int x6)), some (.inl (.int x7)), some (.inl (.int x8))] [.inl (.int (1 : Int32)), .inl (.int x6)] m rfl ⟨trivial, trivial, trivial⟩ ?_
      refine zk_br R rfl (fun _ => ?_) (fun _ => ?_)
      · refine zk_gd fun e3 => ?_
        refine zk_gd fun e4 => ?_
        refine zk_st R 14 24 [some (.inr (13, 0)), some (.inl (.int x1)), some (.inl (.long x2)), none, some (.inl (.int x4)), some (.inl (.int (x5 + (1 : Int32)))), some (.inl (.int x6)), some (.inl (.int x7)), some (.inl (.int x8))] [] (z_sL (z_sI m 21 4 (Int32.toNatClampNeg x7) x1) 31 3 (Int32.toNatClampNeg x7) ((z_sI m 21 4 (Int32.toNatClampNeg x7) x1).2.1 13 0 20)) rfl ⟨trivial, (Nat.le_of_ble_eq_true rfl), trivial, trivial, ⟨(Nat.le_of_ble_eq_true rfl), z_inb_in e3⟩, trivial, (Nat.le_of_ble_eq_true rfl), trivial, trivial, (Nat.le_of_ble_eq_true rfl), ⟨(Nat.le_of_ble_eq_true rfl), z_inb_in e4⟩, trivial, trivial, trivial, trivial⟩ ?_
        refine zk_mask R [true, true, true, false, true, true, false, false, false] rfl ?_
        exact hc24 x1 x2 x4 (x5 + (1 : Int32)) (z_sL (z_sI m 21 4 (Int32.toNatClampNeg x7) x1) 31 3 (Int32.toNatClampNeg x7) ((z_sI m 21 4 (Int32.toNatClampNeg x7) x1).2.1 13 0 20))
      · refine zk_st R 2 179 [some (.inr (13, 0)), some (.inl (.int x1)), some (.inl (.long x2)), none, some (.inl (.int x4)), some (.inl (.int x5)), some (.inl (.int x6)), some (.inl (.int x7)), some (.inl (.int (0 : Int32)))] [] m rfl ⟨trivial, trivial, trivial⟩ ?_
        refine zk_mask R [true, true, true, false, true, true, false, false, true] rfl ?_
        exact w_X12_depressions_179 d k R c7 c24 hc7 hc24 zF x1 x2 x4 x5 (0 : Int32) m
    · refine zk_gd fun e5 => ?_
      refine zk_st R 7 108 [some (.inr (13, 0)), some (.inl (.int x1)), some (.inl (.long x2)), none, some (.inl (.int x4)), some (.inl (.int x5)), some (.inl (.int x6)), some (.inl (.int x7)), some (.inl (.int x8))] [.inl (.int (x1 - (1 : Int32))), .inl (.int (m.1 21 4 (Int32.toNatClampNeg x8)))] m rfl ⟨trivial, (Nat.le_of_ble_eq_true rfl), trivial, ⟨(Nat.le_of_ble_eq_true rfl), z_inb_in e5⟩, trivial, trivial, trivial, trivial⟩ ?_
      refine zk_br R rfl (fun _ => ?_) (fun _ => ?_)
      · refine zk_gd fun e7 => ?_
        refine zk_st R 11 129 [some (.inr (13, 0)), some (.inl (.int x1)), some (.inl (.long x2)), none, some (.inl (.int x4)), some (.inl (.int x5)), some (.inl (.int x6)), some (.inl (.int x7)), some (.inl (.int x8))] [.inl (.int (lg_cmp ((m.2.1 31 3 (Int32.toNatClampNeg x8)) &&& ((m.2.1 13 0 20) ^^^ (-1 : Int64))) (0 : Int64)))] m rfl ⟨trivial, (Nat.le_of_ble_eq_true rfl), trivial, ⟨(Nat.le_of_ble_eq_true rfl), z_inb_in e7⟩, trivial, (Nat.le_of_ble_eq_true rfl), trivial, trivial, trivial, trivial, trivial, trivial⟩ ?_
        refine zk_br R rfl (fun _ => ?_) (fun _ => ?_)
        · refine zk_st R 5 91 [some (.inr (13, 0)), some (.inl (.int x1)), some (.inl (.long x2)), none, some (.inl (.int x4)), some (.inl (.int x5)), some (.inl (.int (x6 + (1 : Int32)))), some (.inl (.int x8)), some (.inl (.int (x8 + (1 : Int32))))] [] m rfl ⟨trivial, trivial, trivial, trivial, trivial, trivial⟩ ?_
          refine zk_mask R [true, true, true, false, true, true, true, true, true] rfl ?_
          exact ih x1 x2 x4 x5 (x6 + (1 : Int32)) x8 (x8 + (1 : Int32)) m
        · refine zk_st R 3 91 [some (.inr (13, 0)), some (.inl (.int x1)), some (.inl (.long x2)), none, some (.inl (.int x4)), some (.inl (.int x5)), some (.inl (.int x6)), some (.inl (.int x7)), some (.inl (.int (x8 + (1 : Int32))))] [] m rfl ⟨trivial, trivial, trivial, trivial⟩ ?_
          refine zk_mask R [true, true, true, false, true, true, true, true, true] rfl ?_
          exact ih x1 x2 x4 x5 x6 x7 (x8 + (1 : Int32)) m
      · refine zk_st R 2 91 [some (.inr (13, 0)), some (.inl (.int x1)), some (.inl (.long x2)), none, some (.inl (.int x4)), some (.inl (.int x5)), some (.inl (.int x6)), some (.inl (.int x7)), some (.inl (.int (x8 + (1 : Int32))))] [] m rfl ⟨trivial, trivial, trivial⟩ ?_
        refine zk_mask R [true, true, true, false, true, true, true, true, true] rfl ?_
        exact ih x1 x2 x4 x5 x6 x7 (x8 + (1 : Int32)) m
theorem w_X12_depressions_24 (d k : Nat) {o : zO} {G : Nat → Nat → zL → List zA → zM → Prop} (R : zRu (d + 2) tX12_depressions 0 (z_hf []) o G) (c7 : Int32 → zM → Option (zM)) (hc7 : ∀ (x1 : Int32) (m : zM), zLK G (fun a => (.inl none, a) : zM → zO) o (c7 x1 m) some (k + 0) 7 [some (.inr (13, 0)), some (.inl (.int x1)), none, none, none, none, none, none, none] [] m) : ∀ (j : Nat) (x1 : Int32) (x2 : Int64) (x4 : Int32) (x5 : Int32) (m : zM), zLK G (fun a => (.inl none, a) : zM → zO) o (f_X12_depressions_24 c7 j x1 x2 x4 x5 m) some (k + 0) 24 [some (.inr (13, 0)), some (.inl (.int x1)), some (.inl (.long x2)), none, some (.inl (.int x4)), some (.inl (.int x5)), none, none, none] [] m := by
  intro j
  induction j with
  | zero =>
    intro _ _ _ _ _
    exact zk_none
  | succ j ih =>
    intro x1 x2 x4 x5 m
    unfold f_X12_depressions_24
    refine zk_st R 2 27 [some (.inr (13, 0)), some (.inl (.int x1)), some (.inl (.long x2)), none, some (.inl (.int x4)), some (.inl (.int x5)), none, none, none] [.inr (13, 0), .inl (.int x5)] m rfl ⟨trivial, trivial, trivial⟩ ?_
    refine zk_call R (fun b => some (.inl (.int b))) (fun _ => m) rfl (r_X12_cells (Nat.le_of_ble_eq_true rfl)) (fun b hb => w_X12_cells (d + 1) 0 m b hb) (fun r1 => ?_)
    refine zk_br R rfl (fun _ => ?_) (fun _ => ?_)
    · refine zk_st R 2 7 [some (.inr (13, 0)), some (.inl (.int (x1 + (1 : Int32)))), some (.inl (.long x2)), none, some (.inl (.int x4)), some (.inl (.int x5)), none, none, none] [] m rfl ⟨trivial, trivial, trivial⟩ ?_
      refine zk_mask R [true, true, false, false, false, false, false, false, false] rfl ?_
      exact hc7 (x1 + (1 : Int32)) m
    · refine zk_st R 2 36 [some (.inr (13, 0)), some (.inl (.int x1)), some (.inl (.long x2)), none, some (.inl (.int x4)), some (.inl (.int x5)), none, none, none] [.inl (.int x5), .inr (13, 0)] m rfl ⟨trivial, trivial, trivial⟩ ?_
      refine zk_call R (fun b => some (.inl (.int b))) (fun _ => m) rfl (r_X12_height (Nat.le_of_ble_eq_true rfl)) (fun b hb => w_X12_height (d + 1) 0 x5 m b hb) (fun r3 => ?_)
      refine zk_st R 1 40 [some (.inr (13, 0)), some (.inl (.int x1)), some (.inl (.long x2)), none, some (.inl (.int x4)), some (.inl (.int x5)), none, none, none] [.inl (.int x1), .inl (.int r3)] m rfl ⟨trivial, trivial⟩ ?_
      refine zk_br R rfl (fun _ => ?_) (fun _ => ?_)
      · refine zk_st R 2 24 [some (.inr (13, 0)), some (.inl (.int x1)), some (.inl (.long x2)), none, some (.inl (.int x4)), some (.inl (.int (x5 + (1 : Int32)))), none, none, none] [] m rfl ⟨trivial, trivial, trivial⟩ ?_
        refine zk_mask R [true, true, true, false, true, true, false, false, false] rfl ?_
        exact ih x1 x2 x4 (x5 + (1 : Int32)) m
      · refine zk_st R 7 51 [some (.inr (13, 0)), some (.inl (.int x1)), some (.inl (.long x2)), none, some (.inl (.int x4)), some (.inl (.int x5)), none, none, none] [.inl (.int (lg_cmp ((z_shr x2 x5) &&& (1 : Int64)) (1 : Int64)))] m rfl ⟨trivial, trivial, trivial, trivial, trivial, trivial, trivial, trivial⟩ ?_
        refine zk_br R rfl (fun _ => ?_) (fun _ => ?_)
        · refine zk_st R 3 24 [some (.inr (13, 0)), some (.inl (.int x1)), some (.inl (.long x2)), none, some (.inl (.int x4)), some (.inl (.int (x5 + (1 : Int32)))), none, none, none] [] m rfl ⟨trivial, trivial, trivial, trivial⟩ ?_
          refine zk_mask R [true, true, true, false, true, true, false, false, false] rfl ?_
          exact ih x1 x2 x4 (x5 + (1 : Int32)) m
        · refine zk_st R 4 62 [some (.inr (13, 0)), some (.inl (.int x1)), some (.inl (.long x2)), none, some (.inl (.int x4)), some (.inl (.int x5)), none, none, none] [.inl (.int x1), .inl (.int (0 : Int32)), .inl (.int x5), .inr (13, 0)] m rfl ⟨trivial, trivial, trivial, trivial, trivial⟩ ?_
          refine zk_call R (fun _ => none) id rfl (r_X12_land (Nat.le_of_ble_eq_true rfl)) (fun b hb => w_X12_land d 0 x5 (0 : Int32) x1 m b hb) (fun r6 => ?_)
          refine zk_st R 6 73 [some (.inr (13, 0)), some (.inl (.int x1)), some (.inl (.long (x2 ||| (r6.2.1 13 0 20)))), none, some (.inl (.int x4)), some (.inl (.int x5)), none, none, none] [.inr (13, 0)] r6 rfl ⟨trivial, trivial, (Nat.le_of_ble_eq_true rfl), trivial, trivial, trivial, trivial⟩ ?_
          refine zk_call R (fun b => some (.inl (.int (z_bi b)))) (fun _ => r6) rfl (r_X12_isPool (Nat.le_of_ble_eq_true rfl)) (fun b hb => w_X12_isPool d 0 r6 b hb) (fun r7 => ?_)
          refine zk_br R rfl (fun _ => ?_) (fun _ => ?_)
          · refine zk_st R 3 24 [some (.inr (13, 0)), some (.inl (.int x1)), some (.inl (.long (x2 ||| (r6.2.1 13 0 20)))), none, some (.inl (.int x4)), some (.inl (.int (x5 + (1 : Int32)))), none, none, none] [] r6 rfl ⟨trivial, trivial, trivial, trivial⟩ ?_
            refine zk_mask R [true, true, true, false, true, true, false, false, false] rfl ?_
            exact ih x1 (x2 ||| (r6.2.1 13 0 20)) x4 (x5 + (1 : Int32)) r6
          · refine zk_st R 6 91 [some (.inr (13, 0)), some (.inl (.int x1)), some (.inl (.long (x2 ||| (r6.2.1 13 0 20)))), none, some (.inl (.int x4)), some (.inl (.int x5)), some (.inl (.int (0 : Int32))), some (.inl (.int (-1 : Int32))), some (.inl (.int (0 : Int32)))] [] r6 rfl ⟨trivial, trivial, trivial, trivial, trivial, trivial, trivial⟩ ?_
            refine zk_mask R [true, true, true, false, true, true, true, true, true] rfl ?_
            exact w_X12_depressions_91 d k R c7 (f_X12_depressions_24 c7 j) hc7 ih zF x1 (x2 ||| (r6.2.1 13 0 20)) x4 x5 (0 : Int32) (-1 : Int32) (0 : Int32) r6
theorem w_X12_depressions_7 (d k : Nat) {o : zO} {G : Nat → Nat → zL → List zA → zM → Prop} (R : zRu (d + 2) tX12_depressions 0 (z_hf []) o G) : ∀ (j : Nat) (x1 : Int32) (m : zM), zLK G (fun a => (.inl none, a) : zM → zO) o (f_X12_depressions_7 j x1 m) some (k + 0) 7 [some (.inr (13, 0)), some (.inl (.int x1)), none, none, none, none, none, none, none] [] m := by
  intro j
  induction j with
  | zero =>
    intro _ _
    exact zk_none
  | succ j ih =>
    intro x1 m
    unfold f_X12_depressions_7
    refine zk_st R 2 10 [some (.inr (13, 0)), some (.inl (.int x1)), none, none, none, none, none, none, none] [.inl (.int (100 : Int32)), .inl (.int x1)] m rfl ⟨trivial, trivial, trivial⟩ ?_
    refine zk_br R rfl (fun _ => ?_) (fun _ => ?_)
    · exact zk_ret R rfl trivial rfl
    · refine zk_st R 7 24 [some (.inr (13, 0)), some (.inl (.int x1)), some (.inl (.long (0 : Int64))), none, some (.inl (.int (m.1 13 0 21))), some (.inl (.int (0 : Int32))), none, none, none] [] m rfl ⟨trivial, trivial, trivial, (Nat.le_of_ble_eq_true rfl), trivial, trivial, trivial, trivial⟩ ?_
      refine zk_mask R [true, true, true, false, true, true, false, false, false] rfl ?_
      exact w_X12_depressions_24 d k R (f_X12_depressions_7 j) ih zF x1 (0 : Int64) (m.1 13 0 21) (0 : Int32) m
theorem w_X12_depressions (d k : Nat) (m : zM) (a : zM) (ha : f_X12_depressions m = some a) : z_Ev z_MT zN zRf (d + 3) (k + 0) 196 [.inr (13, 0)] m ((fun a => (.inl none, a) : zM → zO) a) := by
  refine zk_top (I := (yX12_depressions, cX12_depressions, 9, none, [], tX12_depressions, 13, 0, 13, 0, 0, 0)) (oc := (fun a => (.inl none, a) : zM → zO)) (a := a) rfl (Nat.le_of_ble_eq_true rfl) (fun G R => ?_) ha
  unfold f_X12_depressions
  refine zk_st R 5 7 [some (.inr (13, 0)), some (.inl (.int (0 : Int32))), none, none, none, none, none, none, none] [] (z_sI m 13 0 21 (0 : Int32)) rfl ⟨trivial, trivial, (Nat.le_of_ble_eq_true rfl), trivial, trivial, trivial⟩ ?_
  refine zk_mask R [true, true, false, false, false, false, false, false, false] rfl ?_
  exact w_X12_depressions_7 d k R zF (0 : Int32) (z_sI m 13 0 21 (0 : Int32))
theorem r_X12_level {i : Nat} {t : List zA} (h : i < zN 13) : z_rcv zN (zKD 198) (.inr (13, i) :: t) := by
  rw [show zKD 198 = 13 from rfl]
  exact ⟨rfl, h⟩
noncomputable def f_X12_level (x1 : Int32) (m : zM) : Option (Int32 × zM) :=
  Option.bind (f_X12_isCell x1 (z_sI m 13 0 0 (0 : Int32))) fun r1 =>
  if (z_bi r1) = 0 then
    Option.bind (f_X12_raises (1 : Int32) (z_sI m 13 0 0 (0 : Int32))) fun r3 =>
    some (r3.1, r3.2)
  else
    Option.bind (f_X12_levels (z_sI m 13 0 0 (0 : Int32))) fun r4 =>
    z_gd (z_inb x1 (z_alen 20)) <| some ((r4.1 20 59 (Int32.toNatClampNeg x1)), r4)
theorem w_X12_level (d k : Nat) (x1 : Int32) (m : zM) (a : Int32 × zM) (ha : f_X12_level x1 m = some a) : z_Ev z_MT zN zRf (d + 3) (k + 0) 198 [.inr (13, 0), .inl (.int x1)] m ((fun a => (z_cI a.1, a.2) : Int32 × zM → zO) a) := by
  refine zk_top (I := (yX12_level, cX12_level, 2, (some .int), [], tX12_level, 13, 1, 13, 0, 0, 0)) (oc := (fun a => (z_cI a.1, a.2) : Int32 × zM → zO)) (a := a) rfl (Nat.le_of_ble_eq_true rfl) (fun G R => ?_) ha
  unfold f_X12_level
  refine zk_st R 5 7 [some (.inr (13, 0)), some (.inl (.int x1))] [.inl (.int x1), .inr (13, 0)] (z_sI m 13 0 0 (0 : Int32)) rfl ⟨trivial, trivial, (Nat.le_of_ble_eq_true rfl), trivial, trivial, trivial⟩ ?_
  refine zk_call R (fun b => some (.inl (.int (z_bi b)))) (fun _ => (z_sI m 13 0 0 (0 : Int32))) rfl (r_X12_isCell (Nat.le_of_ble_eq_true rfl)) (fun b hb => w_X12_isCell d 0 x1 (z_sI m 13 0 0 (0 : Int32)) b hb) (fun r1 => ?_)
  refine zk_br R rfl (fun _ => ?_) (fun _ => ?_)
  · refine zk_st R 2 15 [some (.inr (13, 0)), some (.inl (.int x1))] [.inl (.int (1 : Int32)), .inr (13, 0)] (z_sI m 13 0 0 (0 : Int32)) rfl ⟨trivial, trivial, trivial⟩ ?_
    refine zk_call R (fun b => some (.inl (.int b.1))) (fun b => b.2) rfl (r_X12_raises (Nat.le_of_ble_eq_true rfl)) (fun b hb => w_X12_raises (d + 1) 0 (1 : Int32) (z_sI m 13 0 0 (0 : Int32)) b hb) (fun r3 => ?_)
    exact zk_ret R rfl trivial rfl
  · refine zk_st R 1 20 [some (.inr (13, 0)), some (.inl (.int x1))] [.inr (13, 0)] (z_sI m 13 0 0 (0 : Int32)) rfl ⟨trivial, trivial⟩ ?_
    refine zk_call R (fun _ => none) id rfl (r_X12_levels (Nat.le_of_ble_eq_true rfl)) (fun b hb => w_X12_levels d 0 (z_sI m 13 0 0 (0 : Int32)) b hb) (fun r4 => ?_)
    refine zk_gd fun e5 => ?_
    refine zk_st R 4 29 [some (.inr (13, 0)), some (.inl (.int x1))] [.inl (.int (r4.1 20 59 (Int32.toNatClampNeg x1)))] r4 rfl ⟨trivial, (Nat.le_of_ble_eq_true rfl), trivial, ⟨(Nat.le_of_ble_eq_true rfl), z_inb_in e5⟩, trivial⟩ ?_
    exact zk_ret R rfl trivial rfl
theorem r_X12_goesBy {i : Nat} {t : List zA} (h : i < zN 13) : z_rcv zN (zKD 201) (.inr (13, i) :: t) := by
  rw [show zKD 201 = 13 from rfl]
  exact ⟨rfl, h⟩
noncomputable def f_X12_goesBy (x1 : Int32) (x2 : Int32) (x3 : Int32) (m : zM) : Option (Int32) :=
  Option.bind (f_X12_next x1 x3 m) fun r1 =>
  if 0 ≤ r1 then
    Option.bind (f_X12_height r1 m) fun r3 =>
    Option.bind (f_J9_max_7cf53 (0 : Int32) (r3 - x2) m) fun r4 =>
    Option.bind (f_X12_height r1 m) fun r5 =>
    Option.bind (f_J9_min_7cf53 x2 r5 m) fun r6 =>
    Option.bind (f_X12_worth r1 r6 m) fun r7 =>
    some ((((128 : Int32) * r4) + (1 : Int32)) + r7)
  else
    some (1000000 : Int32)
theorem w_X12_goesBy (d k : Nat) (x1 : Int32) (x2 : Int32) (x3 : Int32) (m : zM) (a : Int32) (ha : f_X12_goesBy x1 x2 x3 m = some a) : z_Ev z_MT zN zRf (d + 3) (k + 0) 201 [.inr (13, 0), .inl (.int x1), .inl (.int x2), .inl (.int x3)] m ((fun a => (z_cI a, m) : Int32 → zO) a) := by
  refine zk_top (I := (yX12_goesBy, cX12_goesBy, 5, (some .int), [], tX12_goesBy, 13, 3, 13, 0, 0, 0)) (oc := (fun a => (z_cI a, m) : Int32 → zO)) (a := a) rfl (Nat.le_of_ble_eq_true rfl) (fun G R => ?_) ha
  unfold f_X12_goesBy
  refine zk_st R 3 3 [some (.inr (13, 0)), some (.inl (.int x1)), some (.inl (.int x2)), some (.inl (.int x3)), none] [.inl (.int x3), .inl (.int x1), .inr (13, 0)] m rfl ⟨trivial, trivial, trivial, trivial⟩ ?_
  refine zk_call R (fun b => some (.inl (.int b))) (fun _ => m) rfl (r_X12_next (Nat.le_of_ble_eq_true rfl)) (fun b hb => w_X12_next (d + 1) 0 x1 x3 m b hb) (fun r1 => ?_)
  refine zk_st R 2 10 [some (.inr (13, 0)), some (.inl (.int x1)), some (.inl (.int x2)), some (.inl (.int x3)), some (.inl (.int r1))] [.inl (.int r1)] m rfl ⟨trivial, trivial, trivial⟩ ?_
  refine zk_br R rfl (fun _ => ?_) (fun _ => ?_)
  · refine zk_st R 4 23 [some (.inr (13, 0)), some (.inl (.int x1)), some (.inl (.int x2)), some (.inl (.int x3)), some (.inl (.int r1))] [.inl (.int r1), .inr (13, 0), .inl (.int (0 : Int32)), .inl (.int (128 : Int32))] m rfl ⟨trivial, trivial, trivial, trivial, trivial⟩ ?_
    refine zk_call R (fun b => some (.inl (.int b))) (fun _ => m) rfl (r_X12_height (Nat.le_of_ble_eq_true rfl)) (fun b hb => w_X12_height (d + 1) 0 r1 m b hb) (fun r3 => ?_)
    refine zk_st R 2 28 [some (.inr (13, 0)), some (.inl (.int x1)), some (.inl (.int x2)), some (.inl (.int x3)), some (.inl (.int r1))] [.inl (.int (r3 - x2)), .inl (.int (0 : Int32)), .inl (.int (128 : Int32))] m rfl ⟨trivial, trivial, trivial⟩ ?_
    refine zk_call R (fun b => some (.inl (.int b))) (fun _ => m) rfl (r_J9_max_7cf53) (fun b hb => w_J9_max_7cf53 (d + 1) 0 (0 : Int32) (r3 - x2) m b hb) (fun r4 => ?_)
    refine zk_st R 8 41 [some (.inr (13, 0)), some (.inl (.int x1)), some (.inl (.int x2)), some (.inl (.int x3)), some (.inl (.int r1))] [.inl (.int r1), .inr (13, 0), .inl (.int x2), .inl (.int r1), .inr (13, 0), .inl (.int (((128 : Int32) * r4) + (1 : Int32)))] m rfl ⟨trivial, trivial, trivial, trivial, trivial, trivial, trivial, trivial, trivial⟩ ?_
    refine zk_call R (fun b => some (.inl (.int b))) (fun _ => m) rfl (r_X12_height (Nat.le_of_ble_eq_true rfl)) (fun b hb => w_X12_height (d + 1) 0 r1 m b hb) (fun r5 => ?_)
    refine zk_call R (fun b => some (.inl (.int b))) (fun _ => m) rfl (r_J9_min_7cf53) (fun b hb => w_J9_min_7cf53 (d + 1) 0 x2 r5 m b hb) (fun r6 => ?_)
    refine zk_call R (fun b => some (.inl (.int b))) (fun _ => m) rfl (r_X12_worth (Nat.le_of_ble_eq_true rfl)) (fun b hb => w_X12_worth d 0 r1 r6 m b hb) (fun r7 => ?_)
    refine zk_st R 1 51 [some (.inr (13, 0)), some (.inl (.int x1)), some (.inl (.int x2)), some (.inl (.int x3)), some (.inl (.int r1))] [.inl (.int ((((128 : Int32) * r4) + (1 : Int32)) + r7))] m rfl ⟨trivial, trivial⟩ ?_
    exact zk_ret R rfl trivial rfl
  · refine zk_st R 1 15 [some (.inr (13, 0)), some (.inl (.int x1)), some (.inl (.int x2)), some (.inl (.int x3)), some (.inl (.int r1))] [.inl (.int (1000000 : Int32))] m rfl ⟨trivial, trivial⟩ ?_
    exact zk_ret R rfl trivial rfl
theorem r_X12_volume {i : Nat} {t : List zA} (h : i < zN 13) : z_rcv zN (zKD 206) (.inr (13, i) :: t) := by
  rw [show zKD 206 = 13 from rfl]
  exact ⟨rfl, h⟩
noncomputable def f_X12_volume_4 (m : zM) : Nat → Int32 → Int32 → Int32 → Option (Int32)
  | 0, _, _, _ => none
  | j + 1, x1, x2, x3 =>
    Option.bind (f_X12_cells m) fun r1 =>
    if r1 ≤ x3 then
      some x2
    else
      z_gd (z_inb x3 (z_alen 20)) <| if (m.1 20 65 (Int32.toNatClampNeg x3)) = x1 then
        Option.bind (f_X12_depth x3 m) fun r5 =>
        f_X12_volume_4 m j x1 (x2 + r5) (x3 + (1 : Int32))
      else
        f_X12_volume_4 m j x1 x2 (x3 + (1 : Int32))
noncomputable def f_X12_volume (x1 : Int32) (m : zM) : Option (Int32) :=
  f_X12_volume_4 m zF x1 (0 : Int32) (0 : Int32)
theorem w_X12_volume_4 (d k : Nat) {o : zO} {G : Nat → Nat → zL → List zA → zM → Prop} (m : zM) (R : zRu (d + 2) tX12_volume 0 (z_hf []) o G) : ∀ (j : Nat) (x1 : Int32) (x2 : Int32) (x3 : Int32), zLK G (fun a => (z_cI a, m) : Int32 → zO) o (f_X12_volume_4 m j x1 x2 x3) some (k + 0) 4 [some (.inr (13, 0)), some (.inl (.int x1)), some (.inl (.int x2)), some (.inl (.int x3))] [] m := by
  intro j
  induction j with
  | zero =>
    intro _ _ _
    exact zk_none
  | succ j ih =>
    intro x1 x2 x3
    unfold f_X12_volume_4
    refine zk_st R 2 6 [some (.inr (13, 0)), some (.inl (.int x1)), some (.inl (.int x2)), some (.inl (.int x3))] [.inr (13, 0), .inl (.int x3)] m rfl ⟨trivial, trivial, trivial⟩ ?_
    refine zk_call R (fun b => some (.inl (.int b))) (fun _ => m) rfl (r_X12_cells (Nat.le_of_ble_eq_true rfl)) (fun b hb => w_X12_cells (d + 1) 0 m b hb) (fun r1 => ?_)
    refine zk_br R rfl (fun _ => ?_) (fun _ => ?_)
    · refine zk_st R 1 37 [some (.inr (13, 0)), some (.inl (.int x1)), some (.inl (.int x2)), some (.inl (.int x3))] [.inl (.int x2)] m rfl ⟨trivial, trivial⟩ ?_
      exact zk_ret R rfl trivial rfl
    · refine zk_gd fun e3 => ?_
      refine zk_st R 5 19 [some (.inr (13, 0)), some (.inl (.int x1)), some (.inl (.int x2)), some (.inl (.int x3))] [.inl (.int x1), .inl (.int (m.1 20 65 (Int32.toNatClampNeg x3)))] m rfl ⟨trivial, (Nat.le_of_ble_eq_true rfl), trivial, ⟨(Nat.le_of_ble_eq_true rfl), z_inb_in e3⟩, trivial, trivial⟩ ?_
      refine zk_br R rfl (fun _ => ?_) (fun _ => ?_)
      · refine zk_st R 3 25 [some (.inr (13, 0)), some (.inl (.int x1)), some (.inl (.int x2)), some (.inl (.int x3))] [.inl (.int x3), .inr (13, 0), .inl (.int x2)] m rfl ⟨trivial, trivial, trivial, trivial⟩ ?_
        refine zk_call R (fun b => some (.inl (.int b))) (fun _ => m) rfl (r_X12_depth (Nat.le_of_ble_eq_true rfl)) (fun b hb => w_X12_depth d 0 x3 m b hb) (fun r5 => ?_)
        refine zk_st R 4 4 [some (.inr (13, 0)), some (.inl (.int x1)), some (.inl (.int (x2 + r5))), some (.inl (.int (x3 + (1 : Int32))))] [] m rfl ⟨trivial, trivial, trivial, trivial, trivial⟩ ?_
        refine zk_mask R [true, true, true, true] rfl ?_
        exact ih x1 (x2 + r5) (x3 + (1 : Int32))
      · refine zk_st R 2 4 [some (.inr (13, 0)), some (.inl (.int x1)), some (.inl (.int x2)), some (.inl (.int (x3 + (1 : Int32))))] [] m rfl ⟨trivial, trivial, trivial⟩ ?_
        refine zk_mask R [true, true, true, true] rfl ?_
        exact ih x1 x2 (x3 + (1 : Int32))
theorem w_X12_volume (d k : Nat) (x1 : Int32) (m : zM) (a : Int32) (ha : f_X12_volume x1 m = some a) : z_Ev z_MT zN zRf (d + 3) (k + 0) 206 [.inr (13, 0), .inl (.int x1)] m ((fun a => (z_cI a, m) : Int32 → zO) a) := by
  refine zk_top (I := (yX12_volume, cX12_volume, 4, (some .int), [], tX12_volume, 13, 1, 13, 0, 0, 0)) (oc := (fun a => (z_cI a, m) : Int32 → zO)) (a := a) rfl (Nat.le_of_ble_eq_true rfl) (fun G R => ?_) ha
  unfold f_X12_volume
  refine zk_st R 4 4 [some (.inr (13, 0)), some (.inl (.int x1)), some (.inl (.int (0 : Int32))), some (.inl (.int (0 : Int32)))] [] m rfl ⟨trivial, trivial, trivial, trivial, trivial⟩ ?_
  refine zk_mask R [true, true, true, true] rfl ?_
  exact w_X12_volume_4 d k m R zF x1 (0 : Int32) (0 : Int32)
theorem r_X12_meanDepth {i : Nat} {t : List zA} (h : i < zN 13) : z_rcv zN (zKD 213) (.inr (13, i) :: t) := by
  rw [show zKD 213 = 13 from rfl]
  exact ⟨rfl, h⟩
noncomputable def f_X12_meanDepth_15 : Nat → Int32 → Int32 → Int32 → zM → Option (UInt64 × zM)
  | 0, _, _, _, _ => none
  | j + 1, x1, x2, x3, m =>
    Option.bind (f_X12_cells m) fun r1 =>
    if r1 ≤ x3 then
      if x2 = 0 then
        Option.bind (f_X12_raises (1 : Int32) m) fun r4 =>
        some ((FP.i2d r4.1), r4.2)
      else
        z_gd (z_nan (FP.ddiv (FP.i2d x1) (FP.i2d x2))) <| some ((FP.ddiv (FP.i2d x1) (FP.i2d x2)), m)
    else
      Option.bind (f_X12_depth x3 m) fun r6 =>
      Option.bind (f_X12_depth x3 m) fun r7 =>
      if r7 ≤ 0 then
        f_X12_meanDepth_15 j (x1 + r6) x2 (x3 + (1 : Int32)) m
      else
        f_X12_meanDepth_15 j (x1 + r6) (x2 + (1 : Int32)) (x3 + (1 : Int32)) m
noncomputable def f_X12_meanDepth (m : zM) : Option (UInt64 × zM) :=
  Option.bind (f_X12_levels (z_sI m 13 0 0 (0 : Int32))) fun r1 =>
  f_X12_meanDepth_15 zF (0 : Int32) (0 : Int32) (0 : Int32) r1
theorem w_X12_meanDepth_15 (d k : Nat) {o : zO} {G : Nat → Nat → zL → List zA → zM → Prop} (R : zRu (d + 2) tX12_meanDepth 0 (z_hf []) o G) : ∀ (j : Nat) (x1 : Int32) (x2 : Int32) (x3 : Int32) (m : zM), zLK G (fun a => (z_cD a.1, a.2) : UInt64 × zM → zO) o (f_X12_meanDepth_15 j x1 x2 x3 m) some (k + 0) 15 [some (.inr (13, 0)), some (.inl (.int x1)), some (.inl (.int x2)), some (.inl (.int x3))] [] m := by
  intro j
  induction j with
  | zero =>
    intro _ _ _ _
    exact zk_none
  | succ j ih =>
    intro x1 x2 x3 m
    unfold f_X12_meanDepth_15
    refine zk_st R 2 17 [some (.inr (13, 0)), some (.inl (.int x1)), some (.inl (.int x2)), some (.inl (.int x3))] [.inr (13, 0), .inl (.int x3)] m rfl ⟨trivial, trivial, trivial⟩ ?_
    refine zk_call R (fun b => some (.inl (.int b))) (fun _ => m) rfl (r_X12_cells (Nat.le_of_ble_eq_true rfl)) (fun b hb => w_X12_cells (d + 1) 0 m b hb) (fun r1 => ?_)
    refine zk_br R rfl (fun _ => ?_) (fun _ => ?_)
    · refine zk_st R 1 49 [some (.inr (13, 0)), some (.inl (.int x1)), some (.inl (.int x2)), some (.inl (.int x3))] [.inl (.int x2)] m rfl ⟨trivial, trivial⟩ ?_
      refine zk_br R rfl (fun _ => ?_) (fun _ => ?_)
      · refine zk_st R 2 54 [some (.inr (13, 0)), some (.inl (.int x1)), some (.inl (.int x2)), some (.inl (.int x3))] [.inl (.int (1 : Int32)), .inr (13, 0)] m rfl ⟨trivial, trivial, trivial⟩ ?_
        refine zk_call R (fun b => some (.inl (.int b.1))) (fun b => b.2) rfl (r_X12_raises (Nat.le_of_ble_eq_true rfl)) (fun b hb => w_X12_raises (d + 1) 0 (1 : Int32) m b hb) (fun r4 => ?_)
        refine zk_st R 2 66 [some (.inr (13, 0)), some (.inl (.int x1)), some (.inl (.int x2)), some (.inl (.int x3))] [.inl (.double (FP.i2d r4.1))] r4.2 rfl ⟨trivial, trivial, trivial⟩ ?_
        exact zk_ret R rfl trivial rfl
      · refine zk_gd fun e5 => ?_
        refine zk_st R 5 66 [some (.inr (13, 0)), some (.inl (.int x1)), some (.inl (.int x2)), some (.inl (.int x3))] [.inl (.double (FP.ddiv (FP.i2d x1) (FP.i2d x2)))] m rfl ⟨trivial, trivial, trivial, trivial, (z_nan_n e5), trivial⟩ ?_
        exact zk_ret R rfl trivial rfl
    · refine zk_st R 3 26 [some (.inr (13, 0)), some (.inl (.int x1)), some (.inl (.int x2)), some (.inl (.int x3))] [.inl (.int x3), .inr (13, 0), .inl (.int x1)] m rfl ⟨trivial, trivial, trivial, trivial⟩ ?_
      refine zk_call R (fun b => some (.inl (.int b))) (fun _ => m) rfl (r_X12_depth (Nat.le_of_ble_eq_true rfl)) (fun b hb => w_X12_depth d 0 x3 m b hb) (fun r6 => ?_)
      refine zk_st R 4 33 [some (.inr (13, 0)), some (.inl (.int (x1 + r6))), some (.inl (.int x2)), some (.inl (.int x3))] [.inl (.int x3), .inr (13, 0)] m rfl ⟨trivial, trivial, trivial, trivial, trivial⟩ ?_
      refine zk_call R (fun b => some (.inl (.int b))) (fun _ => m) rfl (r_X12_depth (Nat.le_of_ble_eq_true rfl)) (fun b hb => w_X12_depth d 0 x3 m b hb) (fun r7 => ?_)
      refine zk_br R rfl (fun _ => ?_) (fun _ => ?_)
      · refine zk_st R 2 15 [some (.inr (13, 0)), some (.inl (.int (x1 + r6))), some (.inl (.int x2)), some (.inl (.int (x3 + (1 : Int32))))] [] m rfl ⟨trivial, trivial, trivial⟩ ?_
        refine zk_mask R [true, true, true, true] rfl ?_
        exact ih (x1 + r6) x2 (x3 + (1 : Int32)) m
      · refine zk_st R 3 15 [some (.inr (13, 0)), some (.inl (.int (x1 + r6))), some (.inl (.int (x2 + (1 : Int32)))), some (.inl (.int (x3 + (1 : Int32))))] [] m rfl ⟨trivial, trivial, trivial, trivial⟩ ?_
        refine zk_mask R [true, true, true, true] rfl ?_
        exact ih (x1 + r6) (x2 + (1 : Int32)) (x3 + (1 : Int32)) m
theorem w_X12_meanDepth (d k : Nat) (m : zM) (a : UInt64 × zM) (ha : f_X12_meanDepth m = some a) : z_Ev z_MT zN zRf (d + 3) (k + 0) 213 [.inr (13, 0)] m ((fun a => (z_cD a.1, a.2) : UInt64 × zM → zO) a) := by
  refine zk_top (I := (yX12_meanDepth, cX12_meanDepth, 4, (some .double), [], tX12_meanDepth, 13, 0, 13, 0, 0, 0)) (oc := (fun a => (z_cD a.1, a.2) : UInt64 × zM → zO)) (a := a) rfl (Nat.le_of_ble_eq_true rfl) (fun G R => ?_) ha
  unfold f_X12_meanDepth
  refine zk_st R 4 6 [some (.inr (13, 0)), none, none, none] [.inr (13, 0)] (z_sI m 13 0 0 (0 : Int32)) rfl ⟨trivial, trivial, (Nat.le_of_ble_eq_true rfl), trivial, trivial⟩ ?_
  refine zk_call R (fun _ => none) id rfl (r_X12_levels (Nat.le_of_ble_eq_true rfl)) (fun b hb => w_X12_levels d 0 (z_sI m 13 0 0 (0 : Int32)) b hb) (fun r1 => ?_)
  refine zk_st R 6 15 [some (.inr (13, 0)), some (.inl (.int (0 : Int32))), some (.inl (.int (0 : Int32))), some (.inl (.int (0 : Int32)))] [] r1 rfl ⟨trivial, trivial, trivial, trivial, trivial, trivial, trivial⟩ ?_
  refine zk_mask R [true, true, true, true] rfl ?_
  exact w_X12_meanDepth_15 d k R zF (0 : Int32) (0 : Int32) (0 : Int32) r1
theorem r_X12_leadsTo {i : Nat} {t : List zA} (h : i < zN 13) : z_rcv zN (zKD 217) (.inr (13, i) :: t) := by
  rw [show zKD 217 = 13 from rfl]
  exact ⟨rfl, h⟩
noncomputable def f_X12_leadsTo_25 (m : zM) (x2 : Int32) (x3 : Int32) : Option (Bool) :=
  if x3 = x2 then
    some true
  else
    some false
noncomputable def f_X12_leadsTo_2 (m : zM) : Nat → Int32 → Int32 → Option (Bool)
  | 0, _, _ => none
  | j + 1, x2, x3 =>
    if x3 = x2 then
      f_X12_leadsTo_25 m x2 x3
    else
      z_gd (z_inb x3 (z_alen 20)) <| if (m.1 20 61 (Int32.toNatClampNeg x3)) < 0 then
        f_X12_leadsTo_25 m x2 x3
      else
        Option.bind (f_X12_onward x3 m) fun r4 =>
        f_X12_leadsTo_2 m j x2 r4
noncomputable def f_X12_leadsTo (x1 : Int32) (x2 : Int32) (m : zM) : Option (Bool) :=
  f_X12_leadsTo_2 m zF x2 x1
theorem w_X12_leadsTo_25 (d k : Nat) {o : zO} {G : Nat → Nat → zL → List zA → zM → Prop} (m : zM) (R : zRu (d + 2) tX12_leadsTo 1 (z_hf []) o G) (x2 : Int32) (x3 : Int32) : zLK G (fun a => (z_cB a, m) : Bool → zO) o (f_X12_leadsTo_25 m x2 x3) some (k + 0) 25 [none, none, some (.inl (.int x2)), some (.inl (.int x3))] [] m := by
  unfold f_X12_leadsTo_25
  refine zk_st R 2 27 [none, none, some (.inl (.int x2)), some (.inl (.int x3))] [.inl (.int x2), .inl (.int x3)] m rfl ⟨trivial, trivial, trivial⟩ ?_
  refine zk_br R rfl (fun _ => ?_) (fun _ => ?_)
  · refine zk_st R 2 35 [none, none, some (.inl (.int x2)), some (.inl (.int x3))] [.inl (.int (1 : Int32))] m rfl ⟨trivial, trivial, trivial⟩ ?_
    exact zk_ret R rfl (Or.inr rfl) rfl
  · refine zk_st R 1 35 [none, none, some (.inl (.int x2)), some (.inl (.int x3))] [.inl (.int (0 : Int32))] m rfl ⟨trivial, trivial⟩ ?_
    exact zk_ret R rfl (Or.inl rfl) rfl
theorem w_X12_leadsTo_2 (d k : Nat) {o : zO} {G : Nat → Nat → zL → List zA → zM → Prop} (m : zM) (R : zRu (d + 2) tX12_leadsTo 1 (z_hf []) o G) : ∀ (j : Nat) (x2 : Int32) (x3 : Int32), zLK G (fun a => (z_cB a, m) : Bool → zO) o (f_X12_leadsTo_2 m j x2 x3) some (k + 0) 2 [some (.inr (13, 0)), none, some (.inl (.int x2)), some (.inl (.int x3))] [] m := by
  intro j
  induction j with
  | zero =>
    intro _ _
    exact zk_none
  | succ j ih =>
    intro x2 x3
    unfold f_X12_leadsTo_2
    refine zk_st R 2 4 [some (.inr (13, 0)), none, some (.inl (.int x2)), some (.inl (.int x3))] [.inl (.int x2), .inl (.int x3)] m rfl ⟨trivial, trivial, trivial⟩ ?_
    refine zk_br R rfl (fun _ => ?_) (fun _ => ?_)
    · refine zk_mask R [false, false, true, true] rfl ?_
      exact w_X12_leadsTo_25 d k m R x2 x3
    · refine zk_gd fun e2 => ?_
      refine zk_st R 4 13 [some (.inr (13, 0)), none, some (.inl (.int x2)), some (.inl (.int x3))] [.inl (.int (m.1 20 61 (Int32.toNatClampNeg x3)))] m rfl ⟨trivial, (Nat.le_of_ble_eq_true rfl), trivial, ⟨(Nat.le_of_ble_eq_true rfl), z_inb_in e2⟩, trivial⟩ ?_
      refine zk_br R rfl (fun _ => ?_) (fun _ => ?_)
      · refine zk_mask R [false, false, true, true] rfl ?_
        exact w_X12_leadsTo_25 d k m R x2 x3
      · refine zk_st R 2 18 [some (.inr (13, 0)), none, some (.inl (.int x2)), some (.inl (.int x3))] [.inl (.int x3), .inr (13, 0)] m rfl ⟨trivial, trivial, trivial⟩ ?_
        refine zk_call R (fun b => some (.inl (.int b))) (fun _ => m) rfl (r_X12_onward (Nat.le_of_ble_eq_true rfl)) (fun b hb => w_X12_onward d 0 x3 m b hb) (fun r4 => ?_)
        refine zk_st R 2 2 [some (.inr (13, 0)), none, some (.inl (.int x2)), some (.inl (.int r4))] [] m rfl ⟨trivial, trivial, trivial⟩ ?_
        refine zk_mask R [true, false, true, true] rfl ?_
        exact ih x2 r4
theorem w_X12_leadsTo (d k : Nat) (x1 : Int32) (x2 : Int32) (m : zM) (a : Bool) (ha : f_X12_leadsTo x1 x2 m = some a) : z_Ev z_MT zN zRf (d + 3) (k + 0) 217 [.inr (13, 0), .inl (.int x1), .inl (.int x2)] m ((fun a => (z_cB a, m) : Bool → zO) a) := by
  refine zk_top (I := (yX12_leadsTo, cX12_leadsTo, 4, (some .boolean), [], tX12_leadsTo, 13, 2, 13, 0, 0, 0)) (oc := (fun a => (z_cB a, m) : Bool → zO)) (a := a) rfl (Nat.le_of_ble_eq_true rfl) (fun G R => ?_) ha
  unfold f_X12_leadsTo
  refine zk_st R 2 2 [some (.inr (13, 0)), some (.inl (.int x1)), some (.inl (.int x2)), some (.inl (.int x1))] [] m rfl ⟨trivial, trivial, trivial⟩ ?_
  refine zk_mask R [true, false, true, true] rfl ?_
  exact w_X12_leadsTo_2 d k m R zF x2 x1
theorem r_X12_depths {i : Nat} {t : List zA} (h : i < zN 13) : z_rcv zN (zKD 221) (.inr (13, i) :: t) := by
  rw [show zKD 221 = 13 from rfl]
  exact ⟨rfl, h⟩
noncomputable def f_X12_depths_8 : Nat → Int32 → Int32 → zM → Option (Int32 × zM)
  | 0, _, _, _ => none
  | j + 1, x1, x2, m =>
    Option.bind (f_X12_cells m) fun r1 =>
    if r1 ≤ x2 then
      some (x1, m)
    else
      Option.bind (f_X12_depth x2 m) fun r3 =>
      f_X12_depths_8 j (x1 + r3) (x2 + (1 : Int32)) m
noncomputable def f_X12_depths (m : zM) : Option (Int32 × zM) :=
  Option.bind (f_X12_levels m) fun r1 =>
  f_X12_depths_8 zF (0 : Int32) (0 : Int32) r1
theorem w_X12_depths_8 (d k : Nat) {o : zO} {G : Nat → Nat → zL → List zA → zM → Prop} (R : zRu (d + 2) tX12_depths 0 (z_hf []) o G) : ∀ (j : Nat) (x1 : Int32) (x2 : Int32) (m : zM), zLK G (fun a => (z_cI a.1, a.2) : Int32 × zM → zO) o (f_X12_depths_8 j x1 x2 m) some (k + 0) 8 [some (.inr (13, 0)), some (.inl (.int x1)), some (.inl (.int x2))] [] m := by
  intro j
  induction j with
  | zero =>
    intro _ _ _
    exact zk_none
  | succ j ih =>
    intro x1 x2 m
    unfold f_X12_depths_8
    refine zk_st R 2 10 [some (.inr (13, 0)), some (.inl (.int x1)), some (.inl (.int x2))] [.inr (13, 0), .inl (.int x2)] m rfl ⟨trivial, trivial, trivial⟩ ?_
    refine zk_call R (fun b => some (.inl (.int b))) (fun _ => m) rfl (r_X12_cells (Nat.le_of_ble_eq_true rfl)) (fun b hb => w_X12_cells (d + 1) 0 m b hb) (fun r1 => ?_)
    refine zk_br R rfl (fun _ => ?_) (fun _ => ?_)
    · refine zk_st R 1 31 [some (.inr (13, 0)), some (.inl (.int x1)), some (.inl (.int x2))] [.inl (.int x1)] m rfl ⟨trivial, trivial⟩ ?_
      exact zk_ret R rfl trivial rfl
    · refine zk_st R 3 19 [some (.inr (13, 0)), some (.inl (.int x1)), some (.inl (.int x2))] [.inl (.int x2), .inr (13, 0), .inl (.int x1)] m rfl ⟨trivial, trivial, trivial, trivial⟩ ?_
      refine zk_call R (fun b => some (.inl (.int b))) (fun _ => m) rfl (r_X12_depth (Nat.le_of_ble_eq_true rfl)) (fun b hb => w_X12_depth d 0 x2 m b hb) (fun r3 => ?_)
      refine zk_st R 4 8 [some (.inr (13, 0)), some (.inl (.int (x1 + r3))), some (.inl (.int (x2 + (1 : Int32))))] [] m rfl ⟨trivial, trivial, trivial, trivial, trivial⟩ ?_
      refine zk_mask R [true, true, true] rfl ?_
      exact ih (x1 + r3) (x2 + (1 : Int32)) m
theorem w_X12_depths (d k : Nat) (m : zM) (a : Int32 × zM) (ha : f_X12_depths m = some a) : z_Ev z_MT zN zRf (d + 3) (k + 0) 221 [.inr (13, 0)] m ((fun a => (z_cI a.1, a.2) : Int32 × zM → zO) a) := by
  refine zk_top (I := (yX12_depths, cX12_depths, 3, (some .int), [], tX12_depths, 13, 0, 13, 0, 0, 0)) (oc := (fun a => (z_cI a.1, a.2) : Int32 × zM → zO)) (a := a) rfl (Nat.le_of_ble_eq_true rfl) (fun G R => ?_) ha
  unfold f_X12_depths
  refine zk_st R 1 1 [some (.inr (13, 0)), none, none] [.inr (13, 0)] m rfl ⟨trivial, trivial⟩ ?_
  refine zk_call R (fun _ => none) id rfl (r_X12_levels (Nat.le_of_ble_eq_true rfl)) (fun b hb => w_X12_levels d 0 m b hb) (fun r1 => ?_)
  refine zk_st R 4 8 [some (.inr (13, 0)), some (.inl (.int (0 : Int32))), some (.inl (.int (0 : Int32)))] [] r1 rfl ⟨trivial, trivial, trivial, trivial, trivial⟩ ?_
  refine zk_mask R [true, true, true] rfl ?_
  exact w_X12_depths_8 d k R zF (0 : Int32) (0 : Int32) r1
