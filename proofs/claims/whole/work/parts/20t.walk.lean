theorem r_X12_section {i : Nat} {t : List zA} (h : i < zN 13) : z_rcv zN (zKD 238) (.inr (13, i) :: t) := by
  rw [show zKD 238 = 13 from rfl]
  exact ⟨rfl, h⟩
noncomputable def f_X12_section_21 (m : zM) : Option (Int32 × zM) :=
  Option.bind (f_X12_raises (1 : Int32) m) fun r1 =>
  some (r1.1, r1.2)
noncomputable def f_X12_section_200 (c82 : Int32 → Int32 → Int32 → Int32 → Int32 → Int32 → zM → Option (Int32 × zM)) (x1 : Int32) (x2 : Int32) (x3 : Int32) (x4 : Int32) (x5 : Int32) (x6 : Int32) (x7 : Int32) (m : zM) : Option (Int32 × zM) :=
  if x3 = (5 : Int32) then
    Option.bind (f_X12_isStream x7 m) fun r2 =>
    if (z_bi r2) = 0 then
      c82 x1 x2 x3 x4 x5 (x6 + (1 : Int32)) m
    else
      c82 x1 x2 x3 x4 (x5 + (1 : Int32)) (x6 + (1 : Int32)) m
  else
    c82 x1 x2 x3 x4 x5 (x6 + (1 : Int32)) m
noncomputable def f_X12_section_182 (c82 : Int32 → Int32 → Int32 → Int32 → Int32 → Int32 → zM → Option (Int32 × zM)) (x1 : Int32) (x2 : Int32) (x3 : Int32) (x4 : Int32) (x5 : Int32) (x6 : Int32) (x7 : Int32) (m : zM) : Option (Int32 × zM) :=
  if x3 = (4 : Int32) then
    Option.bind (f_X12_height x7 m) fun r2 =>
    Option.bind (f_J9_min_7cf53 x5 r2 m) fun r3 =>
    f_X12_section_200 c82 x1 x2 x3 x4 r3 x6 x7 m
  else
    f_X12_section_200 c82 x1 x2 x3 x4 x5 x6 x7 m
noncomputable def f_X12_section_164 (c82 : Int32 → Int32 → Int32 → Int32 → Int32 → Int32 → zM → Option (Int32 × zM)) (x1 : Int32) (x2 : Int32) (x3 : Int32) (x4 : Int32) (x5 : Int32) (x6 : Int32) (x7 : Int32) (m : zM) : Option (Int32 × zM) :=
  if x3 = (3 : Int32) then
    Option.bind (f_X12_height x7 m) fun r2 =>
    Option.bind (f_J9_max_7cf53 x5 r2 m) fun r3 =>
    f_X12_section_182 c82 x1 x2 x3 x4 r3 x6 x7 m
  else
    f_X12_section_182 c82 x1 x2 x3 x4 x5 x6 x7 m
noncomputable def f_X12_section_147 (c82 : Int32 → Int32 → Int32 → Int32 → Int32 → Int32 → zM → Option (Int32 × zM)) (x1 : Int32) (x2 : Int32) (x3 : Int32) (x4 : Int32) (x5 : Int32) (x6 : Int32) (x7 : Int32) (x8 : Int32) (m : zM) : Option (Int32 × zM) :=
  if x3 = (2 : Int32) then
    Option.bind (f_J9_max_7cf53 (0 : Int32) (-x8) m) fun r2 =>
    f_X12_section_164 c82 x1 x2 x3 x4 (x5 + r2) x6 x7 m
  else
    f_X12_section_164 c82 x1 x2 x3 x4 x5 x6 x7 m
noncomputable def f_X12_section_129 (c82 : Int32 → Int32 → Int32 → Int32 → Int32 → Int32 → zM → Option (Int32 × zM)) (x1 : Int32) (x2 : Int32) (x3 : Int32) (x4 : Int32) (x5 : Int32) (x6 : Int32) (x7 : Int32) (s0 : Int32) (m : zM) : Option (Int32 × zM) :=
  if x3 = (1 : Int32) then
    Option.bind (f_J9_max_7cf53 (0 : Int32) s0 m) fun r2 =>
    f_X12_section_147 c82 x1 x2 x3 x4 (x5 + r2) x6 x7 s0 m
  else
    f_X12_section_147 c82 x1 x2 x3 x4 x5 x6 x7 s0 m
noncomputable def f_X12_section_82 : Nat → Int32 → Int32 → Int32 → Int32 → Int32 → Int32 → zM → Option (Int32 × zM)
  | 0, _, _, _, _, _, _, _ => none
  | j + 1, x1, x2, x3, x4, x5, x6, m =>
    if x4 < x6 then
      some (x5, m)
    else
      Option.bind (f_X12_along x1 x2 x6 m) fun r2 =>
      if x6 = 0 then
        f_X12_section_129 (f_X12_section_82 j) x1 x2 x3 x4 x5 x6 r2 (0 : Int32) m
      else
        Option.bind (f_X12_height r2 m) fun r4 =>
        Option.bind (f_X12_along x1 x2 (x6 - (1 : Int32)) m) fun r5 =>
        Option.bind (f_X12_height r5 m) fun r6 =>
        f_X12_section_129 (f_X12_section_82 j) x1 x2 x3 x4 x5 x6 r2 (r4 - r6) m
noncomputable def f_X12_section_77 (x1 : Int32) (x2 : Int32) (x3 : Int32) (x4 : Int32) (s0 : Int32) (m : zM) : Option (Int32 × zM) :=
  f_X12_section_82 zF x1 x2 x3 x4 s0 (0 : Int32) m
noncomputable def f_X12_section (x1 : Int32) (x2 : Int32) (x3 : Int32) (m : zM) : Option (Int32 × zM) :=
  Option.bind (f_X12_isCell x1 (z_sI m 13 0 0 (0 : Int32))) fun r1 =>
  if (z_bi r1) = 0 then
    f_X12_section_21 (z_sI m 13 0 0 (0 : Int32))
  else
    Option.bind (f_X12_isCell x2 (z_sI m 13 0 0 (0 : Int32))) fun r3 =>
    if (z_bi r3) = 0 then
      f_X12_section_21 (z_sI m 13 0 0 (0 : Int32))
    else
      Option.bind (f_X12_in (Int32.toInt64 x3) (0 : Int64) (5 : Int64) (z_sI m 13 0 0 (0 : Int32))) fun r5 =>
      if (z_bi r5) = 0 then
        Option.bind (f_X12_raises (2 : Int32) (z_sI m 13 0 0 (0 : Int32))) fun r7 =>
        some (r7.1, r7.2)
      else
        Option.bind (f_X12_far x1 x2 (z_sI m 13 0 0 (0 : Int32))) fun r8 =>
        if x3 = 0 then
          some ((r8 + (1 : Int32)), (z_sI m 13 0 0 (0 : Int32)))
        else
          Option.bind (f_X12_waters (z_sI m 13 0 0 (0 : Int32))) fun r10 =>
          if x3 = (4 : Int32) then
            f_X12_section_77 x1 x2 x3 r8 (1000000 : Int32) r10
          else
            f_X12_section_77 x1 x2 x3 r8 (0 : Int32) r10
theorem w_X12_section_21 (d k : Nat) {o : zO} {G : Nat → Nat → zL → List zA → zM → Prop} (R : zRu (d + 4) tX12_section 0 (z_hf []) o G) (m : zM) : zLK G (fun a => (z_cI a.1, a.2) : Int32 × zM → zO) o (f_X12_section_21 m) some (k + 0) 21 [some (.inr (13, 0)), none, none, none, none, none, none, none, none] [] m := by
  unfold f_X12_section_21
  refine zk_st R 2 23 [some (.inr (13, 0)), none, none, none, none, none, none, none, none] [.inl (.int (1 : Int32)), .inr (13, 0)] m rfl ⟨trivial, trivial, trivial⟩ ?_
  refine zk_call R (fun b => some (.inl (.int b.1))) (fun b => b.2) rfl (r_X12_raises (Nat.le_of_ble_eq_true rfl)) (fun b hb => w_X12_raises (d + 3) 0 (1 : Int32) m b hb) (fun r1 => ?_)
  exact zk_ret R rfl trivial rfl
theorem w_X12_section_200 (d k : Nat) {o : zO} {G : Nat → Nat → zL → List zA → zM → Prop} (R : zRu (d + 4) tX12_section 0 (z_hf []) o G) (c82 : Int32 → Int32 → Int32 → Int32 → Int32 → Int32 → zM → Option (Int32 × zM)) (hc82 : ∀ (x1 : Int32) (x2 : Int32) (x3 : Int32) (x4 : Int32) (x5 : Int32) (x6 : Int32) (m : zM), zLK G (fun a => (z_cI a.1, a.2) : Int32 × zM → zO) o (c82 x1 x2 x3 x4 x5 x6 m) some (k + 0) 82 [some (.inr (13, 0)), some (.inl (.int x1)), some (.inl (.int x2)), some (.inl (.int x3)), some (.inl (.int x4)), some (.inl (.int x5)), some (.inl (.int x6)), none, none] [] m) (x1 : Int32) (x2 : Int32) (x3 : Int32) (x4 : Int32) (x5 : Int32) (x6 : Int32) (x7 : Int32) (m : zM) : zLK G (fun a => (z_cI a.1, a.2) : Int32 × zM → zO) o (f_X12_section_200 c82 x1 x2 x3 x4 x5 x6 x7 m) some (k + 0) 200 [some (.inr (13, 0)), some (.inl (.int x1)), some (.inl (.int x2)), some (.inl (.int x3)), some (.inl (.int x4)), some (.inl (.int x5)), some (.inl (.int x6)), some (.inl (.int x7)), none] [] m := by
  unfold f_X12_section_200
  refine zk_st R 2 202 [some (.inr (13, 0)), some (.inl (.int x1)), some (.inl (.int x2)), some (.inl (.int x3)), some (.inl (.int x4)), some (.inl (.int x5)), some (.inl (.int x6)), some (.inl (.int x7)), none] [.inl (.int (5 : Int32)), .inl (.int x3)] m rfl ⟨trivial, trivial, trivial⟩ ?_
  refine zk_br R rfl (fun _ => ?_) (fun _ => ?_)
  · refine zk_st R 2 208 [some (.inr (13, 0)), some (.inl (.int x1)), some (.inl (.int x2)), some (.inl (.int x3)), some (.inl (.int x4)), some (.inl (.int x5)), some (.inl (.int x6)), some (.inl (.int x7)), none] [.inl (.int x7), .inr (13, 0)] m rfl ⟨trivial, trivial, trivial⟩ ?_
    refine zk_call R (fun b => some (.inl (.int (z_bi b)))) (fun _ => m) rfl (r_X12_isStream (Nat.le_of_ble_eq_true rfl)) (fun b hb => w_X12_isStream (d + 3) 0 x7 m b hb) (fun r2 => ?_)
    refine zk_br R rfl (fun _ => ?_) (fun _ => ?_)
    · refine zk_st R 2 82 [some (.inr (13, 0)), some (.inl (.int x1)), some (.inl (.int x2)), some (.inl (.int x3)), some (.inl (.int x4)), some (.inl (.int x5)), some (.inl (.int (x6 + (1 : Int32)))), some (.inl (.int x7)), none] [] m rfl ⟨trivial, trivial, trivial⟩ ?_
      refine zk_mask R [true, true, true, true, true, true, true, false, false] rfl ?_
      exact hc82 x1 x2 x3 x4 x5 (x6 + (1 : Int32)) m
    · refine zk_st R 3 82 [some (.inr (13, 0)), some (.inl (.int x1)), some (.inl (.int x2)), some (.inl (.int x3)), some (.inl (.int x4)), some (.inl (.int (x5 + (1 : Int32)))), some (.inl (.int (x6 + (1 : Int32)))), some (.inl (.int x7)), none] [] m rfl ⟨trivial, trivial, trivial, trivial⟩ ?_
      refine zk_mask R [true, true, true, true, true, true, true, false, false] rfl ?_
      exact hc82 x1 x2 x3 x4 (x5 + (1 : Int32)) (x6 + (1 : Int32)) m
  · refine zk_st R 2 82 [some (.inr (13, 0)), some (.inl (.int x1)), some (.inl (.int x2)), some (.inl (.int x3)), some (.inl (.int x4)), some (.inl (.int x5)), some (.inl (.int (x6 + (1 : Int32)))), some (.inl (.int x7)), none] [] m rfl ⟨trivial, trivial, trivial⟩ ?_
    refine zk_mask R [true, true, true, true, true, true, true, false, false] rfl ?_
    exact hc82 x1 x2 x3 x4 x5 (x6 + (1 : Int32)) m
theorem w_X12_section_182 (d k : Nat) {o : zO} {G : Nat → Nat → zL → List zA → zM → Prop} (R : zRu (d + 4) tX12_section 0 (z_hf []) o G) (c82 : Int32 → Int32 → Int32 → Int32 → Int32 → Int32 → zM → Option (Int32 × zM)) (hc82 : ∀ (x1 : Int32) (x2 : Int32) (x3 : Int32) (x4 : Int32) (x5 : Int32) (x6 : Int32) (m : zM), zLK G (fun a => (z_cI a.1, a.2) : Int32 × zM → zO) o (c82 x1 x2 x3 x4 x5 x6 m) some (k + 0) 82 [some (.inr (13, 0)), some (.inl (.int x1)), some (.inl (.int x2)), some (.inl (.int x3)), some (.inl (.int x4)), some (.inl (.int x5)), some (.inl (.int x6)), none, none] [] m) (x1 : Int32) (x2 : Int32) (x3 : Int32) (x4 : Int32) (x5 : Int32) (x6 : Int32) (x7 : Int32) (m : zM) : zLK G (fun a => (z_cI a.1, a.2) : Int32 × zM → zO) o (f_X12_section_182 c82 x1 x2 x3 x4 x5 x6 x7 m) some (k + 0) 182 [some (.inr (13, 0)), some (.inl (.int x1)), some (.inl (.int x2)), some (.inl (.int x3)), some (.inl (.int x4)), some (.inl (.int x5)), some (.inl (.int x6)), some (.inl (.int x7)), none] [] m := by
  unfold f_X12_section_182
  refine zk_st R 2 184 [some (.inr (13, 0)), some (.inl (.int x1)), some (.inl (.int x2)), some (.inl (.int x3)), some (.inl (.int x4)), some (.inl (.int x5)), some (.inl (.int x6)), some (.inl (.int x7)), none] [.inl (.int (4 : Int32)), .inl (.int x3)] m rfl ⟨trivial, trivial, trivial⟩ ?_
  refine zk_br R rfl (fun _ => ?_) (fun _ => ?_)
  · refine zk_st R 3 192 [some (.inr (13, 0)), some (.inl (.int x1)), some (.inl (.int x2)), some (.inl (.int x3)), some (.inl (.int x4)), some (.inl (.int x5)), some (.inl (.int x6)), some (.inl (.int x7)), none] [.inl (.int x7), .inr (13, 0), .inl (.int x5)] m rfl ⟨trivial, trivial, trivial, trivial⟩ ?_
    refine zk_call R (fun b => some (.inl (.int b))) (fun _ => m) rfl (r_X12_height (Nat.le_of_ble_eq_true rfl)) (fun b hb => w_X12_height (d + 3) 0 x7 m b hb) (fun r2 => ?_)
    refine zk_call R (fun b => some (.inl (.int b))) (fun _ => m) rfl (r_J9_min_7cf53) (fun b hb => w_J9_min_7cf53 (d + 3) 0 x5 r2 m b hb) (fun r3 => ?_)
    refine zk_st R 1 200 [some (.inr (13, 0)), some (.inl (.int x1)), some (.inl (.int x2)), some (.inl (.int x3)), some (.inl (.int x4)), some (.inl (.int r3)), some (.inl (.int x6)), some (.inl (.int x7)), none] [] m rfl ⟨trivial, trivial⟩ ?_
    refine zk_mask R [true, true, true, true, true, true, true, true, false] rfl ?_
    exact w_X12_section_200 d k R c82 hc82 x1 x2 x3 x4 r3 x6 x7 m
  · refine zk_mask R [true, true, true, true, true, true, true, true, false] rfl ?_
    exact w_X12_section_200 d k R c82 hc82 x1 x2 x3 x4 x5 x6 x7 m
theorem w_X12_section_164 (d k : Nat) {o : zO} {G : Nat → Nat → zL → List zA → zM → Prop} (R : zRu (d + 4) tX12_section 0 (z_hf []) o G) (c82 : Int32 → Int32 → Int32 → Int32 → Int32 → Int32 → zM → Option (Int32 × zM)) (hc82 : ∀ (x1 : Int32) (x2 : Int32) (x3 : Int32) (x4 : Int32) (x5 : Int32) (x6 : Int32) (m : zM), zLK G (fun a => (z_cI a.1, a.2) : Int32 × zM → zO) o (c82 x1 x2 x3 x4 x5 x6 m) some (k + 0) 82 [some (.inr (13, 0)), some (.inl (.int x1)), some (.inl (.int x2)), some (.inl (.int x3)), some (.inl (.int x4)), some (.inl (.int x5)), some (.inl (.int x6)), none, none] [] m) (x1 : Int32) (x2 : Int32) (x3 : Int32) (x4 : Int32) (x5 : Int32) (x6 : Int32) (x7 : Int32) (m : zM) : zLK G (fun a => (z_cI a.1, a.2) : Int32 × zM → zO) o (f_X12_section_164 c82 x1 x2 x3 x4 x5 x6 x7 m) some (k + 0) 164 [some (.inr (13, 0)), some (.inl (.int x1)), some (.inl (.int x2)), some (.inl (.int x3)), some (.inl (.int x4)), some (.inl (.int x5)), some (.inl (.int x6)), some (.inl (.int x7)), none] [] m := by
  unfold f_X12_section_164
  refine zk_st R 2 166 [some (.inr (13, 0)), some (.inl (.int x1)), some (.inl (.int x2)), some (.inl (.int x3)), some (.inl (.int x4)), some (.inl (.int x5)), some (.inl (.int x6)), some (.inl (.int x7)), none] [.inl (.int (3 : Int32)), .inl (.int x3)] m rfl ⟨trivial, trivial, trivial⟩ ?_
  refine zk_br R rfl (fun _ => ?_) (fun _ => ?_)
  · refine zk_st R 3 174 [some (.inr (13, 0)), some (.inl (.int x1)), some (.inl (.int x2)), some (.inl (.int x3)), some (.inl (.int x4)), some (.inl (.int x5)), some (.inl (.int x6)), some (.inl (.int x7)), none] [.inl (.int x7), .inr (13, 0), .inl (.int x5)] m rfl ⟨trivial, trivial, trivial, trivial⟩ ?_
    refine zk_call R (fun b => some (.inl (.int b))) (fun _ => m) rfl (r_X12_height (Nat.le_of_ble_eq_true rfl)) (fun b hb => w_X12_height (d + 3) 0 x7 m b hb) (fun r2 => ?_)
    refine zk_call R (fun b => some (.inl (.int b))) (fun _ => m) rfl (r_J9_max_7cf53) (fun b hb => w_J9_max_7cf53 (d + 3) 0 x5 r2 m b hb) (fun r3 => ?_)
    refine zk_st R 1 182 [some (.inr (13, 0)), some (.inl (.int x1)), some (.inl (.int x2)), some (.inl (.int x3)), some (.inl (.int x4)), some (.inl (.int r3)), some (.inl (.int x6)), some (.inl (.int x7)), none] [] m rfl ⟨trivial, trivial⟩ ?_
    refine zk_mask R [true, true, true, true, true, true, true, true, false] rfl ?_
    exact w_X12_section_182 d k R c82 hc82 x1 x2 x3 x4 r3 x6 x7 m
  · refine zk_mask R [true, true, true, true, true, true, true, true, false] rfl ?_
    exact w_X12_section_182 d k R c82 hc82 x1 x2 x3 x4 x5 x6 x7 m
theorem w_X12_section_147 (d k : Nat) {o : zO} {G : Nat → Nat → zL → List zA → zM → Prop} (R : zRu (d + 4) tX12_section 0 (z_hf []) o G) (c82 : Int32 → Int32 → Int32 → Int32 → Int32 → Int32 → zM → Option (Int32 × zM)) (hc82 : ∀ (x1 : Int32) (x2 : Int32) (x3 : Int32) (x4 : Int32) (x5 : Int32) (x6 : Int32) (m : zM), zLK G (fun a => (z_cI a.1, a.2) : Int32 × zM → zO) o (c82 x1 x2 x3 x4 x5 x6 m) some (k + 0) 82 [some (.inr (13, 0)), some (.inl (.int x1)), some (.inl (.int x2)), some (.inl (.int x3)), some (.inl (.int x4)), some (.inl (.int x5)), some (.inl (.int x6)), none, none] [] m) (x1 : Int32) (x2 : Int32) (x3 : Int32) (x4 : Int32) (x5 : Int32) (x6 : Int32) (x7 : Int32) (x8 : Int32) (m : zM) : zLK G (fun a => (z_cI a.1, a.2) : Int32 × zM → zO) o (f_X12_section_147 c82 x1 x2 x3 x4 x5 x6 x7 x8 m) some (k + 0) 147 [some (.inr (13, 0)), some (.inl (.int x1)), some (.inl (.int x2)), some (.inl (.int x3)), some (.inl (.int x4)), some (.inl (.int x5)), some (.inl (.int x6)), some (.inl (.int x7)), some (.inl (.int x8))] [] m := by
  unfold f_X12_section_147
  refine zk_st R 2 149 [some (.inr (13, 0)), some (.inl (.int x1)), some (.inl (.int x2)), some (.inl (.int x3)), some (.inl (.int x4)), some (.inl (.int x5)), some (.inl (.int x6)), some (.inl (.int x7)), some (.inl (.int x8))] [.inl (.int (2 : Int32)), .inl (.int x3)] m rfl ⟨trivial, trivial, trivial⟩ ?_
  refine zk_br R rfl (fun _ => ?_) (fun _ => ?_)
  · refine zk_st R 4 158 [some (.inr (13, 0)), some (.inl (.int x1)), some (.inl (.int x2)), some (.inl (.int x3)), some (.inl (.int x4)), some (.inl (.int x5)), some (.inl (.int x6)), some (.inl (.int x7)), some (.inl (.int x8))] [.inl (.int (-x8)), .inl (.int (0 : Int32)), .inl (.int x5)] m rfl ⟨trivial, trivial, trivial, trivial, trivial⟩ ?_
    refine zk_call R (fun b => some (.inl (.int b))) (fun _ => m) rfl (r_J9_max_7cf53) (fun b hb => w_J9_max_7cf53 (d + 3) 0 (0 : Int32) (-x8) m b hb) (fun r2 => ?_)
    refine zk_st R 2 164 [some (.inr (13, 0)), some (.inl (.int x1)), some (.inl (.int x2)), some (.inl (.int x3)), some (.inl (.int x4)), some (.inl (.int (x5 + r2))), some (.inl (.int x6)), some (.inl (.int x7)), some (.inl (.int x8))] [] m rfl ⟨trivial, trivial, trivial⟩ ?_
    refine zk_mask R [true, true, true, true, true, true, true, true, false] rfl ?_
    exact w_X12_section_164 d k R c82 hc82 x1 x2 x3 x4 (x5 + r2) x6 x7 m
  · refine zk_mask R [true, true, true, true, true, true, true, true, false] rfl ?_
    exact w_X12_section_164 d k R c82 hc82 x1 x2 x3 x4 x5 x6 x7 m
theorem w_X12_section_129 (d k : Nat) {o : zO} {G : Nat → Nat → zL → List zA → zM → Prop} (R : zRu (d + 4) tX12_section 0 (z_hf []) o G) (c82 : Int32 → Int32 → Int32 → Int32 → Int32 → Int32 → zM → Option (Int32 × zM)) (hc82 : ∀ (x1 : Int32) (x2 : Int32) (x3 : Int32) (x4 : Int32) (x5 : Int32) (x6 : Int32) (m : zM), zLK G (fun a => (z_cI a.1, a.2) : Int32 × zM → zO) o (c82 x1 x2 x3 x4 x5 x6 m) some (k + 0) 82 [some (.inr (13, 0)), some (.inl (.int x1)), some (.inl (.int x2)), some (.inl (.int x3)), some (.inl (.int x4)), some (.inl (.int x5)), some (.inl (.int x6)), none, none] [] m) (x1 : Int32) (x2 : Int32) (x3 : Int32) (x4 : Int32) (x5 : Int32) (x6 : Int32) (x7 : Int32) (s0 : Int32) (m : zM) : zLK G (fun a => (z_cI a.1, a.2) : Int32 × zM → zO) o (f_X12_section_129 c82 x1 x2 x3 x4 x5 x6 x7 s0 m) some (k + 0) 129 [some (.inr (13, 0)), some (.inl (.int x1)), some (.inl (.int x2)), some (.inl (.int x3)), some (.inl (.int x4)), some (.inl (.int x5)), some (.inl (.int x6)), some (.inl (.int x7)), none] [.inl (.int s0)] m := by
  unfold f_X12_section_129
  refine zk_st R 3 133 [some (.inr (13, 0)), some (.inl (.int x1)), some (.inl (.int x2)), some (.inl (.int x3)), some (.inl (.int x4)), some (.inl (.int x5)), some (.inl (.int x6)), some (.inl (.int x7)), some (.inl (.int s0))] [.inl (.int (1 : Int32)), .inl (.int x3)] m rfl ⟨trivial, trivial, trivial, trivial⟩ ?_
  refine zk_br R rfl (fun _ => ?_) (fun _ => ?_)
  · refine zk_st R 3 141 [some (.inr (13, 0)), some (.inl (.int x1)), some (.inl (.int x2)), some (.inl (.int x3)), some (.inl (.int x4)), some (.inl (.int x5)), some (.inl (.int x6)), some (.inl (.int x7)), some (.inl (.int s0))] [.inl (.int s0), .inl (.int (0 : Int32)), .inl (.int x5)] m rfl ⟨trivial, trivial, trivial, trivial⟩ ?_
    refine zk_call R (fun b => some (.inl (.int b))) (fun _ => m) rfl (r_J9_max_7cf53) (fun b hb => w_J9_max_7cf53 (d + 3) 0 (0 : Int32) s0 m b hb) (fun r2 => ?_)
    refine zk_st R 2 147 [some (.inr (13, 0)), some (.inl (.int x1)), some (.inl (.int x2)), some (.inl (.int x3)), some (.inl (.int x4)), some (.inl (.int (x5 + r2))), some (.inl (.int x6)), some (.inl (.int x7)), some (.inl (.int s0))] [] m rfl ⟨trivial, trivial, trivial⟩ ?_
    refine zk_mask R [true, true, true, true, true, true, true, true, true] rfl ?_
    exact w_X12_section_147 d k R c82 hc82 x1 x2 x3 x4 (x5 + r2) x6 x7 s0 m
  · refine zk_mask R [true, true, true, true, true, true, true, true, true] rfl ?_
    exact w_X12_section_147 d k R c82 hc82 x1 x2 x3 x4 x5 x6 x7 s0 m
theorem w_X12_section_82 (d k : Nat) {o : zO} {G : Nat → Nat → zL → List zA → zM → Prop} (R : zRu (d + 4) tX12_section 0 (z_hf []) o G) : ∀ (j : Nat) (x1 : Int32) (x2 : Int32) (x3 : Int32) (x4 : Int32) (x5 : Int32) (x6 : Int32) (m : zM), zLK G (fun a => (z_cI a.1, a.2) : Int32 × zM → zO) o (f_X12_section_82 j x1 x2 x3 x4 x5 x6 m) some (k + 0) 82 [some (.inr (13, 0)), some (.inl (.int x1)), some (.inl (.int x2)), some (.inl (.int x3)), some (.inl (.int x4)), some (.inl (.int x5)), some (.inl (.int x6)), none, none] [] m := by
  intro j
  induction j with
  | zero =>
    intro _ _ _ _ _ _ _
    exact zk_none
  | succ j ih =>
    intro x1 x2 x3 x4 x5 x6 m
    unfold f_X12_section_82
    refine zk_st R 2 86 [some (.inr (13, 0)), some (.inl (.int x1)), some (.inl (.int x2)), some (.inl (.int x3)), some (.inl (.int x4)), some (.inl (.int x5)), some (.inl (.int x6)), none, none] [.inl (.int x4), .inl (.int x6)] m rfl ⟨trivial, trivial, trivial⟩ ?_
    refine zk_br R rfl (fun _ => ?_) (fun _ => ?_)
    · refine zk_st R 1 225 [some (.inr (13, 0)), some (.inl (.int x1)), some (.inl (.int x2)), some (.inl (.int x3)), some (.inl (.int x4)), some (.inl (.int x5)), some (.inl (.int x6)), none, none] [.inl (.int x5)] m rfl ⟨trivial, trivial⟩ ?_
      exact zk_ret R rfl trivial rfl
    · refine zk_st R 4 94 [some (.inr (13, 0)), some (.inl (.int x1)), some (.inl (.int x2)), some (.inl (.int x3)), some (.inl (.int x4)), some (.inl (.int x5)), some (.inl (.int x6)), none, none] [.inl (.int x6), .inl (.int x2), .inl (.int x1), .inr (13, 0)] m rfl ⟨trivial, trivial, trivial, trivial, trivial⟩ ?_
      refine zk_call R (fun b => some (.inl (.int b))) (fun _ => m) rfl (r_X12_along (Nat.le_of_ble_eq_true rfl)) (fun b hb => w_X12_along (d + 1) 0 x1 x2 x6 m b hb) (fun r2 => ?_)
      refine zk_st R 2 101 [some (.inr (13, 0)), some (.inl (.int x1)), some (.inl (.int x2)), some (.inl (.int x3)), some (.inl (.int x4)), some (.inl (.int x5)), some (.inl (.int x6)), some (.inl (.int r2)), none] [.inl (.int x6)] m rfl ⟨trivial, trivial, trivial⟩ ?_
      refine zk_br R rfl (fun _ => ?_) (fun _ => ?_)
      · refine zk_st R 2 129 [some (.inr (13, 0)), some (.inl (.int x1)), some (.inl (.int x2)), some (.inl (.int x3)), some (.inl (.int x4)), some (.inl (.int x5)), some (.inl (.int x6)), some (.inl (.int r2)), none] [.inl (.int (0 : Int32))] m rfl ⟨trivial, trivial, trivial⟩ ?_
        refine zk_mask R [true, true, true, true, true, true, true, true, false] rfl ?_
        exact w_X12_section_129 d k R (f_X12_section_82 j) ih x1 x2 x3 x4 x5 x6 r2 (0 : Int32) m
      · refine zk_st R 2 111 [some (.inr (13, 0)), some (.inl (.int x1)), some (.inl (.int x2)), some (.inl (.int x3)), some (.inl (.int x4)), some (.inl (.int x5)), some (.inl (.int x6)), some (.inl (.int r2)), none] [.inl (.int r2), .inr (13, 0)] m rfl ⟨trivial, trivial, trivial⟩ ?_
        refine zk_call R (fun b => some (.inl (.int b))) (fun _ => m) rfl (r_X12_height (Nat.le_of_ble_eq_true rfl)) (fun b hb => w_X12_height (d + 3) 0 r2 m b hb) (fun r4 => ?_)
        refine zk_st R 7 122 [some (.inr (13, 0)), some (.inl (.int x1)), some (.inl (.int x2)), some (.inl (.int x3)), some (.inl (.int x4)), some (.inl (.int x5)), some (.inl (.int x6)), some (.inl (.int r2)), none] [.inl (.int (x6 - (1 : Int32))), .inl (.int x2), .inl (.int x1), .inr (13, 0), .inr (13, 0), .inl (.int r4)] m rfl ⟨trivial, trivial, trivial, trivial, trivial, trivial, trivial, trivial⟩ ?_
        refine zk_call R (fun b => some (.inl (.int b))) (fun _ => m) rfl (r_X12_along (Nat.le_of_ble_eq_true rfl)) (fun b hb => w_X12_along (d + 1) 0 x1 x2 (x6 - (1 : Int32)) m b hb) (fun r5 => ?_)
        refine zk_call R (fun b => some (.inl (.int b))) (fun _ => m) rfl (r_X12_height (Nat.le_of_ble_eq_true rfl)) (fun b hb => w_X12_height (d + 3) 0 r5 m b hb) (fun r6 => ?_)
        refine zk_st R 1 129 [some (.inr (13, 0)), some (.inl (.int x1)), some (.inl (.int x2)), some (.inl (.int x3)), some (.inl (.int x4)), some (.inl (.int x5)), some (.inl (.int x6)), some (.inl (.int r2)), none] [.inl (.int (r4 - r6))] m rfl ⟨trivial, trivial⟩ ?_
        refine zk_mask R [true, true, true, true, true, true, true, true, false] rfl ?_
        exact w_X12_section_129 d k R (f_X12_section_82 j) ih x1 x2 x3 x4 x5 x6 r2 (r4 - r6) m
theorem w_X12_section_77 (d k : Nat) {o : zO} {G : Nat → Nat → zL → List zA → zM → Prop} (R : zRu (d + 4) tX12_section 0 (z_hf []) o G) (x1 : Int32) (x2 : Int32) (x3 : Int32) (x4 : Int32) (s0 : Int32) (m : zM) : zLK G (fun a => (z_cI a.1, a.2) : Int32 × zM → zO) o (f_X12_section_77 x1 x2 x3 x4 s0 m) some (k + 0) 77 [some (.inr (13, 0)), some (.inl (.int x1)), some (.inl (.int x2)), some (.inl (.int x3)), some (.inl (.int x4)), none, none, none, none] [.inl (.int s0)] m := by
  unfold f_X12_section_77
  refine zk_st R 3 82 [some (.inr (13, 0)), some (.inl (.int x1)), some (.inl (.int x2)), some (.inl (.int x3)), some (.inl (.int x4)), some (.inl (.int s0)), some (.inl (.int (0 : Int32))), none, none] [] m rfl ⟨trivial, trivial, trivial, trivial⟩ ?_
  refine zk_mask R [true, true, true, true, true, true, true, false, false] rfl ?_
  exact w_X12_section_82 d k R zF x1 x2 x3 x4 s0 (0 : Int32) m
theorem w_X12_section (d k : Nat) (x1 : Int32) (x2 : Int32) (x3 : Int32) (m : zM) (a : Int32 × zM) (ha : f_X12_section x1 x2 x3 m = some a) : z_Ev z_MT zN zRf (d + 5) (k + 0) 238 [.inr (13, 0), .inl (.int x1), .inl (.int x2), .inl (.int x3)] m ((fun a => (z_cI a.1, a.2) : Int32 × zM → zO) a) := by
  refine zk_top (I := (yX12_section, cX12_section, 9, (some .int), [], tX12_section, 13, 3, 13, 0, 0, 0)) (oc := (fun a => (z_cI a.1, a.2) : Int32 × zM → zO)) (a := a) rfl (Nat.le_of_ble_eq_true rfl) (fun G R => ?_) ha
  unfold f_X12_section
  refine zk_st R 5 7 [some (.inr (13, 0)), some (.inl (.int x1)), some (.inl (.int x2)), some (.inl (.int x3)), none, none, none, none, none] [.inl (.int x1), .inr (13, 0)] (z_sI m 13 0 0 (0 : Int32)) rfl ⟨trivial, trivial, (Nat.le_of_ble_eq_true rfl), trivial, trivial, trivial⟩ ?_
  refine zk_call R (fun b => some (.inl (.int (z_bi b)))) (fun _ => (z_sI m 13 0 0 (0 : Int32))) rfl (r_X12_isCell (Nat.le_of_ble_eq_true rfl)) (fun b hb => w_X12_isCell (d + 2) 0 x1 (z_sI m 13 0 0 (0 : Int32)) b hb) (fun r1 => ?_)
  refine zk_br R rfl (fun _ => ?_) (fun _ => ?_)
  · refine zk_mask R [true, false, false, false, false, false, false, false, false] rfl ?_
    exact w_X12_section_21 d k R (z_sI m 13 0 0 (0 : Int32))
  · refine zk_st R 2 15 [some (.inr (13, 0)), some (.inl (.int x1)), some (.inl (.int x2)), some (.inl (.int x3)), none, none, none, none, none] [.inl (.int x2), .inr (13, 0)] (z_sI m 13 0 0 (0 : Int32)) rfl ⟨trivial, trivial, trivial⟩ ?_
    refine zk_call R (fun b => some (.inl (.int (z_bi b)))) (fun _ => (z_sI m 13 0 0 (0 : Int32))) rfl (r_X12_isCell (Nat.le_of_ble_eq_true rfl)) (fun b hb => w_X12_isCell (d + 2) 0 x2 (z_sI m 13 0 0 (0 : Int32)) b hb) (fun r3 => ?_)
    refine zk_br R rfl (fun _ => ?_) (fun _ => ?_)
    · refine zk_mask R [true, false, false, false, false, false, false, false, false] rfl ?_
      exact w_X12_section_21 d k R (z_sI m 13 0 0 (0 : Int32))
    · refine zk_st R 4 33 [some (.inr (13, 0)), some (.inl (.int x1)), some (.inl (.int x2)), some (.inl (.int x3)), none, none, none, none, none] [.inl (.long (5 : Int64)), .inl (.long (0 : Int64)), .inl (.long (Int32.toInt64 x3))] (z_sI m 13 0 0 (0 : Int32)) rfl ⟨trivial, trivial, trivial, trivial, trivial⟩ ?_
      refine zk_call R (fun b => some (.inl (.int (z_bi b)))) (fun _ => (z_sI m 13 0 0 (0 : Int32))) rfl (r_X12_in) (fun b hb => w_X12_in (d + 3) 0 (Int32.toInt64 x3) (0 : Int64) (5 : Int64) (z_sI m 13 0 0 (0 : Int32)) b hb) (fun r5 => ?_)
      refine zk_br R rfl (fun _ => ?_) (fun _ => ?_)
      · refine zk_st R 2 41 [some (.inr (13, 0)), some (.inl (.int x1)), some (.inl (.int x2)), some (.inl (.int x3)), none, none, none, none, none] [.inl (.int (2 : Int32)), .inr (13, 0)] (z_sI m 13 0 0 (0 : Int32)) rfl ⟨trivial, trivial, trivial⟩ ?_
        refine zk_call R (fun b => some (.inl (.int b.1))) (fun b => b.2) rfl (r_X12_raises (Nat.le_of_ble_eq_true rfl)) (fun b hb => w_X12_raises (d + 3) 0 (2 : Int32) (z_sI m 13 0 0 (0 : Int32)) b hb) (fun r7 => ?_)
        exact zk_ret R rfl trivial rfl
      · refine zk_st R 3 48 [some (.inr (13, 0)), some (.inl (.int x1)), some (.inl (.int x2)), some (.inl (.int x3)), none, none, none, none, none] [.inl (.int x2), .inl (.int x1), .inr (13, 0)] (z_sI m 13 0 0 (0 : Int32)) rfl ⟨trivial, trivial, trivial, trivial⟩ ?_
        refine zk_call R (fun b => some (.inl (.int b))) (fun _ => (z_sI m 13 0 0 (0 : Int32))) rfl (r_X12_far (Nat.le_of_ble_eq_true rfl)) (fun b hb => w_X12_far (d + 2) 0 x1 x2 (z_sI m 13 0 0 (0 : Int32)) b hb) (fun r8 => ?_)
        refine zk_st R 2 54 [some (.inr (13, 0)), some (.inl (.int x1)), some (.inl (.int x2)), some (.inl (.int x3)), some (.inl (.int r8)), none, none, none, none] [.inl (.int x3)] (z_sI m 13 0 0 (0 : Int32)) rfl ⟨trivial, trivial, trivial⟩ ?_
        refine zk_br R rfl (fun _ => ?_) (fun _ => ?_)
        · refine zk_st R 3 61 [some (.inr (13, 0)), some (.inl (.int x1)), some (.inl (.int x2)), some (.inl (.int x3)), some (.inl (.int r8)), none, none, none, none] [.inl (.int (r8 + (1 : Int32)))] (z_sI m 13 0 0 (0 : Int32)) rfl ⟨trivial, trivial, trivial, trivial⟩ ?_
          exact zk_ret R rfl trivial rfl
        · refine zk_st R 1 63 [some (.inr (13, 0)), some (.inl (.int x1)), some (.inl (.int x2)), some (.inl (.int x3)), some (.inl (.int r8)), none, none, none, none] [.inr (13, 0)] (z_sI m 13 0 0 (0 : Int32)) rfl ⟨trivial, trivial⟩ ?_
          refine zk_call R (fun _ => none) id rfl (r_X12_waters (Nat.le_of_ble_eq_true rfl)) (fun b hb => w_X12_waters d 0 (z_sI m 13 0 0 (0 : Int32)) b hb) (fun r10 => ?_)
          refine zk_st R 2 68 [some (.inr (13, 0)), some (.inl (.int x1)), some (.inl (.int x2)), some (.inl (.int x3)), some (.inl (.int r8)), none, none, none, none] [.inl (.int (4 : Int32)), .inl (.int x3)] r10 rfl ⟨trivial, trivial, trivial⟩ ?_
          refine zk_br R rfl (fun _ => ?_) (fun _ => ?_)
          · refine zk_st R 2 77 [some (.inr (13, 0)), some (.inl (.int x1)), some (.inl (.int x2)), some (.inl (.int x3)), some (.inl (.int r8)), none, none, none, none] [.inl (.int (1000000 : Int32))] r10 rfl ⟨trivial, trivial, trivial⟩ ?_
            refine zk_mask R [true, true, true, true, true, false, false, false, false] rfl ?_
            exact w_X12_section_77 d k R x1 x2 x3 r8 (1000000 : Int32) r10
          · refine zk_st R 1 77 [some (.inr (13, 0)), some (.inl (.int x1)), some (.inl (.int x2)), some (.inl (.int x3)), some (.inl (.int r8)), none, none, none, none] [.inl (.int (0 : Int32))] r10 rfl ⟨trivial, trivial⟩ ?_
            refine zk_mask R [true, true, true, true, true, false, false, false, false] rfl ?_
            exact w_X12_section_77 d k R x1 x2 x3 r8 (0 : Int32) r10
theorem r_X12_sees {i : Nat} {t : List zA} (h : i < zN 13) : z_rcv zN (zKD 241) (.inr (13, i) :: t) := by
  rw [show zKD 241 = 13 from rfl]
  exact ⟨rfl, h⟩
noncomputable def f_X12_sees_38 (x1 : Int32) (x2 : Int32) (x3 : Int32) (s1 : Int32) (m : zM) : Option (Bool × zM) :=
  if ((z_sI m 13 0 0 s1).1 13 0 0) = 0 then
    Option.bind (f_X12_isSeen x1 x2 x3 (z_sI m 13 0 0 s1)) fun r2 =>
    if (z_bi r2) = 0 then
      some (false, (z_sI m 13 0 0 s1))
    else
      some (true, (z_sI m 13 0 0 s1))
  else
    some (false, (z_sI m 13 0 0 s1))
noncomputable def f_X12_sees (x1 : Int32) (x2 : Int32) (x3 : Int32) (m : zM) : Option (Bool × zM) :=
  Option.bind (f_X12_isCell x1 m) fun r1 =>
  if (z_bi r1) = 0 then
    f_X12_sees_38 x1 x2 x3 (1 : Int32) m
  else
    Option.bind (f_X12_isCell x2 m) fun r3 =>
    if (z_bi r3) = 0 then
      f_X12_sees_38 x1 x2 x3 (1 : Int32) m
    else
      Option.bind (f_X12_in (Int32.toInt64 x3) (0 : Int64) (99 : Int64) m) fun r5 =>
      if (z_bi r5) = 0 then
        f_X12_sees_38 x1 x2 x3 (2 : Int32) m
      else
        f_X12_sees_38 x1 x2 x3 (0 : Int32) m
theorem w_X12_sees_38 (d k : Nat) {o : zO} {G : Nat → Nat → zL → List zA → zM → Prop} (R : zRu (d + 4) tX12_sees 1 (z_hf []) o G) (x1 : Int32) (x2 : Int32) (x3 : Int32) (s1 : Int32) (m : zM) : zLK G (fun a => (z_cB a.1, a.2) : Bool × zM → zO) o (f_X12_sees_38 x1 x2 x3 s1 m) some (k + 0) 38 [some (.inr (13, 0)), some (.inl (.int x1)), some (.inl (.int x2)), some (.inl (.int x3))] [.inl (.int s1), .inr (13, 0)] m := by
  unfold f_X12_sees_38
  refine zk_st R 3 45 [some (.inr (13, 0)), some (.inl (.int x1)), some (.inl (.int x2)), some (.inl (.int x3))] [.inl (.int ((z_sI m 13 0 0 s1).1 13 0 0))] (z_sI m 13 0 0 s1) rfl ⟨(Nat.le_of_ble_eq_true rfl), trivial, (Nat.le_of_ble_eq_true rfl), trivial⟩ ?_
  refine zk_br R rfl (fun _ => ?_) (fun _ => ?_)
  · refine zk_st R 4 52 [some (.inr (13, 0)), some (.inl (.int x1)), some (.inl (.int x2)), some (.inl (.int x3))] [.inl (.int x3), .inl (.int x2), .inl (.int x1), .inr (13, 0)] (z_sI m 13 0 0 s1) rfl ⟨trivial, trivial, trivial, trivial, trivial⟩ ?_
    refine zk_call R (fun b => some (.inl (.int (z_bi b)))) (fun _ => (z_sI m 13 0 0 s1)) rfl (r_X12_isSeen (Nat.le_of_ble_eq_true rfl)) (fun b hb => w_X12_isSeen d 0 x1 x2 x3 (z_sI m 13 0 0 s1) b hb) (fun r2 => ?_)
    refine zk_br R rfl (fun _ => ?_) (fun _ => ?_)
    · refine zk_st R 1 63 [some (.inr (13, 0)), some (.inl (.int x1)), some (.inl (.int x2)), some (.inl (.int x3))] [.inl (.int (0 : Int32))] (z_sI m 13 0 0 s1) rfl ⟨trivial, trivial⟩ ?_
      exact zk_ret R rfl (Or.inl rfl) rfl
    · refine zk_st R 2 63 [some (.inr (13, 0)), some (.inl (.int x1)), some (.inl (.int x2)), some (.inl (.int x3))] [.inl (.int (1 : Int32))] (z_sI m 13 0 0 s1) rfl ⟨trivial, trivial, trivial⟩ ?_
      exact zk_ret R rfl (Or.inr rfl) rfl
  · refine zk_st R 1 63 [some (.inr (13, 0)), some (.inl (.int x1)), some (.inl (.int x2)), some (.inl (.int x3))] [.inl (.int (0 : Int32))] (z_sI m 13 0 0 s1) rfl ⟨trivial, trivial⟩ ?_
    exact zk_ret R rfl (Or.inl rfl) rfl
theorem w_X12_sees (d k : Nat) (x1 : Int32) (x2 : Int32) (x3 : Int32) (m : zM) (a : Bool × zM) (ha : f_X12_sees x1 x2 x3 m = some a) : z_Ev z_MT zN zRf (d + 5) (k + 0) 241 [.inr (13, 0), .inl (.int x1), .inl (.int x2), .inl (.int x3)] m ((fun a => (z_cB a.1, a.2) : Bool × zM → zO) a) := by
  refine zk_top (I := (yX12_sees, cX12_sees, 4, (some .boolean), [], tX12_sees, 13, 3, 13, 0, 0, 0)) (oc := (fun a => (z_cB a.1, a.2) : Bool × zM → zO)) (a := a) rfl (Nat.le_of_ble_eq_true rfl) (fun G R => ?_) ha
  unfold f_X12_sees
  refine zk_st R 3 3 [some (.inr (13, 0)), some (.inl (.int x1)), some (.inl (.int x2)), some (.inl (.int x3))] [.inl (.int x1), .inr (13, 0), .inr (13, 0)] m rfl ⟨trivial, trivial, trivial, trivial⟩ ?_
  refine zk_call R (fun b => some (.inl (.int (z_bi b)))) (fun _ => m) rfl (r_X12_isCell (Nat.le_of_ble_eq_true rfl)) (fun b hb => w_X12_isCell (d + 2) 0 x1 m b hb) (fun r1 => ?_)
  refine zk_br R rfl (fun _ => ?_) (fun _ => ?_)
  · refine zk_st R 2 38 [some (.inr (13, 0)), some (.inl (.int x1)), some (.inl (.int x2)), some (.inl (.int x3))] [.inl (.int (1 : Int32)), .inr (13, 0)] m rfl ⟨trivial, trivial, trivial⟩ ?_
    refine zk_mask R [true, true, true, true] rfl ?_
    exact w_X12_sees_38 d k R x1 x2 x3 (1 : Int32) m
  · refine zk_st R 2 11 [some (.inr (13, 0)), some (.inl (.int x1)), some (.inl (.int x2)), some (.inl (.int x3))] [.inl (.int x2), .inr (13, 0), .inr (13, 0)] m rfl ⟨trivial, trivial, trivial⟩ ?_
    refine zk_call R (fun b => some (.inl (.int (z_bi b)))) (fun _ => m) rfl (r_X12_isCell (Nat.le_of_ble_eq_true rfl)) (fun b hb => w_X12_isCell (d + 2) 0 x2 m b hb) (fun r3 => ?_)
    refine zk_br R rfl (fun _ => ?_) (fun _ => ?_)
    · refine zk_st R 2 38 [some (.inr (13, 0)), some (.inl (.int x1)), some (.inl (.int x2)), some (.inl (.int x3))] [.inl (.int (1 : Int32)), .inr (13, 0)] m rfl ⟨trivial, trivial, trivial⟩ ?_
      refine zk_mask R [true, true, true, true] rfl ?_
      exact w_X12_sees_38 d k R x1 x2 x3 (1 : Int32) m
    · refine zk_st R 4 27 [some (.inr (13, 0)), some (.inl (.int x1)), some (.inl (.int x2)), some (.inl (.int x3))] [.inl (.long (99 : Int64)), .inl (.long (0 : Int64)), .inl (.long (Int32.toInt64 x3)), .inr (13, 0)] m rfl ⟨trivial, trivial, trivial, trivial, trivial⟩ ?_
      refine zk_call R (fun b => some (.inl (.int (z_bi b)))) (fun _ => m) rfl (r_X12_in) (fun b hb => w_X12_in (d + 3) 0 (Int32.toInt64 x3) (0 : Int64) (99 : Int64) m b hb) (fun r5 => ?_)
      refine zk_br R rfl (fun _ => ?_) (fun _ => ?_)
      · refine zk_st R 1 38 [some (.inr (13, 0)), some (.inl (.int x1)), some (.inl (.int x2)), some (.inl (.int x3))] [.inl (.int (2 : Int32)), .inr (13, 0)] m rfl ⟨trivial, trivial⟩ ?_
        refine zk_mask R [true, true, true, true] rfl ?_
        exact w_X12_sees_38 d k R x1 x2 x3 (2 : Int32) m
      · refine zk_st R 2 38 [some (.inr (13, 0)), some (.inl (.int x1)), some (.inl (.int x2)), some (.inl (.int x3))] [.inl (.int (0 : Int32)), .inr (13, 0)] m rfl ⟨trivial, trivial, trivial⟩ ?_
        refine zk_mask R [true, true, true, true] rfl ?_
        exact w_X12_sees_38 d k R x1 x2 x3 (0 : Int32) m
theorem r_X12_viewshed {i : Nat} {t : List zA} (h : i < zN 13) : z_rcv zN (zKD 242) (.inr (13, i) :: t) := by
  rw [show zKD 242 = 13 from rfl]
  exact ⟨rfl, h⟩
noncomputable def f_X12_viewshed_47 : Nat → Int32 → Int32 → Int64 → Int32 → zM → Option (Int64 × zM)
  | 0, _, _, _, _, _ => none
  | j + 1, x1, x2, x3, x5, m =>
    Option.bind (f_X12_cells m) fun r1 =>
    if r1 ≤ x5 then
      some (x3, m)
    else
      Option.bind (f_X12_isSeen x1 x5 x2 m) fun r3 =>
      if (z_bi r3) = 0 then
        f_X12_viewshed_47 j x1 x2 x3 (x5 + (1 : Int32)) m
      else
        f_X12_viewshed_47 j x1 x2 (x3 ||| (z_shl (1 : Int64) x5)) (x5 + (1 : Int32)) m
noncomputable def f_X12_viewshed_30 (x1 : Int32) (x2 : Int32) (s1 : Int32) (m : zM) : Option (Int64 × zM) :=
  if ((z_sI m 13 0 0 s1).1 13 0 0) ≤ 0 then
    f_X12_viewshed_47 zF x1 x2 (0 : Int64) (0 : Int32) (z_sI m 13 0 0 s1)
  else
    some ((0 : Int64), (z_sI m 13 0 0 s1))
noncomputable def f_X12_viewshed (x1 : Int32) (x2 : Int32) (m : zM) : Option (Int64 × zM) :=
  Option.bind (f_X12_isCell x1 m) fun r1 =>
  if (z_bi r1) = 0 then
    f_X12_viewshed_30 x1 x2 (1 : Int32) m
  else
    Option.bind (f_X12_in (Int32.toInt64 x2) (0 : Int64) (99 : Int64) m) fun r3 =>
    if (z_bi r3) = 0 then
      f_X12_viewshed_30 x1 x2 (2 : Int32) m
    else
      f_X12_viewshed_30 x1 x2 (0 : Int32) m
theorem w_X12_viewshed_47 (d k : Nat) {o : zO} {G : Nat → Nat → zL → List zA → zM → Prop} (R : zRu (d + 4) tX12_viewshed 0 (z_hf []) o G) : ∀ (j : Nat) (x1 : Int32) (x2 : Int32) (x3 : Int64) (x5 : Int32) (m : zM), zLK G (fun a => (z_cL a.1, a.2) : Int64 × zM → zO) o (f_X12_viewshed_47 j x1 x2 x3 x5 m) some (k + 0) 47 [some (.inr (13, 0)), some (.inl (.int x1)), some (.inl (.int x2)), some (.inl (.long x3)), none, some (.inl (.int x5))] [] m := by
  intro j
  induction j with
  | zero =>
    intro _ _ _ _ _
    exact zk_none
  | succ j ih =>
    intro x1 x2 x3 x5 m
    unfold f_X12_viewshed_47
    refine zk_st R 2 50 [some (.inr (13, 0)), some (.inl (.int x1)), some (.inl (.int x2)), some (.inl (.long x3)), none, some (.inl (.int x5))] [.inr (13, 0), .inl (.int x5)] m rfl ⟨trivial, trivial, trivial⟩ ?_
    refine zk_call R (fun b => some (.inl (.int b))) (fun _ => m) rfl (r_X12_cells (Nat.le_of_ble_eq_true rfl)) (fun b hb => w_X12_cells (d + 3) 0 m b hb) (fun r1 => ?_)
    refine zk_br R rfl (fun _ => ?_) (fun _ => ?_)
    · refine zk_st R 1 81 [some (.inr (13, 0)), some (.inl (.int x1)), some (.inl (.int x2)), some (.inl (.long x3)), none, some (.inl (.int x5))] [.inl (.long x3)] m rfl ⟨trivial, trivial⟩ ?_
      exact zk_ret R rfl trivial rfl
    · refine zk_st R 4 61 [some (.inr (13, 0)), some (.inl (.int x1)), some (.inl (.int x2)), some (.inl (.long x3)), none, some (.inl (.int x5))] [.inl (.int x2), .inl (.int x5), .inl (.int x1), .inr (13, 0)] m rfl ⟨trivial, trivial, trivial, trivial, trivial⟩ ?_
      refine zk_call R (fun b => some (.inl (.int (z_bi b)))) (fun _ => m) rfl (r_X12_isSeen (Nat.le_of_ble_eq_true rfl)) (fun b hb => w_X12_isSeen d 0 x1 x5 x2 m b hb) (fun r3 => ?_)
      refine zk_br R rfl (fun _ => ?_) (fun _ => ?_)
      · refine zk_st R 2 47 [some (.inr (13, 0)), some (.inl (.int x1)), some (.inl (.int x2)), some (.inl (.long x3)), none, some (.inl (.int (x5 + (1 : Int32))))] [] m rfl ⟨trivial, trivial, trivial⟩ ?_
        refine zk_mask R [true, true, true, true, false, true] rfl ?_
        exact ih x1 x2 x3 (x5 + (1 : Int32)) m
      · refine zk_st R 8 47 [some (.inr (13, 0)), some (.inl (.int x1)), some (.inl (.int x2)), some (.inl (.long (x3 ||| (z_shl (1 : Int64) x5)))), none, some (.inl (.int (x5 + (1 : Int32))))] [] m rfl ⟨trivial, trivial, trivial, trivial, trivial, trivial, trivial, trivial, trivial⟩ ?_
        refine zk_mask R [true, true, true, true, false, true] rfl ?_
        exact ih x1 x2 (x3 ||| (z_shl (1 : Int64) x5)) (x5 + (1 : Int32)) m
theorem w_X12_viewshed_30 (d k : Nat) {o : zO} {G : Nat → Nat → zL → List zA → zM → Prop} (R : zRu (d + 4) tX12_viewshed 0 (z_hf []) o G) (x1 : Int32) (x2 : Int32) (s1 : Int32) (m : zM) : zLK G (fun a => (z_cL a.1, a.2) : Int64 × zM → zO) o (f_X12_viewshed_30 x1 x2 s1 m) some (k + 0) 30 [some (.inr (13, 0)), some (.inl (.int x1)), some (.inl (.int x2)), none, none, none] [.inl (.int s1), .inr (13, 0)] m := by
  unfold f_X12_viewshed_30
  refine zk_st R 3 37 [some (.inr (13, 0)), some (.inl (.int x1)), some (.inl (.int x2)), none, none, none] [.inl (.int ((z_sI m 13 0 0 s1).1 13 0 0))] (z_sI m 13 0 0 s1) rfl ⟨(Nat.le_of_ble_eq_true rfl), trivial, (Nat.le_of_ble_eq_true rfl), trivial⟩ ?_
  refine zk_br R rfl (fun _ => ?_) (fun _ => ?_)
  · refine zk_st R 4 47 [some (.inr (13, 0)), some (.inl (.int x1)), some (.inl (.int x2)), some (.inl (.long (0 : Int64))), none, some (.inl (.int (0 : Int32)))] [] (z_sI m 13 0 0 s1) rfl ⟨trivial, trivial, trivial, trivial, trivial⟩ ?_
    refine zk_mask R [true, true, true, true, false, true] rfl ?_
    exact w_X12_viewshed_47 d k R zF x1 x2 (0 : Int64) (0 : Int32) (z_sI m 13 0 0 s1)
  · refine zk_st R 1 41 [some (.inr (13, 0)), some (.inl (.int x1)), some (.inl (.int x2)), none, none, none] [.inl (.long (0 : Int64))] (z_sI m 13 0 0 s1) rfl ⟨trivial, trivial⟩ ?_
    exact zk_ret R rfl trivial rfl
theorem w_X12_viewshed (d k : Nat) (x1 : Int32) (x2 : Int32) (m : zM) (a : Int64 × zM) (ha : f_X12_viewshed x1 x2 m = some a) : z_Ev z_MT zN zRf (d + 5) (k + 0) 242 [.inr (13, 0), .inl (.int x1), .inl (.int x2)] m ((fun a => (z_cL a.1, a.2) : Int64 × zM → zO) a) := by
  refine zk_top (I := (yX12_viewshed, cX12_viewshed, 6, (some .long), [], tX12_viewshed, 13, 2, 13, 0, 0, 0)) (oc := (fun a => (z_cL a.1, a.2) : Int64 × zM → zO)) (a := a) rfl (Nat.le_of_ble_eq_true rfl) (fun G R => ?_) ha
  unfold f_X12_viewshed
  refine zk_st R 3 3 [some (.inr (13, 0)), some (.inl (.int x1)), some (.inl (.int x2)), none, none, none] [.inl (.int x1), .inr (13, 0), .inr (13, 0)] m rfl ⟨trivial, trivial, trivial, trivial⟩ ?_
  refine zk_call R (fun b => some (.inl (.int (z_bi b)))) (fun _ => m) rfl (r_X12_isCell (Nat.le_of_ble_eq_true rfl)) (fun b hb => w_X12_isCell (d + 2) 0 x1 m b hb) (fun r1 => ?_)
  refine zk_br R rfl (fun _ => ?_) (fun _ => ?_)
  · refine zk_st R 2 30 [some (.inr (13, 0)), some (.inl (.int x1)), some (.inl (.int x2)), none, none, none] [.inl (.int (1 : Int32)), .inr (13, 0)] m rfl ⟨trivial, trivial, trivial⟩ ?_
    refine zk_mask R [true, true, true, false, false, false] rfl ?_
    exact w_X12_viewshed_30 d k R x1 x2 (1 : Int32) m
  · refine zk_st R 4 19 [some (.inr (13, 0)), some (.inl (.int x1)), some (.inl (.int x2)), none, none, none] [.inl (.long (99 : Int64)), .inl (.long (0 : Int64)), .inl (.long (Int32.toInt64 x2)), .inr (13, 0)] m rfl ⟨trivial, trivial, trivial, trivial, trivial⟩ ?_
    refine zk_call R (fun b => some (.inl (.int (z_bi b)))) (fun _ => m) rfl (r_X12_in) (fun b hb => w_X12_in (d + 3) 0 (Int32.toInt64 x2) (0 : Int64) (99 : Int64) m b hb) (fun r3 => ?_)
    refine zk_br R rfl (fun _ => ?_) (fun _ => ?_)
    · refine zk_st R 1 30 [some (.inr (13, 0)), some (.inl (.int x1)), some (.inl (.int x2)), none, none, none] [.inl (.int (2 : Int32)), .inr (13, 0)] m rfl ⟨trivial, trivial⟩ ?_
      refine zk_mask R [true, true, true, false, false, false] rfl ?_
      exact w_X12_viewshed_30 d k R x1 x2 (2 : Int32) m
    · refine zk_st R 2 30 [some (.inr (13, 0)), some (.inl (.int x1)), some (.inl (.int x2)), none, none, none] [.inl (.int (0 : Int32)), .inr (13, 0)] m rfl ⟨trivial, trivial, trivial⟩ ?_
      refine zk_mask R [true, true, true, false, false, false] rfl ?_
      exact w_X12_viewshed_30 d k R x1 x2 (0 : Int32) m
theorem r_L_resize {as : List zA} : z_rcv zN (zKD 258) as := by
  rw [show zKD 258 = 0 from rfl]
  trivial
noncomputable def f_L_resize (x1 : Int32) (x2 : Int32) (m : zM) : Option (Int32 × zM) :=
  z_bh (f_X11_resize x1 x2 m) (fun r1 m2 =>
  z_gd (z_inb (0 : Int32) (z_alen 32)) <| some ((0 : Int32), (z_sL m2 32 0 (Int32.toNatClampNeg (0 : Int32)) (Int32.toInt64 r1)))) (z_hf [(0, 10, 13, 13, 0, 1)] 5) id
theorem w_L_resize (d k : Nat) (x1 : Int32) (x2 : Int32) (m : zM) (a : Int32 × zM) (ha : f_L_resize x1 x2 m = some a) : z_Ev z_MT zN zRf (d + 5) (k + 2) 258 [.inr (12, 0), .inl (.int x1), .inl (.int x2), .inr (32, 0)] m ((fun a => (z_cI a.1, a.2) : Int32 × zM → zO) a) := by
  refine zk_top (I := (yL_resize, cL_resize, 5, (some .int), [(0, 10, 13, 13, 0, 1)], tL_resize, 0, 4, 0, 0, 0, 0)) (oc := (fun a => (z_cI a.1, a.2) : Int32 × zM → zO)) (a := a) rfl (Nat.le_of_ble_eq_true rfl) (fun G R => ?_) ha
  unfold f_L_resize
  refine zk_st R 5 5 [some (.inr (12, 0)), some (.inl (.int x1)), some (.inl (.int x2)), some (.inr (32, 0)), none] [.inl (.int x2), .inl (.int x1), .inr (12, 0), .inl (.int (0 : Int32)), .inr (32, 0)] m rfl ⟨trivial, trivial, trivial, trivial, trivial, trivial⟩ ?_
  refine zk_callh (cr := id) R (k + 0) 2 (fun r1 => some (.inl (.int r1))) rfl (r_X11_resize (Nat.le_of_ble_eq_true rfl)) (fun b m' hb => w_X11_resize d 0 x1 x2 m _ hb) (fun e m' hb => w_X11_resize d 0 x1 x2 m _ hb) (fun _ _ => rfl) (fun r1 m2 => ?_)
  refine zk_gd fun e3 => ?_
  refine zk_st R 4 18 [some (.inr (12, 0)), some (.inl (.int x1)), some (.inl (.int x2)), some (.inr (32, 0)), none] [.inl (.int (0 : Int32))] (z_sL m2 32 0 (Int32.toNatClampNeg (0 : Int32)) (Int32.toInt64 r1)) rfl ⟨trivial, ⟨(Nat.le_of_ble_eq_true rfl), z_inb_in e3⟩, trivial, trivial, trivial⟩ ?_
  exact zk_ret R rfl trivial rfl
theorem r_L_scatter {as : List zA} : z_rcv zN (zKD 259) as := by
  rw [show zKD 259 = 0 from rfl]
  trivial
noncomputable def f_L_scatter (x1 : Int32) (x2 : Int32) (m : zM) : Option (Int32 × zM) :=
  z_bh (f_X11_scatter x1 x2 m) (fun r1 m2 =>
  z_gd (z_inb (0 : Int32) (z_alen 32)) <| some ((0 : Int32), (z_sL m2 32 0 (Int32.toNatClampNeg (0 : Int32)) (Int32.toInt64 r1)))) (z_hf [(0, 10, 13, 13, 0, 1)] 5) id
theorem w_L_scatter (d k : Nat) (x1 : Int32) (x2 : Int32) (m : zM) (a : Int32 × zM) (ha : f_L_scatter x1 x2 m = some a) : z_Ev z_MT zN zRf (d + 5) (k + 1) 259 [.inr (12, 0), .inl (.int x1), .inl (.int x2), .inr (32, 0)] m ((fun a => (z_cI a.1, a.2) : Int32 × zM → zO) a) := by
  refine zk_top (I := (yL_scatter, cL_scatter, 5, (some .int), [(0, 10, 13, 13, 0, 1)], tL_scatter, 0, 4, 0, 0, 0, 0)) (oc := (fun a => (z_cI a.1, a.2) : Int32 × zM → zO)) (a := a) rfl (Nat.le_of_ble_eq_true rfl) (fun G R => ?_) ha
  unfold f_L_scatter
  refine zk_st R 5 5 [some (.inr (12, 0)), some (.inl (.int x1)), some (.inl (.int x2)), some (.inr (32, 0)), none] [.inl (.int x2), .inl (.int x1), .inr (12, 0), .inl (.int (0 : Int32)), .inr (32, 0)] m rfl ⟨trivial, trivial, trivial, trivial, trivial, trivial⟩ ?_
  refine zk_callh (cr := id) R (k + 0) 1 (fun r1 => some (.inl (.int r1))) rfl (r_X11_scatter (Nat.le_of_ble_eq_true rfl)) (fun b m' hb => w_X11_scatter d 0 x1 x2 m _ hb) (fun e m' hb => w_X11_scatter d 0 x1 x2 m _ hb) (fun _ _ => rfl) (fun r1 m2 => ?_)
  refine zk_gd fun e3 => ?_
  refine zk_st R 4 18 [some (.inr (12, 0)), some (.inl (.int x1)), some (.inl (.int x2)), some (.inr (32, 0)), none] [.inl (.int (0 : Int32))] (z_sL m2 32 0 (Int32.toNatClampNeg (0 : Int32)) (Int32.toInt64 r1)) rfl ⟨trivial, ⟨(Nat.le_of_ble_eq_true rfl), z_inb_in e3⟩, trivial, trivial, trivial⟩ ?_
  exact zk_ret R rfl trivial rfl
theorem r_L_setHeight {as : List zA} : z_rcv zN (zKD 260) as := by
  rw [show zKD 260 = 0 from rfl]
  trivial
noncomputable def f_L_setHeight (x1 : Int32) (x2 : Int32) (m : zM) : Option (Int32 × zM) :=
  z_bh (f_X11_setHeight x1 x2 m) (fun r1 m2 =>
  z_gd (z_inb (0 : Int32) (z_alen 32)) <| some ((0 : Int32), (z_sL m2 32 0 (Int32.toNatClampNeg (0 : Int32)) (Int32.toInt64 r1)))) (z_hf [(0, 10, 13, 21, 1, 1), (0, 10, 17, 13, 0, 2)] 5) id
theorem w_L_setHeight (d k : Nat) (x1 : Int32) (x2 : Int32) (m : zM) (a : Int32 × zM) (ha : f_L_setHeight x1 x2 m = some a) : z_Ev z_MT zN zRf (d + 5) (k + 2) 260 [.inr (12, 0), .inl (.int x1), .inl (.int x2), .inr (32, 0)] m ((fun a => (z_cI a.1, a.2) : Int32 × zM → zO) a) := by
  refine zk_top (I := (yL_setHeight, cL_setHeight, 5, (some .int), [(0, 10, 13, 21, 1, 1), (0, 10, 17, 13, 0, 2)], tL_setHeight, 0, 4, 0, 0, 0, 0)) (oc := (fun a => (z_cI a.1, a.2) : Int32 × zM → zO)) (a := a) rfl (Nat.le_of_ble_eq_true rfl) (fun G R => ?_) ha
  unfold f_L_setHeight
  refine zk_st R 5 5 [some (.inr (12, 0)), some (.inl (.int x1)), some (.inl (.int x2)), some (.inr (32, 0)), none] [.inl (.int x2), .inl (.int x1), .inr (12, 0), .inl (.int (0 : Int32)), .inr (32, 0)] m rfl ⟨trivial, trivial, trivial, trivial, trivial, trivial⟩ ?_
  refine zk_callh (cr := id) R (k + 0) 2 (fun r1 => some (.inl (.int r1))) rfl (r_X11_setHeight (Nat.le_of_ble_eq_true rfl)) (fun b m' hb => w_X11_setHeight d 0 x1 x2 m _ hb) (fun e m' hb => w_X11_setHeight d 0 x1 x2 m _ hb) (fun _ _ => rfl) (fun r1 m2 => ?_)
  refine zk_gd fun e3 => ?_
  refine zk_st R 4 22 [some (.inr (12, 0)), some (.inl (.int x1)), some (.inl (.int x2)), some (.inr (32, 0)), none] [.inl (.int (0 : Int32))] (z_sL m2 32 0 (Int32.toNatClampNeg (0 : Int32)) (Int32.toInt64 r1)) rfl ⟨trivial, ⟨(Nat.le_of_ble_eq_true rfl), z_inb_in e3⟩, trivial, trivial, trivial⟩ ?_
  exact zk_ret R rfl trivial rfl
theorem r_L_raise {as : List zA} : z_rcv zN (zKD 261) as := by
  rw [show zKD 261 = 0 from rfl]
  trivial
noncomputable def f_L_raise (x1 : Int32) (x2 : Int32) (x3 : Int32) (m : zM) : Option (Int32 × zM) :=
  z_bh (f_X11_raise x1 x2 x3 m) (fun r1 m2 =>
  z_gd (z_inb (0 : Int32) (z_alen 32)) <| some ((0 : Int32), (z_sL m2 32 0 (Int32.toNatClampNeg (0 : Int32)) (Int32.toInt64 r1)))) (z_hf [(0, 12, 15, 21, 1, 1), (0, 12, 19, 13, 0, 2)] 7) id
theorem w_L_raise (d k : Nat) (x1 : Int32) (x2 : Int32) (x3 : Int32) (m : zM) (a : Int32 × zM) (ha : f_L_raise x1 x2 x3 m = some a) : z_Ev z_MT zN zRf (d + 5) (k + 3) 261 [.inr (12, 0), .inl (.int x1), .inl (.int x2), .inl (.int x3), .inr (32, 0)] m ((fun a => (z_cI a.1, a.2) : Int32 × zM → zO) a) := by
  refine zk_top (I := (yL_raise, cL_raise, 6, (some .int), [(0, 12, 15, 21, 1, 1), (0, 12, 19, 13, 0, 2)], tL_raise, 0, 5, 0, 0, 0, 0)) (oc := (fun a => (z_cI a.1, a.2) : Int32 × zM → zO)) (a := a) rfl (Nat.le_of_ble_eq_true rfl) (fun G R => ?_) ha
  unfold f_L_raise
  refine zk_st R 6 7 [some (.inr (12, 0)), some (.inl (.int x1)), some (.inl (.int x2)), some (.inl (.int x3)), some (.inr (32, 0)), none] [.inl (.int x3), .inl (.int x2), .inl (.int x1), .inr (12, 0), .inl (.int (0 : Int32)), .inr (32, 0)] m rfl ⟨trivial, trivial, trivial, trivial, trivial, trivial, trivial⟩ ?_
  refine zk_callh (cr := id) R (k + 0) 3 (fun r1 => some (.inl (.int r1))) rfl (r_X11_raise (Nat.le_of_ble_eq_true rfl)) (fun b m' hb => w_X11_raise d 0 x1 x2 x3 m _ hb) (fun e m' hb => w_X11_raise d 0 x1 x2 x3 m _ hb) (fun _ _ => rfl) (fun r1 m2 => ?_)
  refine zk_gd fun e3 => ?_
  refine zk_st R 4 24 [some (.inr (12, 0)), some (.inl (.int x1)), some (.inl (.int x2)), some (.inl (.int x3)), some (.inr (32, 0)), none] [.inl (.int (0 : Int32))] (z_sL m2 32 0 (Int32.toNatClampNeg (0 : Int32)) (Int32.toInt64 r1)) rfl ⟨trivial, ⟨(Nat.le_of_ble_eq_true rfl), z_inb_in e3⟩, trivial, trivial, trivial⟩ ?_
  exact zk_ret R rfl trivial rfl
theorem r_L_setRain {as : List zA} : z_rcv zN (zKD 262) as := by
  rw [show zKD 262 = 0 from rfl]
  trivial
noncomputable def f_L_setRain (x1 : Int32) (x2 : Int32) (m : zM) : Option (Int32 × zM) :=
  z_bh (f_X11_setRain x1 x2 m) (fun r1 m2 =>
  z_gd (z_inb (0 : Int32) (z_alen 32)) <| some ((0 : Int32), (z_sL m2 32 0 (Int32.toNatClampNeg (0 : Int32)) (Int32.toInt64 r1)))) (z_hf [(0, 10, 13, 21, 1, 1), (0, 10, 17, 13, 0, 2)] 5) id
theorem w_L_setRain (d k : Nat) (x1 : Int32) (x2 : Int32) (m : zM) (a : Int32 × zM) (ha : f_L_setRain x1 x2 m = some a) : z_Ev z_MT zN zRf (d + 5) (k + 2) 262 [.inr (12, 0), .inl (.int x1), .inl (.int x2), .inr (32, 0)] m ((fun a => (z_cI a.1, a.2) : Int32 × zM → zO) a) := by
  refine zk_top (I := (yL_setRain, cL_setRain, 5, (some .int), [(0, 10, 13, 21, 1, 1), (0, 10, 17, 13, 0, 2)], tL_setRain, 0, 4, 0, 0, 0, 0)) (oc := (fun a => (z_cI a.1, a.2) : Int32 × zM → zO)) (a := a) rfl (Nat.le_of_ble_eq_true rfl) (fun G R => ?_) ha
  unfold f_L_setRain
  refine zk_st R 5 5 [some (.inr (12, 0)), some (.inl (.int x1)), some (.inl (.int x2)), some (.inr (32, 0)), none] [.inl (.int x2), .inl (.int x1), .inr (12, 0), .inl (.int (0 : Int32)), .inr (32, 0)] m rfl ⟨trivial, trivial, trivial, trivial, trivial, trivial⟩ ?_
  refine zk_callh (cr := id) R (k + 0) 2 (fun r1 => some (.inl (.int r1))) rfl (r_X11_setRain (Nat.le_of_ble_eq_true rfl)) (fun b m' hb => w_X11_setRain d 0 x1 x2 m _ hb) (fun e m' hb => w_X11_setRain d 0 x1 x2 m _ hb) (fun _ _ => rfl) (fun r1 m2 => ?_)
  refine zk_gd fun e3 => ?_
  refine zk_st R 4 22 [some (.inr (12, 0)), some (.inl (.int x1)), some (.inl (.int x2)), some (.inr (32, 0)), none] [.inl (.int (0 : Int32))] (z_sL m2 32 0 (Int32.toNatClampNeg (0 : Int32)) (Int32.toInt64 r1)) rfl ⟨trivial, ⟨(Nat.le_of_ble_eq_true rfl), z_inb_in e3⟩, trivial, trivial, trivial⟩ ?_
  exact zk_ret R rfl trivial rfl
theorem r_L_setSoak {as : List zA} : z_rcv zN (zKD 263) as := by
  rw [show zKD 263 = 0 from rfl]
  trivial
noncomputable def f_L_setSoak (x1 : Int32) (x2 : Int32) (m : zM) : Option (Int32 × zM) :=
  z_bh (f_X11_setSoak x1 x2 m) (fun r1 m2 =>
  z_gd (z_inb (0 : Int32) (z_alen 32)) <| some ((0 : Int32), (z_sL m2 32 0 (Int32.toNatClampNeg (0 : Int32)) (Int32.toInt64 r1)))) (z_hf [(0, 10, 13, 21, 1, 1), (0, 10, 17, 13, 0, 2)] 5) id
theorem w_L_setSoak (d k : Nat) (x1 : Int32) (x2 : Int32) (m : zM) (a : Int32 × zM) (ha : f_L_setSoak x1 x2 m = some a) : z_Ev z_MT zN zRf (d + 5) (k + 2) 263 [.inr (12, 0), .inl (.int x1), .inl (.int x2), .inr (32, 0)] m ((fun a => (z_cI a.1, a.2) : Int32 × zM → zO) a) := by
  refine zk_top (I := (yL_setSoak, cL_setSoak, 5, (some .int), [(0, 10, 13, 21, 1, 1), (0, 10, 17, 13, 0, 2)], tL_setSoak, 0, 4, 0, 0, 0, 0)) (oc := (fun a => (z_cI a.1, a.2) : Int32 × zM → zO)) (a := a) rfl (Nat.le_of_ble_eq_true rfl) (fun G R => ?_) ha
  unfold f_L_setSoak
  refine zk_st R 5 5 [some (.inr (12, 0)), some (.inl (.int x1)), some (.inl (.int x2)), some (.inr (32, 0)), none] [.inl (.int x2), .inl (.int x1), .inr (12, 0), .inl (.int (0 : Int32)), .inr (32, 0)] m rfl ⟨trivial, trivial, trivial, trivial, trivial, trivial⟩ ?_
  refine zk_callh (cr := id) R (k + 0) 2 (fun r1 => some (.inl (.int r1))) rfl (r_X11_setSoak (Nat.le_of_ble_eq_true rfl)) (fun b m' hb => w_X11_setSoak d 0 x1 x2 m _ hb) (fun e m' hb => w_X11_setSoak d 0 x1 x2 m _ hb) (fun _ _ => rfl) (fun r1 m2 => ?_)
  refine zk_gd fun e3 => ?_
  refine zk_st R 4 22 [some (.inr (12, 0)), some (.inl (.int x1)), some (.inl (.int x2)), some (.inr (32, 0)), none] [.inl (.int (0 : Int32))] (z_sL m2 32 0 (Int32.toNatClampNeg (0 : Int32)) (Int32.toInt64 r1)) rfl ⟨trivial, ⟨(Nat.le_of_ble_eq_true rfl), z_inb_in e3⟩, trivial, trivial, trivial⟩ ?_
  exact zk_ret R rfl trivial rfl
theorem r_L_setOutlet {as : List zA} : z_rcv zN (zKD 264) as := by
  rw [show zKD 264 = 0 from rfl]
  trivial
noncomputable def f_L_setOutlet_16 (s1 : Int32) (s2 : Int64) (m : zM) : Option (Int32 × zM) :=
  z_gd (z_inb s1 (z_alen 32)) <| some ((0 : Int32), (z_sL m 32 0 (Int32.toNatClampNeg s1) s2))
noncomputable def f_L_setOutlet (x1 : Int32) (x2 : Int32) (m : zM) : Option (Int32 × zM) :=
  z_bh (f_X11_setOutlet x1 x2 m) (fun r1 m2 =>
  if (z_bi r1) = 0 then
    f_L_setOutlet_16 (0 : Int32) (0 : Int64) m2
  else
    f_L_setOutlet_16 (0 : Int32) (1 : Int64) m2) (z_hf [(0, 17, 20, 21, 1, 1), (0, 17, 24, 37, 2, 2)] 5) id
theorem w_L_setOutlet_16 (d k : Nat) {o : zO} {G : Nat → Nat → zL → List zA → zM → Prop} (R : zRu (d + 4) tL_setOutlet 0 (z_hf [(0, 17, 20, 21, 1, 1), (0, 17, 24, 37, 2, 2)]) o G) (s1 : Int32) (s2 : Int64) (m : zM) : zLK G (fun a => (z_cI a.1, a.2) : Int32 × zM → zO) o (f_L_setOutlet_16 s1 s2 m) some (k + 0) 16 [none, none, none, none, none] [.inl (.long s2), .inl (.int s1), .inr (32, 0)] m := by
  unfold f_L_setOutlet_16
  refine zk_gd fun e1 => ?_
  refine zk_st R 3 29 [none, none, none, none, none] [.inl (.int (0 : Int32))] (z_sL m 32 0 (Int32.toNatClampNeg s1) s2) rfl ⟨⟨(Nat.le_of_ble_eq_true rfl), z_inb_in e1⟩, trivial, trivial, trivial⟩ ?_
  exact zk_ret R rfl trivial rfl
theorem w_L_setOutlet (d k : Nat) (x1 : Int32) (x2 : Int32) (m : zM) (a : Int32 × zM) (ha : f_L_setOutlet x1 x2 m = some a) : z_Ev z_MT zN zRf (d + 5) (k + 2) 264 [.inr (12, 0), .inl (.int x1), .inl (.int x2), .inr (32, 0)] m ((fun a => (z_cI a.1, a.2) : Int32 × zM → zO) a) := by
  refine zk_top (I := (yL_setOutlet, cL_setOutlet, 5, (some .int), [(0, 17, 20, 21, 1, 1), (0, 17, 24, 37, 2, 2)], tL_setOutlet, 0, 4, 0, 0, 0, 0)) (oc := (fun a => (z_cI a.1, a.2) : Int32 × zM → zO)) (a := a) rfl (Nat.le_of_ble_eq_true rfl) (fun G R => ?_) ha
  unfold f_L_setOutlet
  refine zk_st R 5 5 [some (.inr (12, 0)), some (.inl (.int x1)), some (.inl (.int x2)), some (.inr (32, 0)), none] [.inl (.int x2), .inl (.int x1), .inr (12, 0), .inl (.int (0 : Int32)), .inr (32, 0)] m rfl ⟨trivial, trivial, trivial, trivial, trivial, trivial⟩ ?_
  refine zk_callh (cr := id) R (k + 0) 2 (fun r1 => some (.inl (.int (z_bi r1)))) rfl (r_X11_setOutlet (Nat.le_of_ble_eq_true rfl)) (fun b m' hb => w_X11_setOutlet d 0 x1 x2 m _ hb) (fun e m' hb => w_X11_setOutlet d 0 x1 x2 m _ hb) (fun _ _ => rfl) (fun r1 m2 => ?_)
  refine zk_br R rfl (fun _ => ?_) (fun _ => ?_)
  · refine zk_st R 1 16 [some (.inr (12, 0)), some (.inl (.int x1)), some (.inl (.int x2)), some (.inr (32, 0)), none] [.inl (.long (0 : Int64)), .inl (.int (0 : Int32)), .inr (32, 0)] m2 rfl ⟨trivial, trivial⟩ ?_
    refine zk_mask R [false, false, false, false, false] rfl ?_
    exact w_L_setOutlet_16 d k R (0 : Int32) (0 : Int64) m2
  · refine zk_st R 2 16 [some (.inr (12, 0)), some (.inl (.int x1)), some (.inl (.int x2)), some (.inr (32, 0)), none] [.inl (.long (1 : Int64)), .inl (.int (0 : Int32)), .inr (32, 0)] m2 rfl ⟨trivial, trivial, trivial⟩ ?_
    refine zk_mask R [false, false, false, false, false] rfl ?_
    exact w_L_setOutlet_16 d k R (0 : Int32) (1 : Int64) m2
theorem r_L_setThreshold {as : List zA} : z_rcv zN (zKD 265) as := by
  rw [show zKD 265 = 0 from rfl]
  trivial
noncomputable def f_L_setThreshold (x1 : Int32) (m : zM) : Option (Int32 × zM) :=
  z_bh (f_X11_setThreshold x1 m) (fun r1 m2 =>
  z_gd (z_inb (0 : Int32) (z_alen 32)) <| some ((0 : Int32), (z_sL m2 32 0 (Int32.toNatClampNeg (0 : Int32)) (Int32.toInt64 r1)))) (z_hf [(0, 9, 12, 13, 0, 1)] 4) id
theorem w_L_setThreshold (d k : Nat) (x1 : Int32) (m : zM) (a : Int32 × zM) (ha : f_L_setThreshold x1 m = some a) : z_Ev z_MT zN zRf (d + 5) (k + 1) 265 [.inr (12, 0), .inl (.int x1), .inr (32, 0)] m ((fun a => (z_cI a.1, a.2) : Int32 × zM → zO) a) := by
  refine zk_top (I := (yL_setThreshold, cL_setThreshold, 4, (some .int), [(0, 9, 12, 13, 0, 1)], tL_setThreshold, 0, 3, 0, 0, 0, 0)) (oc := (fun a => (z_cI a.1, a.2) : Int32 × zM → zO)) (a := a) rfl (Nat.le_of_ble_eq_true rfl) (fun G R => ?_) ha
  unfold f_L_setThreshold
  refine zk_st R 4 4 [some (.inr (12, 0)), some (.inl (.int x1)), some (.inr (32, 0)), none] [.inl (.int x1), .inr (12, 0), .inl (.int (0 : Int32)), .inr (32, 0)] m rfl ⟨trivial, trivial, trivial, trivial, trivial⟩ ?_
  refine zk_callh (cr := id) R (k + 0) 1 (fun r1 => some (.inl (.int r1))) rfl (r_X11_setThreshold (Nat.le_of_ble_eq_true rfl)) (fun b m' hb => w_X11_setThreshold d 0 x1 m _ hb) (fun e m' hb => w_X11_setThreshold d 0 x1 m _ hb) (fun _ _ => rfl) (fun r1 m2 => ?_)
  refine zk_gd fun e3 => ?_
  refine zk_st R 4 16 [some (.inr (12, 0)), some (.inl (.int x1)), some (.inr (32, 0)), none] [.inl (.int (0 : Int32))] (z_sL m2 32 0 (Int32.toNatClampNeg (0 : Int32)) (Int32.toInt64 r1)) rfl ⟨trivial, ⟨(Nat.le_of_ble_eq_true rfl), z_inb_in e3⟩, trivial, trivial, trivial⟩ ?_
  exact zk_ret R rfl trivial rfl
theorem r_L_pools {as : List zA} : z_rcv zN (zKD 289) as := by
  rw [show zKD 289 = 0 from rfl]
  trivial
noncomputable def f_L_pools (x1 : Int32) (m : zM) : Option (Int32 × zM) :=
  z_bh (f_X11_pools x1 m) (fun r1 m2 =>
  z_gd (z_inb (0 : Int32) (z_alen 32)) <| some ((0 : Int32), (z_sL m2 32 0 (Int32.toNatClampNeg (0 : Int32)) r1))) (z_hf [(0, 8, 11, 13, 0, 1)] 4) id
theorem w_L_pools (d k : Nat) (x1 : Int32) (m : zM) (a : Int32 × zM) (ha : f_L_pools x1 m = some a) : z_Ev z_MT zN zRf (d + 5) (k + 1) 289 [.inr (12, 0), .inl (.int x1), .inr (32, 0)] m ((fun a => (z_cI a.1, a.2) : Int32 × zM → zO) a) := by
  refine zk_top (I := (yL_pools, cL_pools, 4, (some .int), [(0, 8, 11, 13, 0, 1)], tL_pools, 0, 3, 0, 0, 0, 0)) (oc := (fun a => (z_cI a.1, a.2) : Int32 × zM → zO)) (a := a) rfl (Nat.le_of_ble_eq_true rfl) (fun G R => ?_) ha
  unfold f_L_pools
  refine zk_st R 4 4 [some (.inr (12, 0)), some (.inl (.int x1)), some (.inr (32, 0)), none] [.inl (.int x1), .inr (12, 0), .inl (.int (0 : Int32)), .inr (32, 0)] m rfl ⟨trivial, trivial, trivial, trivial, trivial⟩ ?_
  refine zk_callh (cr := id) R (k + 0) 1 (fun r1 => some (.inl (.long r1))) rfl (r_X11_pools (Nat.le_of_ble_eq_true rfl)) (fun b m' hb => w_X11_pools d 0 x1 m _ hb) (fun e m' hb => w_X11_pools d 0 x1 m _ hb) (fun _ _ => rfl) (fun r1 m2 => ?_)
  refine zk_gd fun e3 => ?_
  refine zk_st R 3 15 [some (.inr (12, 0)), some (.inl (.int x1)), some (.inr (32, 0)), none] [.inl (.int (0 : Int32))] (z_sL m2 32 0 (Int32.toNatClampNeg (0 : Int32)) r1) rfl ⟨⟨(Nat.le_of_ble_eq_true rfl), z_inb_in e3⟩, trivial, trivial, trivial⟩ ?_
  exact zk_ret R rfl trivial rfl
theorem r_L_contour {as : List zA} : z_rcv zN (zKD 290) as := by
  rw [show zKD 290 = 0 from rfl]
  trivial
noncomputable def f_L_contour (x1 : Int32) (x2 : Int32) (m : zM) : Option (Int32 × zM) :=
  z_bh (f_X11_contour x1 x2 m) (fun r1 m2 =>
  z_gd (z_inb (0 : Int32) (z_alen 32)) <| some ((0 : Int32), (z_sL m2 32 0 (Int32.toNatClampNeg (0 : Int32)) (Int32.toInt64 r1)))) (z_hf [(0, 10, 13, 13, 0, 1)] 5) id
theorem w_L_contour (d k : Nat) (x1 : Int32) (x2 : Int32) (m : zM) (a : Int32 × zM) (ha : f_L_contour x1 x2 m = some a) : z_Ev z_MT zN zRf (d + 5) (k + 2) 290 [.inr (12, 0), .inl (.int x1), .inl (.int x2), .inr (32, 0)] m ((fun a => (z_cI a.1, a.2) : Int32 × zM → zO) a) := by
  refine zk_top (I := (yL_contour, cL_contour, 5, (some .int), [(0, 10, 13, 13, 0, 1)], tL_contour, 0, 4, 0, 0, 0, 0)) (oc := (fun a => (z_cI a.1, a.2) : Int32 × zM → zO)) (a := a) rfl (Nat.le_of_ble_eq_true rfl) (fun G R => ?_) ha
  unfold f_L_contour
  refine zk_st R 5 5 [some (.inr (12, 0)), some (.inl (.int x1)), some (.inl (.int x2)), some (.inr (32, 0)), none] [.inl (.int x2), .inl (.int x1), .inr (12, 0), .inl (.int (0 : Int32)), .inr (32, 0)] m rfl ⟨trivial, trivial, trivial, trivial, trivial, trivial⟩ ?_
  refine zk_callh (cr := id) R (k + 0) 2 (fun r1 => some (.inl (.int r1))) rfl (r_X11_contour (Nat.le_of_ble_eq_true rfl)) (fun b m' hb => w_X11_contour d 0 x1 x2 m _ hb) (fun e m' hb => w_X11_contour d 0 x1 x2 m _ hb) (fun _ _ => rfl) (fun r1 m2 => ?_)
  refine zk_gd fun e3 => ?_
  refine zk_st R 4 18 [some (.inr (12, 0)), some (.inl (.int x1)), some (.inl (.int x2)), some (.inr (32, 0)), none] [.inl (.int (0 : Int32))] (z_sL m2 32 0 (Int32.toNatClampNeg (0 : Int32)) (Int32.toInt64 r1)) rfl ⟨trivial, ⟨(Nat.le_of_ble_eq_true rfl), z_inb_in e3⟩, trivial, trivial, trivial⟩ ?_
  exact zk_ret R rfl trivial rfl
theorem r_L_sectionCell {as : List zA} : z_rcv zN (zKD 292) as := by
  rw [show zKD 292 = 0 from rfl]
  trivial
noncomputable def f_L_sectionCell (x1 : Int32) (x2 : Int32) (x3 : Int32) (m : zM) : Option (Int32 × zM) :=
  z_bh (f_X11_sectionCell x1 x2 x3 m) (fun r1 m2 =>
  z_gd (z_inb (0 : Int32) (z_alen 32)) <| some ((0 : Int32), (z_sL m2 32 0 (Int32.toNatClampNeg (0 : Int32)) (Int32.toInt64 r1)))) (z_hf [(0, 12, 15, 21, 1, 1), (0, 12, 19, 61, 3, 2)] 7) id
theorem w_L_sectionCell (d k : Nat) (x1 : Int32) (x2 : Int32) (x3 : Int32) (m : zM) (a : Int32 × zM) (ha : f_L_sectionCell x1 x2 x3 m = some a) : z_Ev z_MT zN zRf (d + 5) (k + 3) 292 [.inr (12, 0), .inl (.int x1), .inl (.int x2), .inl (.int x3), .inr (32, 0)] m ((fun a => (z_cI a.1, a.2) : Int32 × zM → zO) a) := by
  refine zk_top (I := (yL_sectionCell, cL_sectionCell, 6, (some .int), [(0, 12, 15, 21, 1, 1), (0, 12, 19, 61, 3, 2)], tL_sectionCell, 0, 5, 0, 0, 0, 0)) (oc := (fun a => (z_cI a.1, a.2) : Int32 × zM → zO)) (a := a) rfl (Nat.le_of_ble_eq_true rfl) (fun G R => ?_) ha
  unfold f_L_sectionCell
  refine zk_st R 6 7 [some (.inr (12, 0)), some (.inl (.int x1)), some (.inl (.int x2)), some (.inl (.int x3)), some (.inr (32, 0)), none] [.inl (.int x3), .inl (.int x2), .inl (.int x1), .inr (12, 0), .inl (.int (0 : Int32)), .inr (32, 0)] m rfl ⟨trivial, trivial, trivial, trivial, trivial, trivial, trivial⟩ ?_
  refine zk_callh (cr := id) R (k + 0) 3 (fun r1 => some (.inl (.int r1))) rfl (r_X11_sectionCell (Nat.le_of_ble_eq_true rfl)) (fun b m' hb => w_X11_sectionCell d 0 x1 x2 x3 m _ hb) (fun e m' hb => w_X11_sectionCell d 0 x1 x2 x3 m _ hb) (fun _ _ => rfl) (fun r1 m2 => ?_)
  refine zk_gd fun e3 => ?_
  refine zk_st R 4 24 [some (.inr (12, 0)), some (.inl (.int x1)), some (.inl (.int x2)), some (.inl (.int x3)), some (.inr (32, 0)), none] [.inl (.int (0 : Int32))] (z_sL m2 32 0 (Int32.toNatClampNeg (0 : Int32)) (Int32.toInt64 r1)) rfl ⟨trivial, ⟨(Nat.le_of_ble_eq_true rfl), z_inb_in e3⟩, trivial, trivial, trivial⟩ ?_
  exact zk_ret R rfl trivial rfl
theorem r_L_sees {as : List zA} : z_rcv zN (zKD 293) as := by
  rw [show zKD 293 = 0 from rfl]
  trivial
noncomputable def f_L_sees_18 (s1 : Int32) (s2 : Int64) (m : zM) : Option (Int32 × zM) :=
  z_gd (z_inb s1 (z_alen 32)) <| some ((0 : Int32), (z_sL m 32 0 (Int32.toNatClampNeg s1) s2))
noncomputable def f_L_sees (x1 : Int32) (x2 : Int32) (x3 : Int32) (m : zM) : Option (Int32 × zM) :=
  z_bh (f_X11_sees x1 x2 x3 m) (fun r1 m2 =>
  if (z_bi r1) = 0 then
    f_L_sees_18 (0 : Int32) (0 : Int64) m2
  else
    f_L_sees_18 (0 : Int32) (1 : Int64) m2) (z_hf [(0, 19, 22, 21, 1, 1), (0, 19, 26, 13, 0, 2)] 7) id
theorem w_L_sees_18 (d k : Nat) {o : zO} {G : Nat → Nat → zL → List zA → zM → Prop} (R : zRu (d + 4) tL_sees 0 (z_hf [(0, 19, 22, 21, 1, 1), (0, 19, 26, 13, 0, 2)]) o G) (s1 : Int32) (s2 : Int64) (m : zM) : zLK G (fun a => (z_cI a.1, a.2) : Int32 × zM → zO) o (f_L_sees_18 s1 s2 m) some (k + 0) 18 [none, none, none, none, none, none] [.inl (.long s2), .inl (.int s1), .inr (32, 0)] m := by
  unfold f_L_sees_18
  refine zk_gd fun e1 => ?_
  refine zk_st R 3 31 [none, none, none, none, none, none] [.inl (.int (0 : Int32))] (z_sL m 32 0 (Int32.toNatClampNeg s1) s2) rfl ⟨⟨(Nat.le_of_ble_eq_true rfl), z_inb_in e1⟩, trivial, trivial, trivial⟩ ?_
  exact zk_ret R rfl trivial rfl
theorem w_L_sees (d k : Nat) (x1 : Int32) (x2 : Int32) (x3 : Int32) (m : zM) (a : Int32 × zM) (ha : f_L_sees x1 x2 x3 m = some a) : z_Ev z_MT zN zRf (d + 5) (k + 3) 293 [.inr (12, 0), .inl (.int x1), .inl (.int x2), .inl (.int x3), .inr (32, 0)] m ((fun a => (z_cI a.1, a.2) : Int32 × zM → zO) a) := by
  refine zk_top (I := (yL_sees, cL_sees, 6, (some .int), [(0, 19, 22, 21, 1, 1), (0, 19, 26, 13, 0, 2)], tL_sees, 0, 5, 0, 0, 0, 0)) (oc := (fun a => (z_cI a.1, a.2) : Int32 × zM → zO)) (a := a) rfl (Nat.le_of_ble_eq_true rfl) (fun G R => ?_) ha
  unfold f_L_sees
  refine zk_st R 6 7 [some (.inr (12, 0)), some (.inl (.int x1)), some (.inl (.int x2)), some (.inl (.int x3)), some (.inr (32, 0)), none] [.inl (.int x3), .inl (.int x2), .inl (.int x1), .inr (12, 0), .inl (.int (0 : Int32)), .inr (32, 0)] m rfl ⟨trivial, trivial, trivial, trivial, trivial, trivial, trivial⟩ ?_
  refine zk_callh (cr := id) R (k + 0) 3 (fun r1 => some (.inl (.int (z_bi r1)))) rfl (r_X11_sees (Nat.le_of_ble_eq_true rfl)) (fun b m' hb => w_X11_sees d 0 x1 x2 x3 m _ hb) (fun e m' hb => w_X11_sees d 0 x1 x2 x3 m _ hb) (fun _ _ => rfl) (fun r1 m2 => ?_)
  refine zk_br R rfl (fun _ => ?_) (fun _ => ?_)
  · refine zk_st R 1 18 [some (.inr (12, 0)), some (.inl (.int x1)), some (.inl (.int x2)), some (.inl (.int x3)), some (.inr (32, 0)), none] [.inl (.long (0 : Int64)), .inl (.int (0 : Int32)), .inr (32, 0)] m2 rfl ⟨trivial, trivial⟩ ?_
    refine zk_mask R [false, false, false, false, false, false] rfl ?_
    exact w_L_sees_18 d k R (0 : Int32) (0 : Int64) m2
  · refine zk_st R 2 18 [some (.inr (12, 0)), some (.inl (.int x1)), some (.inl (.int x2)), some (.inl (.int x3)), some (.inr (32, 0)), none] [.inl (.long (1 : Int64)), .inl (.int (0 : Int32)), .inr (32, 0)] m2 rfl ⟨trivial, trivial, trivial⟩ ?_
    refine zk_mask R [false, false, false, false, false, false] rfl ?_
    exact w_L_sees_18 d k R (0 : Int32) (1 : Int64) m2
theorem r_L_viewshed {as : List zA} : z_rcv zN (zKD 294) as := by
  rw [show zKD 294 = 0 from rfl]
  trivial
noncomputable def f_L_viewshed (x1 : Int32) (x2 : Int32) (m : zM) : Option (Int32 × zM) :=
  z_bh (f_X11_viewshed x1 x2 m) (fun r1 m2 =>
  z_gd (z_inb (0 : Int32) (z_alen 32)) <| some ((0 : Int32), (z_sL m2 32 0 (Int32.toNatClampNeg (0 : Int32)) r1))) (z_hf [(0, 9, 12, 21, 1, 1), (0, 9, 16, 13, 0, 2)] 5) id
theorem w_L_viewshed (d k : Nat) (x1 : Int32) (x2 : Int32) (m : zM) (a : Int32 × zM) (ha : f_L_viewshed x1 x2 m = some a) : z_Ev z_MT zN zRf (d + 5) (k + 2) 294 [.inr (12, 0), .inl (.int x1), .inl (.int x2), .inr (32, 0)] m ((fun a => (z_cI a.1, a.2) : Int32 × zM → zO) a) := by
  refine zk_top (I := (yL_viewshed, cL_viewshed, 5, (some .int), [(0, 9, 12, 21, 1, 1), (0, 9, 16, 13, 0, 2)], tL_viewshed, 0, 4, 0, 0, 0, 0)) (oc := (fun a => (z_cI a.1, a.2) : Int32 × zM → zO)) (a := a) rfl (Nat.le_of_ble_eq_true rfl) (fun G R => ?_) ha
  unfold f_L_viewshed
  refine zk_st R 5 5 [some (.inr (12, 0)), some (.inl (.int x1)), some (.inl (.int x2)), some (.inr (32, 0)), none] [.inl (.int x2), .inl (.int x1), .inr (12, 0), .inl (.int (0 : Int32)), .inr (32, 0)] m rfl ⟨trivial, trivial, trivial, trivial, trivial, trivial⟩ ?_
  refine zk_callh (cr := id) R (k + 0) 2 (fun r1 => some (.inl (.long r1))) rfl (r_X11_viewshed (Nat.le_of_ble_eq_true rfl)) (fun b m' hb => w_X11_viewshed d 0 x1 x2 m _ hb) (fun e m' hb => w_X11_viewshed d 0 x1 x2 m _ hb) (fun _ _ => rfl) (fun r1 m2 => ?_)
  refine zk_gd fun e3 => ?_
  refine zk_st R 3 21 [some (.inr (12, 0)), some (.inl (.int x1)), some (.inl (.int x2)), some (.inr (32, 0)), none] [.inl (.int (0 : Int32))] (z_sL m2 32 0 (Int32.toNatClampNeg (0 : Int32)) r1) rfl ⟨⟨(Nat.le_of_ble_eq_true rfl), z_inb_in e3⟩, trivial, trivial, trivial⟩ ?_
  exact zk_ret R rfl trivial rfl
