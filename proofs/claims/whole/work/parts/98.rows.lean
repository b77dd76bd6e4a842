/-! Constructors that make rows alone. -/
theorem zw_oc : Cond.code objectInit ⟨#[0xb1]⟩ 1 none ∈ z_W := z_at1 36 rfl rfl
theorem zw_long : Cond.arrayClass (newarray.typeOf .long) ∈ z_W := (z_at1 175 rfl rfl)
theorem zw_char : Cond.arrayClass (newarray.typeOf .char) ∈ z_W := (z_at1 142 rfl rfl)
theorem zw_double : Cond.arrayClass (newarray.typeOf .double) ∈ z_W := (z_at9 2 rfl rfl)
set_option maxRecDepth 100000 in
set_option maxHeartbeats 4000000 in
theorem kX0_init (l : Launch) : zCon l yX0_init (Cond.code yX0_init cX0_init 1 none :: z_W) ({ frames := 1, cells := 3, slots := 192, locals := 12 } : Room) 2 [.null, .null, .null, .int 0, .int 0] (fun sz => [.ref (sz + 0), .ref (sz + 1), .ref (sz + 2), .int 0, .int 0]) (fun cs sz => [zrI cs 64 0, zrI cs 64 0, zrI cs 64 0]) := by
  refine zc_top (by decide) rfl rfl (Nat.le_of_ble_eq_true rfl) ?_
  intro dC dI cs a p e s m args below meth c ls X hr hml hlocks hl h
  refine zc_obj X (i0 := 3) hml hl (z_at2 89 rfl rfl) zw_oi zw_oc (Nat.le_of_ble_eq_true rfl) (Nat.le_of_ble_eq_true rfl) (by decide +kernel) (by decide +kernel) ?_
  refine lv_aload_n X.1 X.2.1 (show decode cX0_init 4 = .ok (.aload_n 0, 1) by decide +kernel) rfl (lv_at hl 0 rfl) ?_
  refine lv_bipush (n := 64) (v := 64) X.1 X.2.1 (show decode cX0_init 5 = .ok (.bipush (64), 2) by decide +kernel) (by decide) ?_
  refine zc_row X 20 (atype := .int) (N := 64) (by decide) rfl (fun _ h9 => by cases h9) zw_int (64, .inl (fun _ => 0)) (fun _ => rfl) (by decide) (by decide) (Nat.le_of_ble_eq_true rfl) (Nat.le_of_ble_eq_true rfl) (Nat.le_of_ble_eq_true rfl) (w := 112) (index := 9) (b := 0) rfl (fun _ => rfl) (fun _ => rfl) (Nat.le_of_ble_eq_true rfl) (by decide +kernel) (by decide +kernel) h ?_
  clear h
  intro H locs h
  have h : zSw dC dI 2 a [.ref (s.heap.size + 0), .null, .null, .int 0, .int 0] [zrI cs 64 0] s.heap H locs := h
  refine lv_aload_n X.1 X.2.1 (show decode cX0_init 12 = .ok (.aload_n 0, 1) by decide +kernel) rfl (lv_at hl 0 rfl) ?_
  refine lv_bipush (n := 64) (v := 64) X.1 X.2.1 (show decode cX0_init 13 = .ok (.bipush (64), 2) by decide +kernel) (by decide) ?_
  refine zc_row X 20 (atype := .int) (N := 64) (by decide) rfl (fun _ h9 => by cases h9) zw_int (64, .inl (fun _ => 0)) (fun _ => rfl) (by decide) (by decide) (Nat.le_of_ble_eq_true rfl) (Nat.le_of_ble_eq_true rfl) (Nat.le_of_ble_eq_true rfl) (w := 113) (index := 15) (b := 1) rfl (fun _ => rfl) (fun _ => rfl) (Nat.le_of_ble_eq_true rfl) (by decide +kernel) (by decide +kernel) h ?_
  clear h
  intro H locs h
  have h : zSw dC dI 2 a [.ref (s.heap.size + 0), .ref (s.heap.size + 1), .null, .int 0, .int 0] [zrI cs 64 0, zrI cs 64 0] s.heap H locs := h
  refine lv_aload_n X.1 X.2.1 (show decode cX0_init 20 = .ok (.aload_n 0, 1) by decide +kernel) rfl (lv_at hl 0 rfl) ?_
  refine lv_bipush (n := 64) (v := 64) X.1 X.2.1 (show decode cX0_init 21 = .ok (.bipush (64), 2) by decide +kernel) (by decide) ?_
  refine zc_row X 20 (atype := .int) (N := 64) (by decide) rfl (fun _ h9 => by cases h9) zw_int (64, .inl (fun _ => 0)) (fun _ => rfl) (by decide) (by decide) (Nat.le_of_ble_eq_true rfl) (Nat.le_of_ble_eq_true rfl) (Nat.le_of_ble_eq_true rfl) (w := 114) (index := 18) (b := 2) rfl (fun _ => rfl) (fun _ => rfl) (Nat.le_of_ble_eq_true rfl) (by decide +kernel) (by decide +kernel) h ?_
  clear h
  intro H locs h
  have h : zSw dC dI 2 a [.ref (s.heap.size + 0), .ref (s.heap.size + 1), .ref (s.heap.size + 2), .int 0, .int 0] [zrI cs 64 0, zrI cs 64 0, zrI cs 64 0] s.heap H locs := h
  exact zc_end X hr hlocks (Nat.le_of_ble_eq_true rfl) (Nat.le_of_ble_eq_true rfl) (by decide +kernel) h

set_option maxRecDepth 100000 in
set_option maxHeartbeats 4000000 in
theorem kX1_init (l : Launch) : zCon l yX1_init (Cond.code yX1_init cX1_init 1 none :: z_W) ({ frames := 1, cells := 5, slots := 640, locals := 12 } : Room) 3 [.int 0, .null, .null, .null, .null, .null] (fun sz => [.int 0, .ref (sz + 0), .ref (sz + 1), .ref (sz + 2), .ref (sz + 3), .ref (sz + 4)]) (fun cs sz => [zrI cs 128 0, zrI cs 128 0, zrI cs 128 0, zrL cs 128, zrL cs 128]) := by
  refine zc_top (by decide) rfl rfl (Nat.le_of_ble_eq_true rfl) ?_
  intro dC dI cs a p e s m args below meth c ls X hr hml hlocks hl h
  refine zc_obj X (i0 := 3) hml hl (z_at2 58 rfl rfl) zw_oi zw_oc (Nat.le_of_ble_eq_true rfl) (Nat.le_of_ble_eq_true rfl) (by decide +kernel) (by decide +kernel) ?_
  refine lv_aload_n X.1 X.2.1 (show decode cX1_init 4 = .ok (.aload_n 0, 1) by decide +kernel) rfl (lv_at hl 0 rfl) ?_
  refine lv_sipush (n := 128) (v := 128) X.1 X.2.1 (show decode cX1_init 5 = .ok (.sipush (128), 3) by decide +kernel) (by decide) ?_
  refine zc_row X 20 (atype := .int) (N := 128) (by decide) rfl (fun _ h9 => by cases h9) zw_int (128, .inl (fun _ => 0)) (fun _ => rfl) (by decide) (by decide) (Nat.le_of_ble_eq_true rfl) (Nat.le_of_ble_eq_true rfl) (Nat.le_of_ble_eq_true rfl) (w := 102) (index := 11) (b := 1) rfl (fun _ => rfl) (fun _ => rfl) (Nat.le_of_ble_eq_true rfl) (by decide +kernel) (by decide +kernel) h ?_
  clear h
  intro H locs h
  have h : zSw dC dI 3 a [.int 0, .ref (s.heap.size + 0), .null, .null, .null, .null] [zrI cs 128 0] s.heap H locs := h
  refine lv_aload_n X.1 X.2.1 (show decode cX1_init 13 = .ok (.aload_n 0, 1) by decide +kernel) rfl (lv_at hl 0 rfl) ?_
  refine lv_sipush (n := 128) (v := 128) X.1 X.2.1 (show decode cX1_init 14 = .ok (.sipush (128), 3) by decide +kernel) (by decide) ?_
  refine zc_row X 20 (atype := .int) (N := 128) (by decide) rfl (fun _ h9 => by cases h9) zw_int (128, .inl (fun _ => 0)) (fun _ => rfl) (by decide) (by decide) (Nat.le_of_ble_eq_true rfl) (Nat.le_of_ble_eq_true rfl) (Nat.le_of_ble_eq_true rfl) (w := 104) (index := 15) (b := 2) rfl (fun _ => rfl) (fun _ => rfl) (Nat.le_of_ble_eq_true rfl) (by decide +kernel) (by decide +kernel) h ?_
  clear h
  intro H locs h
  have h : zSw dC dI 3 a [.int 0, .ref (s.heap.size + 0), .ref (s.heap.size + 1), .null, .null, .null] [zrI cs 128 0, zrI cs 128 0] s.heap H locs := h
  refine lv_aload_n X.1 X.2.1 (show decode cX1_init 22 = .ok (.aload_n 0, 1) by decide +kernel) rfl (lv_at hl 0 rfl) ?_
  refine lv_sipush (n := 128) (v := 128) X.1 X.2.1 (show decode cX1_init 23 = .ok (.sipush (128), 3) by decide +kernel) (by decide) ?_
  refine zc_row X 20 (atype := .int) (N := 128) (by decide) rfl (fun _ h9 => by cases h9) zw_int (128, .inl (fun _ => 0)) (fun _ => rfl) (by decide) (by decide) (Nat.le_of_ble_eq_true rfl) (Nat.le_of_ble_eq_true rfl) (Nat.le_of_ble_eq_true rfl) (w := 106) (index := 18) (b := 3) rfl (fun _ => rfl) (fun _ => rfl) (Nat.le_of_ble_eq_true rfl) (by decide +kernel) (by decide +kernel) h ?_
  clear h
  intro H locs h
  have h : zSw dC dI 3 a [.int 0, .ref (s.heap.size + 0), .ref (s.heap.size + 1), .ref (s.heap.size + 2), .null, .null] [zrI cs 128 0, zrI cs 128 0, zrI cs 128 0] s.heap H locs := h
  refine lv_aload_n X.1 X.2.1 (show decode cX1_init 31 = .ok (.aload_n 0, 1) by decide +kernel) rfl (lv_at hl 0 rfl) ?_
  refine lv_sipush (n := 128) (v := 128) X.1 X.2.1 (show decode cX1_init 32 = .ok (.sipush (128), 3) by decide +kernel) (by decide) ?_
  refine zc_row X 30 (atype := .long) (N := 128) (by decide) rfl (fun _ h9 => by cases h9) zw_long (128, .inr (.inl (fun _ => 0))) (fun _ => rfl) (by decide) (by decide) (Nat.le_of_ble_eq_true rfl) (Nat.le_of_ble_eq_true rfl) (Nat.le_of_ble_eq_true rfl) (w := 108) (index := 21) (b := 4) rfl (fun _ => rfl) (fun _ => rfl) (Nat.le_of_ble_eq_true rfl) (by decide +kernel) (by decide +kernel) h ?_
  clear h
  intro H locs h
  have h : zSw dC dI 3 a [.int 0, .ref (s.heap.size + 0), .ref (s.heap.size + 1), .ref (s.heap.size + 2), .ref (s.heap.size + 3), .null] [zrI cs 128 0, zrI cs 128 0, zrI cs 128 0, zrL cs 128] s.heap H locs := h
  refine lv_aload_n X.1 X.2.1 (show decode cX1_init 40 = .ok (.aload_n 0, 1) by decide +kernel) rfl (lv_at hl 0 rfl) ?_
  refine lv_sipush (n := 128) (v := 128) X.1 X.2.1 (show decode cX1_init 41 = .ok (.sipush (128), 3) by decide +kernel) (by decide) ?_
  refine zc_row X 30 (atype := .long) (N := 128) (by decide) rfl (fun _ h9 => by cases h9) zw_long (128, .inr (.inl (fun _ => 0))) (fun _ => rfl) (by decide) (by decide) (Nat.le_of_ble_eq_true rfl) (Nat.le_of_ble_eq_true rfl) (Nat.le_of_ble_eq_true rfl) (w := 110) (index := 25) (b := 5) rfl (fun _ => rfl) (fun _ => rfl) (Nat.le_of_ble_eq_true rfl) (by decide +kernel) (by decide +kernel) h ?_
  clear h
  intro H locs h
  have h : zSw dC dI 3 a [.int 0, .ref (s.heap.size + 0), .ref (s.heap.size + 1), .ref (s.heap.size + 2), .ref (s.heap.size + 3), .ref (s.heap.size + 4)] [zrI cs 128 0, zrI cs 128 0, zrI cs 128 0, zrL cs 128, zrL cs 128] s.heap H locs := h
  exact zc_end X hr hlocks (Nat.le_of_ble_eq_true rfl) (Nat.le_of_ble_eq_true rfl) (by decide +kernel) h

set_option maxRecDepth 100000 in
set_option maxHeartbeats 4000000 in
theorem kX2_init (l : Launch) : zCon l yX2_init (Cond.code yX2_init cX2_init 1 none :: z_W) ({ frames := 1, cells := 4, slots := 256, locals := 12 } : Room) 4 [.null, .null, .null, .null, .int 0, .long 0] (fun sz => [.ref (sz + 0), .ref (sz + 1), .ref (sz + 2), .ref (sz + 3), .int 0, .long 0]) (fun cs sz => [zrI cs 64 0, zrI cs 64 0, zrI cs 64 0, zrL cs 64]) := by
  refine zc_top (by decide) rfl rfl (Nat.le_of_ble_eq_true rfl) ?_
  intro dC dI cs a p e s m args below meth c ls X hr hml hlocks hl h
  refine zc_obj X (i0 := 3) hml hl (z_at1 148 rfl rfl) zw_oi zw_oc (Nat.le_of_ble_eq_true rfl) (Nat.le_of_ble_eq_true rfl) (by decide +kernel) (by decide +kernel) ?_
  refine lv_aload_n X.1 X.2.1 (show decode cX2_init 4 = .ok (.aload_n 0, 1) by decide +kernel) rfl (lv_at hl 0 rfl) ?_
  refine lv_bipush (n := 64) (v := 64) X.1 X.2.1 (show decode cX2_init 5 = .ok (.bipush (64), 2) by decide +kernel) (by decide) ?_
  refine zc_row X 20 (atype := .int) (N := 64) (by decide) rfl (fun _ h9 => by cases h9) zw_int (64, .inl (fun _ => 0)) (fun _ => rfl) (by decide) (by decide) (Nat.le_of_ble_eq_true rfl) (Nat.le_of_ble_eq_true rfl) (Nat.le_of_ble_eq_true rfl) (w := 39) (index := 9) (b := 0) rfl (fun _ => rfl) (fun _ => rfl) (Nat.le_of_ble_eq_true rfl) (by decide +kernel) (by decide +kernel) h ?_
  clear h
  intro H locs h
  have h : zSw dC dI 4 a [.ref (s.heap.size + 0), .null, .null, .null, .int 0, .long 0] [zrI cs 64 0] s.heap H locs := h
  refine lv_aload_n X.1 X.2.1 (show decode cX2_init 12 = .ok (.aload_n 0, 1) by decide +kernel) rfl (lv_at hl 0 rfl) ?_
  refine lv_bipush (n := 64) (v := 64) X.1 X.2.1 (show decode cX2_init 13 = .ok (.bipush (64), 2) by decide +kernel) (by decide) ?_
  refine zc_row X 20 (atype := .int) (N := 64) (by decide) rfl (fun _ h9 => by cases h9) zw_int (64, .inl (fun _ => 0)) (fun _ => rfl) (by decide) (by decide) (Nat.le_of_ble_eq_true rfl) (Nat.le_of_ble_eq_true rfl) (Nat.le_of_ble_eq_true rfl) (w := 42) (index := 15) (b := 1) rfl (fun _ => rfl) (fun _ => rfl) (Nat.le_of_ble_eq_true rfl) (by decide +kernel) (by decide +kernel) h ?_
  clear h
  intro H locs h
  have h : zSw dC dI 4 a [.ref (s.heap.size + 0), .ref (s.heap.size + 1), .null, .null, .int 0, .long 0] [zrI cs 64 0, zrI cs 64 0] s.heap H locs := h
  refine lv_aload_n X.1 X.2.1 (show decode cX2_init 20 = .ok (.aload_n 0, 1) by decide +kernel) rfl (lv_at hl 0 rfl) ?_
  refine lv_bipush (n := 64) (v := 64) X.1 X.2.1 (show decode cX2_init 21 = .ok (.bipush (64), 2) by decide +kernel) (by decide) ?_
  refine zc_row X 20 (atype := .int) (N := 64) (by decide) rfl (fun _ h9 => by cases h9) zw_int (64, .inl (fun _ => 0)) (fun _ => rfl) (by decide) (by decide) (Nat.le_of_ble_eq_true rfl) (Nat.le_of_ble_eq_true rfl) (Nat.le_of_ble_eq_true rfl) (w := 44) (index := 18) (b := 2) rfl (fun _ => rfl) (fun _ => rfl) (Nat.le_of_ble_eq_true rfl) (by decide +kernel) (by decide +kernel) h ?_
  clear h
  intro H locs h
  have h : zSw dC dI 4 a [.ref (s.heap.size + 0), .ref (s.heap.size + 1), .ref (s.heap.size + 2), .null, .int 0, .long 0] [zrI cs 64 0, zrI cs 64 0, zrI cs 64 0] s.heap H locs := h
  refine lv_aload_n X.1 X.2.1 (show decode cX2_init 28 = .ok (.aload_n 0, 1) by decide +kernel) rfl (lv_at hl 0 rfl) ?_
  refine lv_bipush (n := 64) (v := 64) X.1 X.2.1 (show decode cX2_init 29 = .ok (.bipush (64), 2) by decide +kernel) (by decide) ?_
  refine zc_row X 30 (atype := .long) (N := 64) (by decide) rfl (fun _ h9 => by cases h9) zw_long (64, .inr (.inl (fun _ => 0))) (fun _ => rfl) (by decide) (by decide) (Nat.le_of_ble_eq_true rfl) (Nat.le_of_ble_eq_true rfl) (Nat.le_of_ble_eq_true rfl) (w := 46) (index := 21) (b := 3) rfl (fun _ => rfl) (fun _ => rfl) (Nat.le_of_ble_eq_true rfl) (by decide +kernel) (by decide +kernel) h ?_
  clear h
  intro H locs h
  have h : zSw dC dI 4 a [.ref (s.heap.size + 0), .ref (s.heap.size + 1), .ref (s.heap.size + 2), .ref (s.heap.size + 3), .int 0, .long 0] [zrI cs 64 0, zrI cs 64 0, zrI cs 64 0, zrL cs 64] s.heap H locs := h
  exact zc_end X hr hlocks (Nat.le_of_ble_eq_true rfl) (Nat.le_of_ble_eq_true rfl) (by decide +kernel) h

set_option maxRecDepth 100000 in
set_option maxHeartbeats 4000000 in
theorem kX3_init (l : Launch) : zCon l yX3_init (Cond.code yX3_init cX3_init 1 none :: z_W) ({ frames := 1, cells := 8, slots := 512, locals := 12 } : Room) 5 [.int 0, .long 0, .null, .null, .null, .null, .null, .null, .null, .null] (fun sz => [.int 0, .long 0, .ref (sz + 0), .ref (sz + 1), .ref (sz + 2), .ref (sz + 3), .ref (sz + 4), .ref (sz + 5), .ref (sz + 6), .ref (sz + 7)]) (fun cs sz => [zrI cs 64 0, zrI cs 64 0, zrI cs 64 0, zrI cs 64 0, zrI cs 64 0, zrI cs 64 0, zrI cs 64 0, zrI cs 64 0]) := by
  refine zc_top (by decide) rfl rfl (Nat.le_of_ble_eq_true rfl) ?_
  intro dC dI cs a p e s m args below meth c ls X hr hml hlocks hl h
  refine zc_obj X (i0 := 3) hml hl (z_at1 181 rfl rfl) zw_oi zw_oc (Nat.le_of_ble_eq_true rfl) (Nat.le_of_ble_eq_true rfl) (by decide +kernel) (by decide +kernel) ?_
  refine lv_aload_n X.1 X.2.1 (show decode cX3_init 4 = .ok (.aload_n 0, 1) by decide +kernel) rfl (lv_at hl 0 rfl) ?_
  refine lv_bipush (n := 64) (v := 64) X.1 X.2.1 (show decode cX3_init 5 = .ok (.bipush (64), 2) by decide +kernel) (by decide) ?_
  refine zc_row X 20 (atype := .int) (N := 64) (by decide) rfl (fun _ h9 => by cases h9) zw_int (64, .inl (fun _ => 0)) (fun _ => rfl) (by decide) (by decide) (Nat.le_of_ble_eq_true rfl) (Nat.le_of_ble_eq_true rfl) (Nat.le_of_ble_eq_true rfl) (w := 57) (index := 9) (b := 2) rfl (fun _ => rfl) (fun _ => rfl) (Nat.le_of_ble_eq_true rfl) (by decide +kernel) (by decide +kernel) h ?_
  clear h
  intro H locs h
  have h : zSw dC dI 5 a [.int 0, .long 0, .ref (s.heap.size + 0), .null, .null, .null, .null, .null, .null, .null] [zrI cs 64 0] s.heap H locs := h
  refine lv_aload_n X.1 X.2.1 (show decode cX3_init 12 = .ok (.aload_n 0, 1) by decide +kernel) rfl (lv_at hl 0 rfl) ?_
  refine lv_bipush (n := 64) (v := 64) X.1 X.2.1 (show decode cX3_init 13 = .ok (.bipush (64), 2) by decide +kernel) (by decide) ?_
  refine zc_row X 20 (atype := .int) (N := 64) (by decide) rfl (fun _ h9 => by cases h9) zw_int (64, .inl (fun _ => 0)) (fun _ => rfl) (by decide) (by decide) (Nat.le_of_ble_eq_true rfl) (Nat.le_of_ble_eq_true rfl) (Nat.le_of_ble_eq_true rfl) (w := 59) (index := 15) (b := 3) rfl (fun _ => rfl) (fun _ => rfl) (Nat.le_of_ble_eq_true rfl) (by decide +kernel) (by decide +kernel) h ?_
  clear h
  intro H locs h
  have h : zSw dC dI 5 a [.int 0, .long 0, .ref (s.heap.size + 0), .ref (s.heap.size + 1), .null, .null, .null, .null, .null, .null] [zrI cs 64 0, zrI cs 64 0] s.heap H locs := h
  refine lv_aload_n X.1 X.2.1 (show decode cX3_init 20 = .ok (.aload_n 0, 1) by decide +kernel) rfl (lv_at hl 0 rfl) ?_
  refine lv_bipush (n := 64) (v := 64) X.1 X.2.1 (show decode cX3_init 21 = .ok (.bipush (64), 2) by decide +kernel) (by decide) ?_
  refine zc_row X 20 (atype := .int) (N := 64) (by decide) rfl (fun _ h9 => by cases h9) zw_int (64, .inl (fun _ => 0)) (fun _ => rfl) (by decide) (by decide) (Nat.le_of_ble_eq_true rfl) (Nat.le_of_ble_eq_true rfl) (Nat.le_of_ble_eq_true rfl) (w := 61) (index := 18) (b := 4) rfl (fun _ => rfl) (fun _ => rfl) (Nat.le_of_ble_eq_true rfl) (by decide +kernel) (by decide +kernel) h ?_
  clear h
  intro H locs h
  have h : zSw dC dI 5 a [.int 0, .long 0, .ref (s.heap.size + 0), .ref (s.heap.size + 1), .ref (s.heap.size + 2), .null, .null, .null, .null, .null] [zrI cs 64 0, zrI cs 64 0, zrI cs 64 0] s.heap H locs := h
  refine lv_aload_n X.1 X.2.1 (show decode cX3_init 28 = .ok (.aload_n 0, 1) by decide +kernel) rfl (lv_at hl 0 rfl) ?_
  refine lv_bipush (n := 64) (v := 64) X.1 X.2.1 (show decode cX3_init 29 = .ok (.bipush (64), 2) by decide +kernel) (by decide) ?_
  refine zc_row X 20 (atype := .int) (N := 64) (by decide) rfl (fun _ h9 => by cases h9) zw_int (64, .inl (fun _ => 0)) (fun _ => rfl) (by decide) (by decide) (Nat.le_of_ble_eq_true rfl) (Nat.le_of_ble_eq_true rfl) (Nat.le_of_ble_eq_true rfl) (w := 63) (index := 21) (b := 5) rfl (fun _ => rfl) (fun _ => rfl) (Nat.le_of_ble_eq_true rfl) (by decide +kernel) (by decide +kernel) h ?_
  clear h
  intro H locs h
  have h : zSw dC dI 5 a [.int 0, .long 0, .ref (s.heap.size + 0), .ref (s.heap.size + 1), .ref (s.heap.size + 2), .ref (s.heap.size + 3), .null, .null, .null, .null] [zrI cs 64 0, zrI cs 64 0, zrI cs 64 0, zrI cs 64 0] s.heap H locs := h
  refine lv_aload_n X.1 X.2.1 (show decode cX3_init 36 = .ok (.aload_n 0, 1) by decide +kernel) rfl (lv_at hl 0 rfl) ?_
  refine lv_bipush (n := 64) (v := 64) X.1 X.2.1 (show decode cX3_init 37 = .ok (.bipush (64), 2) by decide +kernel) (by decide) ?_
  refine zc_row X 20 (atype := .int) (N := 64) (by decide) rfl (fun _ h9 => by cases h9) zw_int (64, .inl (fun _ => 0)) (fun _ => rfl) (by decide) (by decide) (Nat.le_of_ble_eq_true rfl) (Nat.le_of_ble_eq_true rfl) (Nat.le_of_ble_eq_true rfl) (w := 66) (index := 24) (b := 6) rfl (fun _ => rfl) (fun _ => rfl) (Nat.le_of_ble_eq_true rfl) (by decide +kernel) (by decide +kernel) h ?_
  clear h
  intro H locs h
  have h : zSw dC dI 5 a [.int 0, .long 0, .ref (s.heap.size + 0), .ref (s.heap.size + 1), .ref (s.heap.size + 2), .ref (s.heap.size + 3), .ref (s.heap.size + 4), .null, .null, .null] [zrI cs 64 0, zrI cs 64 0, zrI cs 64 0, zrI cs 64 0, zrI cs 64 0] s.heap H locs := h
  refine lv_aload_n X.1 X.2.1 (show decode cX3_init 44 = .ok (.aload_n 0, 1) by decide +kernel) rfl (lv_at hl 0 rfl) ?_
  refine lv_bipush (n := 64) (v := 64) X.1 X.2.1 (show decode cX3_init 45 = .ok (.bipush (64), 2) by decide +kernel) (by decide) ?_
  refine zc_row X 20 (atype := .int) (N := 64) (by decide) rfl (fun _ h9 => by cases h9) zw_int (64, .inl (fun _ => 0)) (fun _ => rfl) (by decide) (by decide) (Nat.le_of_ble_eq_true rfl) (Nat.le_of_ble_eq_true rfl) (Nat.le_of_ble_eq_true rfl) (w := 69) (index := 27) (b := 7) rfl (fun _ => rfl) (fun _ => rfl) (Nat.le_of_ble_eq_true rfl) (by decide +kernel) (by decide +kernel) h ?_
  clear h
  intro H locs h
  have h : zSw dC dI 5 a [.int 0, .long 0, .ref (s.heap.size + 0), .ref (s.heap.size + 1), .ref (s.heap.size + 2), .ref (s.heap.size + 3), .ref (s.heap.size + 4), .ref (s.heap.size + 5), .null, .null] [zrI cs 64 0, zrI cs 64 0, zrI cs 64 0, zrI cs 64 0, zrI cs 64 0, zrI cs 64 0] s.heap H locs := h
  refine lv_aload_n X.1 X.2.1 (show decode cX3_init 52 = .ok (.aload_n 0, 1) by decide +kernel) rfl (lv_at hl 0 rfl) ?_
  refine lv_bipush (n := 64) (v := 64) X.1 X.2.1 (show decode cX3_init 53 = .ok (.bipush (64), 2) by decide +kernel) (by decide) ?_
  refine zc_row X 20 (atype := .int) (N := 64) (by decide) rfl (fun _ h9 => by cases h9) zw_int (64, .inl (fun _ => 0)) (fun _ => rfl) (by decide) (by decide) (Nat.le_of_ble_eq_true rfl) (Nat.le_of_ble_eq_true rfl) (Nat.le_of_ble_eq_true rfl) (w := 70) (index := 30) (b := 8) rfl (fun _ => rfl) (fun _ => rfl) (Nat.le_of_ble_eq_true rfl) (by decide +kernel) (by decide +kernel) h ?_
  clear h
  intro H locs h
  have h : zSw dC dI 5 a [.int 0, .long 0, .ref (s.heap.size + 0), .ref (s.heap.size + 1), .ref (s.heap.size + 2), .ref (s.heap.size + 3), .ref (s.heap.size + 4), .ref (s.heap.size + 5), .ref (s.heap.size + 6), .null] [zrI cs 64 0, zrI cs 64 0, zrI cs 64 0, zrI cs 64 0, zrI cs 64 0, zrI cs 64 0, zrI cs 64 0] s.heap H locs := h
  refine lv_aload_n X.1 X.2.1 (show decode cX3_init 60 = .ok (.aload_n 0, 1) by decide +kernel) rfl (lv_at hl 0 rfl) ?_
  refine lv_bipush (n := 64) (v := 64) X.1 X.2.1 (show decode cX3_init 61 = .ok (.bipush (64), 2) by decide +kernel) (by decide) ?_
  refine zc_row X 20 (atype := .int) (N := 64) (by decide) rfl (fun _ h9 => by cases h9) zw_int (64, .inl (fun _ => 0)) (fun _ => rfl) (by decide) (by decide) (Nat.le_of_ble_eq_true rfl) (Nat.le_of_ble_eq_true rfl) (Nat.le_of_ble_eq_true rfl) (w := 72) (index := 33) (b := 9) rfl (fun _ => rfl) (fun _ => rfl) (Nat.le_of_ble_eq_true rfl) (by decide +kernel) (by decide +kernel) h ?_
  clear h
  intro H locs h
  have h : zSw dC dI 5 a [.int 0, .long 0, .ref (s.heap.size + 0), .ref (s.heap.size + 1), .ref (s.heap.size + 2), .ref (s.heap.size + 3), .ref (s.heap.size + 4), .ref (s.heap.size + 5), .ref (s.heap.size + 6), .ref (s.heap.size + 7)] [zrI cs 64 0, zrI cs 64 0, zrI cs 64 0, zrI cs 64 0, zrI cs 64 0, zrI cs 64 0, zrI cs 64 0, zrI cs 64 0] s.heap H locs := h
  exact zc_end X hr hlocks (Nat.le_of_ble_eq_true rfl) (Nat.le_of_ble_eq_true rfl) (by decide +kernel) h

set_option maxRecDepth 100000 in
set_option maxHeartbeats 4000000 in
theorem kX6_init (l : Launch) : zCon l yX6_init (Cond.code yX6_init cX6_init 1 none :: z_W) ({ frames := 1, cells := 1, slots := 8, locals := 12 } : Room) 8 [.null, .int 0] (fun sz => [.ref (sz + 0), .int 0]) (fun cs sz => [zrI cs 8 0]) := by
  refine zc_top (by decide) rfl rfl (Nat.le_of_ble_eq_true rfl) ?_
  intro dC dI cs a p e s m args below meth c ls X hr hml hlocks hl h
  refine zc_obj X (i0 := 3) hml hl (z_at2 114 rfl rfl) zw_oi zw_oc (Nat.le_of_ble_eq_true rfl) (Nat.le_of_ble_eq_true rfl) (by decide +kernel) (by decide +kernel) ?_
  refine lv_aload_n X.1 X.2.1 (show decode cX6_init 4 = .ok (.aload_n 0, 1) by decide +kernel) rfl (lv_at hl 0 rfl) ?_
  refine lv_bipush (n := 8) (v := 8) X.1 X.2.1 (show decode cX6_init 5 = .ok (.bipush (8), 2) by decide +kernel) (by decide) ?_
  refine zc_row X 20 (atype := .int) (N := 8) (by decide) rfl (fun _ h9 => by cases h9) zw_int (8, .inl (fun _ => 0)) (fun _ => rfl) (by decide) (by decide) (Nat.le_of_ble_eq_true rfl) (Nat.le_of_ble_eq_true rfl) (Nat.le_of_ble_eq_true rfl) (w := 120) (index := 9) (b := 0) rfl (fun _ => rfl) (fun _ => rfl) (Nat.le_of_ble_eq_true rfl) (by decide +kernel) (by decide +kernel) h ?_
  clear h
  intro H locs h
  have h : zSw dC dI 8 a [.ref (s.heap.size + 0), .int 0] [zrI cs 8 0] s.heap H locs := h
  exact zc_end X hr hlocks (Nat.le_of_ble_eq_true rfl) (Nat.le_of_ble_eq_true rfl) (by decide +kernel) h

set_option maxRecDepth 100000 in
set_option maxHeartbeats 4000000 in
theorem kX8_init (l : Launch) : zCon l yX8_init (Cond.code yX8_init cX8_init 1 none :: z_W) ({ frames := 1, cells := 8, slots := 512, locals := 12 } : Room) 9 [.long 0, .null, .null, .null, .null, .null, .int 0, .null, .null, .null] (fun sz => [.long 0, .ref (sz + 0), .ref (sz + 1), .ref (sz + 2), .ref (sz + 3), .ref (sz + 4), .int 0, .ref (sz + 5), .ref (sz + 6), .ref (sz + 7)]) (fun cs sz => [zrI cs 64 0, zrI cs 64 0, zrI cs 64 0, zrI cs 64 0, zrI cs 64 0, zrI cs 64 0, zrI cs 64 0, zrI cs 64 0]) := by
  refine zc_top (by decide) rfl rfl (Nat.le_of_ble_eq_true rfl) ?_
  intro dC dI cs a p e s m args below meth c ls X hr hml hlocks hl h
  refine zc_obj X (i0 := 3) hml hl (z_at2 14 rfl rfl) zw_oi zw_oc (Nat.le_of_ble_eq_true rfl) (Nat.le_of_ble_eq_true rfl) (by decide +kernel) (by decide +kernel) ?_
  refine lv_aload_n X.1 X.2.1 (show decode cX8_init 4 = .ok (.aload_n 0, 1) by decide +kernel) rfl (lv_at hl 0 rfl) ?_
  refine lv_bipush (n := 64) (v := 64) X.1 X.2.1 (show decode cX8_init 5 = .ok (.bipush (64), 2) by decide +kernel) (by decide) ?_
  refine zc_row X 20 (atype := .int) (N := 64) (by decide) rfl (fun _ h9 => by cases h9) zw_int (64, .inl (fun _ => 0)) (fun _ => rfl) (by decide) (by decide) (Nat.le_of_ble_eq_true rfl) (Nat.le_of_ble_eq_true rfl) (Nat.le_of_ble_eq_true rfl) (w := 85) (index := 9) (b := 1) rfl (fun _ => rfl) (fun _ => rfl) (Nat.le_of_ble_eq_true rfl) (by decide +kernel) (by decide +kernel) h ?_
  clear h
  intro H locs h
  have h : zSw dC dI 9 a [.long 0, .ref (s.heap.size + 0), .null, .null, .null, .null, .int 0, .null, .null, .null] [zrI cs 64 0] s.heap H locs := h
  refine lv_aload_n X.1 X.2.1 (show decode cX8_init 12 = .ok (.aload_n 0, 1) by decide +kernel) rfl (lv_at hl 0 rfl) ?_
  refine lv_bipush (n := 64) (v := 64) X.1 X.2.1 (show decode cX8_init 13 = .ok (.bipush (64), 2) by decide +kernel) (by decide) ?_
  refine zc_row X 20 (atype := .int) (N := 64) (by decide) rfl (fun _ h9 => by cases h9) zw_int (64, .inl (fun _ => 0)) (fun _ => rfl) (by decide) (by decide) (Nat.le_of_ble_eq_true rfl) (Nat.le_of_ble_eq_true rfl) (Nat.le_of_ble_eq_true rfl) (w := 87) (index := 15) (b := 2) rfl (fun _ => rfl) (fun _ => rfl) (Nat.le_of_ble_eq_true rfl) (by decide +kernel) (by decide +kernel) h ?_
  clear h
  intro H locs h
  have h : zSw dC dI 9 a [.long 0, .ref (s.heap.size + 0), .ref (s.heap.size + 1), .null, .null, .null, .int 0, .null, .null, .null] [zrI cs 64 0, zrI cs 64 0] s.heap H locs := h
  refine lv_aload_n X.1 X.2.1 (show decode cX8_init 20 = .ok (.aload_n 0, 1) by decide +kernel) rfl (lv_at hl 0 rfl) ?_
  refine lv_bipush (n := 64) (v := 64) X.1 X.2.1 (show decode cX8_init 21 = .ok (.bipush (64), 2) by decide +kernel) (by decide) ?_
  refine zc_row X 20 (atype := .int) (N := 64) (by decide) rfl (fun _ h9 => by cases h9) zw_int (64, .inl (fun _ => 0)) (fun _ => rfl) (by decide) (by decide) (Nat.le_of_ble_eq_true rfl) (Nat.le_of_ble_eq_true rfl) (Nat.le_of_ble_eq_true rfl) (w := 88) (index := 18) (b := 3) rfl (fun _ => rfl) (fun _ => rfl) (Nat.le_of_ble_eq_true rfl) (by decide +kernel) (by decide +kernel) h ?_
  clear h
  intro H locs h
  have h : zSw dC dI 9 a [.long 0, .ref (s.heap.size + 0), .ref (s.heap.size + 1), .ref (s.heap.size + 2), .null, .null, .int 0, .null, .null, .null] [zrI cs 64 0, zrI cs 64 0, zrI cs 64 0] s.heap H locs := h
  refine lv_aload_n X.1 X.2.1 (show decode cX8_init 28 = .ok (.aload_n 0, 1) by decide +kernel) rfl (lv_at hl 0 rfl) ?_
  refine lv_bipush (n := 64) (v := 64) X.1 X.2.1 (show decode cX8_init 29 = .ok (.bipush (64), 2) by decide +kernel) (by decide) ?_
  refine zc_row X 20 (atype := .int) (N := 64) (by decide) rfl (fun _ h9 => by cases h9) zw_int (64, .inl (fun _ => 0)) (fun _ => rfl) (by decide) (by decide) (Nat.le_of_ble_eq_true rfl) (Nat.le_of_ble_eq_true rfl) (Nat.le_of_ble_eq_true rfl) (w := 89) (index := 21) (b := 4) rfl (fun _ => rfl) (fun _ => rfl) (Nat.le_of_ble_eq_true rfl) (by decide +kernel) (by decide +kernel) h ?_
  clear h
  intro H locs h
  have h : zSw dC dI 9 a [.long 0, .ref (s.heap.size + 0), .ref (s.heap.size + 1), .ref (s.heap.size + 2), .ref (s.heap.size + 3), .null, .int 0, .null, .null, .null] [zrI cs 64 0, zrI cs 64 0, zrI cs 64 0, zrI cs 64 0] s.heap H locs := h
  refine lv_aload_n X.1 X.2.1 (show decode cX8_init 36 = .ok (.aload_n 0, 1) by decide +kernel) rfl (lv_at hl 0 rfl) ?_
  refine lv_bipush (n := 64) (v := 64) X.1 X.2.1 (show decode cX8_init 37 = .ok (.bipush (64), 2) by decide +kernel) (by decide) ?_
  refine zc_row X 20 (atype := .int) (N := 64) (by decide) rfl (fun _ h9 => by cases h9) zw_int (64, .inl (fun _ => 0)) (fun _ => rfl) (by decide) (by decide) (Nat.le_of_ble_eq_true rfl) (Nat.le_of_ble_eq_true rfl) (Nat.le_of_ble_eq_true rfl) (w := 90) (index := 24) (b := 5) rfl (fun _ => rfl) (fun _ => rfl) (Nat.le_of_ble_eq_true rfl) (by decide +kernel) (by decide +kernel) h ?_
  clear h
  intro H locs h
  have h : zSw dC dI 9 a [.long 0, .ref (s.heap.size + 0), .ref (s.heap.size + 1), .ref (s.heap.size + 2), .ref (s.heap.size + 3), .ref (s.heap.size + 4), .int 0, .null, .null, .null] [zrI cs 64 0, zrI cs 64 0, zrI cs 64 0, zrI cs 64 0, zrI cs 64 0] s.heap H locs := h
  refine lv_aload_n X.1 X.2.1 (show decode cX8_init 44 = .ok (.aload_n 0, 1) by decide +kernel) rfl (lv_at hl 0 rfl) ?_
  refine lv_bipush (n := 64) (v := 64) X.1 X.2.1 (show decode cX8_init 45 = .ok (.bipush (64), 2) by decide +kernel) (by decide) ?_
  refine zc_row X 20 (atype := .int) (N := 64) (by decide) rfl (fun _ h9 => by cases h9) zw_int (64, .inl (fun _ => 0)) (fun _ => rfl) (by decide) (by decide) (Nat.le_of_ble_eq_true rfl) (Nat.le_of_ble_eq_true rfl) (Nat.le_of_ble_eq_true rfl) (w := 94) (index := 27) (b := 7) rfl (fun _ => rfl) (fun _ => rfl) (Nat.le_of_ble_eq_true rfl) (by decide +kernel) (by decide +kernel) h ?_
  clear h
  intro H locs h
  have h : zSw dC dI 9 a [.long 0, .ref (s.heap.size + 0), .ref (s.heap.size + 1), .ref (s.heap.size + 2), .ref (s.heap.size + 3), .ref (s.heap.size + 4), .int 0, .ref (s.heap.size + 5), .null, .null] [zrI cs 64 0, zrI cs 64 0, zrI cs 64 0, zrI cs 64 0, zrI cs 64 0, zrI cs 64 0] s.heap H locs := h
  refine lv_aload_n X.1 X.2.1 (show decode cX8_init 52 = .ok (.aload_n 0, 1) by decide +kernel) rfl (lv_at hl 0 rfl) ?_
  refine lv_bipush (n := 64) (v := 64) X.1 X.2.1 (show decode cX8_init 53 = .ok (.bipush (64), 2) by decide +kernel) (by decide) ?_
  refine zc_row X 20 (atype := .int) (N := 64) (by decide) rfl (fun _ h9 => by cases h9) zw_int (64, .inl (fun _ => 0)) (fun _ => rfl) (by decide) (by decide) (Nat.le_of_ble_eq_true rfl) (Nat.le_of_ble_eq_true rfl) (Nat.le_of_ble_eq_true rfl) (w := 96) (index := 30) (b := 8) rfl (fun _ => rfl) (fun _ => rfl) (Nat.le_of_ble_eq_true rfl) (by decide +kernel) (by decide +kernel) h ?_
  clear h
  intro H locs h
  have h : zSw dC dI 9 a [.long 0, .ref (s.heap.size + 0), .ref (s.heap.size + 1), .ref (s.heap.size + 2), .ref (s.heap.size + 3), .ref (s.heap.size + 4), .int 0, .ref (s.heap.size + 5), .ref (s.heap.size + 6), .null] [zrI cs 64 0, zrI cs 64 0, zrI cs 64 0, zrI cs 64 0, zrI cs 64 0, zrI cs 64 0, zrI cs 64 0] s.heap H locs := h
  refine lv_aload_n X.1 X.2.1 (show decode cX8_init 60 = .ok (.aload_n 0, 1) by decide +kernel) rfl (lv_at hl 0 rfl) ?_
  refine lv_bipush (n := 64) (v := 64) X.1 X.2.1 (show decode cX8_init 61 = .ok (.bipush (64), 2) by decide +kernel) (by decide) ?_
  refine zc_row X 20 (atype := .int) (N := 64) (by decide) rfl (fun _ h9 => by cases h9) zw_int (64, .inl (fun _ => 0)) (fun _ => rfl) (by decide) (by decide) (Nat.le_of_ble_eq_true rfl) (Nat.le_of_ble_eq_true rfl) (Nat.le_of_ble_eq_true rfl) (w := 98) (index := 33) (b := 9) rfl (fun _ => rfl) (fun _ => rfl) (Nat.le_of_ble_eq_true rfl) (by decide +kernel) (by decide +kernel) h ?_
  clear h
  intro H locs h
  have h : zSw dC dI 9 a [.long 0, .ref (s.heap.size + 0), .ref (s.heap.size + 1), .ref (s.heap.size + 2), .ref (s.heap.size + 3), .ref (s.heap.size + 4), .int 0, .ref (s.heap.size + 5), .ref (s.heap.size + 6), .ref (s.heap.size + 7)] [zrI cs 64 0, zrI cs 64 0, zrI cs 64 0, zrI cs 64 0, zrI cs 64 0, zrI cs 64 0, zrI cs 64 0, zrI cs 64 0] s.heap H locs := h
  exact zc_end X hr hlocks (Nat.le_of_ble_eq_true rfl) (Nat.le_of_ble_eq_true rfl) (by decide +kernel) h

set_option maxRecDepth 100000 in
set_option maxHeartbeats 4000000 in
theorem kX9_init (l : Launch) : zCon l yX9_init (Cond.code yX9_init cX9_init 1 none :: z_W) ({ frames := 1, cells := 1, slots := 60, locals := 12 } : Room) 10 [.null, .int 0, .int 0, .int 0, .int 0, .int 0, .int 0] (fun sz => [.ref (sz + 0), .int 0, .int (-1), .int 0, .int 0, .int 0, .int 0]) (fun cs sz => [zrC cs 60]) := by
  refine zc_top (by decide) rfl rfl (Nat.le_of_ble_eq_true rfl) ?_
  intro dC dI cs a p e s m args below meth c ls X hr hml hlocks hl h
  refine zc_obj X (i0 := 3) hml hl (z_at1 117 rfl rfl) zw_oi zw_oc (Nat.le_of_ble_eq_true rfl) (Nat.le_of_ble_eq_true rfl) (by decide +kernel) (by decide +kernel) ?_
  refine lv_aload_n X.1 X.2.1 (show decode cX9_init 4 = .ok (.aload_n 0, 1) by decide +kernel) rfl (lv_at hl 0 rfl) ?_
  refine lv_bipush (n := 60) (v := 60) X.1 X.2.1 (show decode cX9_init 5 = .ok (.bipush (60), 2) by decide +kernel) (by decide) ?_
  refine zc_row X 34 (atype := .char) (N := 60) (by decide) rfl (fun _ h9 => by cases h9) zw_char (60, .inl (fun _ => 0)) (fun _ => rfl) (by decide) (by decide) (Nat.le_of_ble_eq_true rfl) (Nat.le_of_ble_eq_true rfl) (Nat.le_of_ble_eq_true rfl) (w := 30) (index := 11) (b := 0) rfl (fun _ => rfl) (fun _ => rfl) (Nat.le_of_ble_eq_true rfl) (by decide +kernel) (by decide +kernel) h ?_
  clear h
  intro H locs h
  have h : zSw dC dI 10 a [.ref (s.heap.size + 0), .int 0, .int 0, .int 0, .int 0, .int 0, .int 0] [zrC cs 60] s.heap H locs := h
  refine lv_aload_n X.1 X.2.1 (show decode cX9_init 12 = .ok (.aload_n 0, 1) by decide +kernel) rfl (lv_at hl 0 rfl) ?_
  refine lv_iconst (n := 0) (v := 0) X.1 X.2.1 (show decode cX9_init 13 = .ok (.iconst (0), 1) by decide +kernel) (by decide) ?_
  refine zc_put X (w := 31) (index := 15) (b := 1) (v := .int 0) rfl rfl rfl (Nat.le_of_ble_eq_true rfl) (by decide +kernel) h ?_
  clear h
  intro H locs h
  have h : zSw dC dI 10 a [.ref (s.heap.size + 0), .int 0, .int 0, .int 0, .int 0, .int 0, .int 0] [zrC cs 60] s.heap H locs := h
  refine lv_aload_n X.1 X.2.1 (show decode cX9_init 17 = .ok (.aload_n 0, 1) by decide +kernel) rfl (lv_at hl 0 rfl) ?_
  refine lv_iconst (n := -1) (v := -1) X.1 X.2.1 (show decode cX9_init 18 = .ok (.iconst (-1), 1) by decide +kernel) (by decide) ?_
  refine zc_put X (w := 33) (index := 19) (b := 2) (v := .int (-1)) rfl rfl rfl (Nat.le_of_ble_eq_true rfl) (by decide +kernel) h ?_
  clear h
  intro H locs h
  have h : zSw dC dI 10 a [.ref (s.heap.size + 0), .int 0, .int (-1), .int 0, .int 0, .int 0, .int 0] [zrC cs 60] s.heap H locs := h
  exact zc_end X hr hlocks (Nat.le_of_ble_eq_true rfl) (Nat.le_of_ble_eq_true rfl) (by decide +kernel) h

set_option maxRecDepth 100000 in
set_option maxHeartbeats 4000000 in
theorem kX10_init (l : Launch) : zCon l yX10_init (Cond.code yX10_init cX10_init 1 none :: z_W) ({ frames := 1, cells := 4, slots := 256, locals := 12 } : Room) 11 [.null, .null, .null, .null] (fun sz => [.ref (sz + 0), .ref (sz + 1), .ref (sz + 2), .ref (sz + 3)]) (fun cs sz => [zrI cs 64 0, zrI cs 64 0, zrI cs 64 0, zrI cs 64 0]) := by
  refine zc_top (by decide) rfl rfl (Nat.le_of_ble_eq_true rfl) ?_
  intro dC dI cs a p e s m args below meth c ls X hr hml hlocks hl h
  refine zc_obj X (i0 := 3) hml hl (z_at1 230 rfl rfl) zw_oi zw_oc (Nat.le_of_ble_eq_true rfl) (Nat.le_of_ble_eq_true rfl) (by decide +kernel) (by decide +kernel) ?_
  refine lv_aload_n X.1 X.2.1 (show decode cX10_init 4 = .ok (.aload_n 0, 1) by decide +kernel) rfl (lv_at hl 0 rfl) ?_
  refine lv_bipush (n := 64) (v := 64) X.1 X.2.1 (show decode cX10_init 5 = .ok (.bipush (64), 2) by decide +kernel) (by decide) ?_
  refine zc_row X 20 (atype := .int) (N := 64) (by decide) rfl (fun _ h9 => by cases h9) zw_int (64, .inl (fun _ => 0)) (fun _ => rfl) (by decide) (by decide) (Nat.le_of_ble_eq_true rfl) (Nat.le_of_ble_eq_true rfl) (Nat.le_of_ble_eq_true rfl) (w := 74) (index := 9) (b := 0) rfl (fun _ => rfl) (fun _ => rfl) (Nat.le_of_ble_eq_true rfl) (by decide +kernel) (by decide +kernel) h ?_
  clear h
  intro H locs h
  have h : zSw dC dI 11 a [.ref (s.heap.size + 0), .null, .null, .null] [zrI cs 64 0] s.heap H locs := h
  refine lv_aload_n X.1 X.2.1 (show decode cX10_init 12 = .ok (.aload_n 0, 1) by decide +kernel) rfl (lv_at hl 0 rfl) ?_
  refine lv_bipush (n := 64) (v := 64) X.1 X.2.1 (show decode cX10_init 13 = .ok (.bipush (64), 2) by decide +kernel) (by decide) ?_
  refine zc_row X 20 (atype := .int) (N := 64) (by decide) rfl (fun _ h9 => by cases h9) zw_int (64, .inl (fun _ => 0)) (fun _ => rfl) (by decide) (by decide) (Nat.le_of_ble_eq_true rfl) (Nat.le_of_ble_eq_true rfl) (Nat.le_of_ble_eq_true rfl) (w := 76) (index := 15) (b := 1) rfl (fun _ => rfl) (fun _ => rfl) (Nat.le_of_ble_eq_true rfl) (by decide +kernel) (by decide +kernel) h ?_
  clear h
  intro H locs h
  have h : zSw dC dI 11 a [.ref (s.heap.size + 0), .ref (s.heap.size + 1), .null, .null] [zrI cs 64 0, zrI cs 64 0] s.heap H locs := h
  refine lv_aload_n X.1 X.2.1 (show decode cX10_init 20 = .ok (.aload_n 0, 1) by decide +kernel) rfl (lv_at hl 0 rfl) ?_
  refine lv_bipush (n := 64) (v := 64) X.1 X.2.1 (show decode cX10_init 21 = .ok (.bipush (64), 2) by decide +kernel) (by decide) ?_
  refine zc_row X 20 (atype := .int) (N := 64) (by decide) rfl (fun _ h9 => by cases h9) zw_int (64, .inl (fun _ => 0)) (fun _ => rfl) (by decide) (by decide) (Nat.le_of_ble_eq_true rfl) (Nat.le_of_ble_eq_true rfl) (Nat.le_of_ble_eq_true rfl) (w := 79) (index := 18) (b := 2) rfl (fun _ => rfl) (fun _ => rfl) (Nat.le_of_ble_eq_true rfl) (by decide +kernel) (by decide +kernel) h ?_
  clear h
  intro H locs h
  have h : zSw dC dI 11 a [.ref (s.heap.size + 0), .ref (s.heap.size + 1), .ref (s.heap.size + 2), .null] [zrI cs 64 0, zrI cs 64 0, zrI cs 64 0] s.heap H locs := h
  refine lv_aload_n X.1 X.2.1 (show decode cX10_init 28 = .ok (.aload_n 0, 1) by decide +kernel) rfl (lv_at hl 0 rfl) ?_
  refine lv_bipush (n := 64) (v := 64) X.1 X.2.1 (show decode cX10_init 29 = .ok (.bipush (64), 2) by decide +kernel) (by decide) ?_
  refine zc_row X 20 (atype := .int) (N := 64) (by decide) rfl (fun _ h9 => by cases h9) zw_int (64, .inl (fun _ => 0)) (fun _ => rfl) (by decide) (by decide) (Nat.le_of_ble_eq_true rfl) (Nat.le_of_ble_eq_true rfl) (Nat.le_of_ble_eq_true rfl) (w := 81) (index := 21) (b := 3) rfl (fun _ => rfl) (fun _ => rfl) (Nat.le_of_ble_eq_true rfl) (by decide +kernel) (by decide +kernel) h ?_
  clear h
  intro H locs h
  have h : zSw dC dI 11 a [.ref (s.heap.size + 0), .ref (s.heap.size + 1), .ref (s.heap.size + 2), .ref (s.heap.size + 3)] [zrI cs 64 0, zrI cs 64 0, zrI cs 64 0, zrI cs 64 0] s.heap H locs := h
  exact zc_end X hr hlocks (Nat.le_of_ble_eq_true rfl) (Nat.le_of_ble_eq_true rfl) (by decide +kernel) h

