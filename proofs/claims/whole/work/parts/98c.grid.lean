/-! The grid's constructor. -/
section
variable {dC : Nat → ClassId} {dI : Nat → Nat → Nat} {ci a : Nat} {fs : List Value} {es : List va_E} {H0 H : Heap} {locs : List Loc}
theorem zSw.PD (h : zSw dC dI ci a fs es H0 H locs) (l : va_W) (h1 : ∀ i q, l[i]? = some q → es[i]? = some q.2 ∧ q.1 = H0.size + i) : va_P (dC, dI) vwCl ((a, .inr (ci, fs)) :: l) H ∧ va_D (zFa a H0.size) ((a, .inr (ci, fs)) :: l) := by
  obtain ⟨s1, s2, s3, s4, s5⟩ := h
  have key : ∀ k q, ((a, .inr (ci, fs)) :: l)[k]? = some q → (k = 0 ∧ q = (a, .inr (ci, fs))) ∨ ∃ i, k = i + 1 ∧ es[i]? = some q.2 ∧ q.1 = H0.size + i := fun k q hk => by
    cases k with
    | zero => cases hk; exact .inl ⟨rfl, rfl⟩
    | succ i => exact .inr ⟨i, rfl, h1 i q hk⟩
  refine ⟨fun k q hk => ?_, fun i j p q hi hj e => ?_, fun k q hk => ?_⟩
  · rcases key k q hk with ⟨_, rfl⟩ | ⟨i, _, h2, h3⟩
    · exact s2
    · have := s3 i _ h2
      rw [← h3] at this
      exact this
  · rcases key i p hi with ⟨rfl, rfl⟩ | ⟨i', rfl, h2, h3⟩ <;> rcases key j q hj with ⟨rfl, rfl⟩ | ⟨j', rfl, h4, h5⟩
    · rfl
    · exact absurd (e.trans h5) (by show ¬ a = _; omega)
    · exact absurd (h3.symm.trans e) (by show ¬ _ = a; omega)
    · omega
  · rcases key k q hk with ⟨_, rfl⟩ | ⟨i, _, h2, h3⟩
    · exact .inl rfl
    · exact .inr (by omega)
end
def zm00 : zM := (fun _ _ _ => 0, fun _ _ _ => 0, fun _ _ _ => 0)
def zmG : zM := z_sI zm00 6 0 2 5
def zmH : zM := zm_fill (zm_fill (zm_fill (z_sL (z_sI (z_sI zmG 6 0 0 5) 6 0 1 5) 6 0 3 1) 20 (3 * 0) (z_alen 20) 50) 20 (3 * 0 + 1) (z_alen 20) 1) 20 (3 * 0 + 2) (z_alen 20) 0
theorem zmH_of : f_X4_startAfresh 0 5 5 zmG = some zmH := by
  unfold f_X4_startAfresh
  rw [s_fill, Option.bind_some, s_fill, Option.bind_some, s_fill, Option.bind_some]
  rfl
abbrev zaG (a sz : Nat) : Nat → Nat → Nat := fun k i => if k = 6 then a else sz + i
theorem zwG1 (a sz : Nat) (cs : Nat → ClassId) : z_wl (zaG a sz) zN1 zRf (fun k _ => cs (z_aty k)) zmG = (a, .inr (6, [.int 0, .int 0, .int 5, .long 0, .ref (sz + 0), .ref (sz + 1), .ref (sz + 2)])) :: [(sz + 0, zrI cs 64 0), (sz + 1, zrI cs 64 0), (sz + 2, zrI cs 64 0)] := rfl
theorem zwG2 (a sz : Nat) (cs : Nat → ClassId) : z_wl (zaG a sz) zN1 zRf (fun k _ => cs (z_aty k)) zmH = [(a, .inr (6, [.int 5, .int 5, .int 5, .long 1, .ref (sz + 0), .ref (sz + 1), .ref (sz + 2)])), (sz + 0, .inl (cs 0, 64, .inl (zmH.1 20 0))), (sz + 1, .inl (cs 0, 64, .inl (zmH.1 20 1))), (sz + 2, .inl (cs 0, 64, .inl (zmH.1 20 2)))] := rfl
theorem zmH_0 : ∀ j, j < 64 → zmH.1 20 0 j = 50 := by decide +kernel
theorem zmH_1 : ∀ j, j < 64 → zmH.1 20 1 j = 1 := by decide +kernel
theorem zmH_2 : ∀ j, j < 64 → zmH.1 20 2 j = 0 := by decide +kernel
set_option maxRecDepth 100000 in
set_option maxHeartbeats 4000000 in
theorem kX4_init (l : Launch) (htr : l.stackTraces = false) : zCon l yX4_init (Cond.code yX4_init cX4_init 1 none :: z_W) ({ frames := 8, cells := 3, slots := 192, locals := 292 } : Room) 6 [.int 0, .int 0, .int 0, .long 0, .null, .null, .null] (fun sz => [.int 5, .int 5, .int 5, .long 1, .ref (sz + 0), .ref (sz + 1), .ref (sz + 2)]) (fun cs sz => [zrI cs 64 50, zrI cs 64 1, zrI cs 64 0]) := by
  refine zc_top (by decide) rfl rfl (Nat.le_of_ble_eq_true rfl) ?_
  intro dC dI cs a p e s m args below meth c ls X hr hml hlocks hl h
  refine zc_obj X (i0 := 3) hml hl (z_at1 42 rfl rfl) zw_oi zw_oc (Nat.le_of_ble_eq_true rfl) (Nat.le_of_ble_eq_true rfl) (by decide +kernel) (by decide +kernel) ?_
  refine lv_aload_n X.1 X.2.1 (show decode cX4_init 4 = .ok (.aload_n 0, 1) by decide +kernel) rfl (lv_at hl 0 rfl) ?_
  refine lv_bipush (n := 64) (v := 64) X.1 X.2.1 (show decode cX4_init 5 = .ok (.bipush (64), 2) by decide +kernel) (by decide) ?_
  refine zc_row X 20 (atype := .int) (N := 64) (by decide) rfl (fun _ h9 => by cases h9) zw_int (64, .inl (fun _ => 0)) (fun _ => rfl) (by decide) (by decide) (Nat.le_of_ble_eq_true rfl) (Nat.le_of_ble_eq_true rfl) (Nat.le_of_ble_eq_true rfl) (w := 11) (index := 9) (b := 4) rfl (fun _ => rfl) (fun _ => rfl) (Nat.le_of_ble_eq_true rfl) (by decide +kernel) (by decide +kernel) h ?_
  clear h
  intro H locs h
  have h : zSw dC dI 6 a [.int 0, .int 0, .int 0, .long 0, .ref (s.heap.size + 0), .null, .null] [zrI cs 64 0] s.heap H locs := h
  refine lv_aload_n X.1 X.2.1 (show decode cX4_init 12 = .ok (.aload_n 0, 1) by decide +kernel) rfl (lv_at hl 0 rfl) ?_
  refine lv_bipush (n := 64) (v := 64) X.1 X.2.1 (show decode cX4_init 13 = .ok (.bipush (64), 2) by decide +kernel) (by decide) ?_
  refine zc_row X 20 (atype := .int) (N := 64) (by decide) rfl (fun _ h9 => by cases h9) zw_int (64, .inl (fun _ => 0)) (fun _ => rfl) (by decide) (by decide) (Nat.le_of_ble_eq_true rfl) (Nat.le_of_ble_eq_true rfl) (Nat.le_of_ble_eq_true rfl) (w := 18) (index := 15) (b := 5) rfl (fun _ => rfl) (fun _ => rfl) (Nat.le_of_ble_eq_true rfl) (by decide +kernel) (by decide +kernel) h ?_
  clear h
  intro H locs h
  have h : zSw dC dI 6 a [.int 0, .int 0, .int 0, .long 0, .ref (s.heap.size + 0), .ref (s.heap.size + 1), .null] [zrI cs 64 0, zrI cs 64 0] s.heap H locs := h
  refine lv_aload_n X.1 X.2.1 (show decode cX4_init 20 = .ok (.aload_n 0, 1) by decide +kernel) rfl (lv_at hl 0 rfl) ?_
  refine lv_bipush (n := 64) (v := 64) X.1 X.2.1 (show decode cX4_init 21 = .ok (.bipush (64), 2) by decide +kernel) (by decide) ?_
  refine zc_row X 20 (atype := .int) (N := 64) (by decide) rfl (fun _ h9 => by cases h9) zw_int (64, .inl (fun _ => 0)) (fun _ => rfl) (by decide) (by decide) (Nat.le_of_ble_eq_true rfl) (Nat.le_of_ble_eq_true rfl) (Nat.le_of_ble_eq_true rfl) (w := 22) (index := 18) (b := 6) rfl (fun _ => rfl) (fun _ => rfl) (Nat.le_of_ble_eq_true rfl) (by decide +kernel) (by decide +kernel) h ?_
  clear h
  intro H locs h
  have h : zSw dC dI 6 a [.int 0, .int 0, .int 0, .long 0, .ref (s.heap.size + 0), .ref (s.heap.size + 1), .ref (s.heap.size + 2)] [zrI cs 64 0, zrI cs 64 0, zrI cs 64 0] s.heap H locs := h
  refine lv_aload_n X.1 X.2.1 (show decode cX4_init 28 = .ok (.aload_n 0, 1) by decide +kernel) rfl (lv_at hl 0 rfl) ?_
  refine lv_iconst (n := 5) (v := 5) X.1 X.2.1 (show decode cX4_init 29 = .ok (.iconst (5), 1) by decide +kernel) (by decide) ?_
  refine zc_put X (w := 5) (index := 21) (b := 2) (v := .int 5) rfl rfl rfl (Nat.le_of_ble_eq_true rfl) (by decide +kernel) h ?_
  clear h
  intro H locs h
  have h : zSw dC dI 6 a [.int 0, .int 0, .int 5, .long 0, .ref (s.heap.size + 0), .ref (s.heap.size + 1), .ref (s.heap.size + 2)] [zrI cs 64 0, zrI cs 64 0, zrI cs 64 0] s.heap H locs := h
  refine lv_aload_n X.1 X.2.1 (show decode cX4_init 33 = .ok (.aload_n 0, 1) by decide +kernel) rfl (lv_at hl 0 rfl) ?_
  refine lv_iconst (n := 5) (v := 5) X.1 X.2.1 (show decode cX4_init 34 = .ok (.iconst (5), 1) by decide +kernel) (by decide) ?_
  refine lv_iconst (n := 5) (v := 5) X.1 X.2.1 (show decode cX4_init 35 = .ok (.iconst (5), 1) by decide +kernel) (by decide) ?_
  have hI : z_I (zFa a s.heap.size) (zaG a s.heap.size) zN1 zRf dC dI (fun k _ => cs (z_aty k)) s.heap zmG H locs := by
    obtain ⟨g1, g2⟩ := h.PD [(s.heap.size + 0, zrI cs 64 0), (s.heap.size + 1, zrI cs 64 0), (s.heap.size + 2, zrI cs 64 0)] (fun i q hq => by
      have hi : i < 3 := (List.getElem?_eq_some_iff.mp hq).1
      rcases (show i = 0 ∨ i = 1 ∨ i = 2 by omega) with rfl | rfl | rfl <;> (cases hq; exact ⟨rfl, rfl⟩))
    rw [← zwG1 a s.heap.size cs] at g1 g2
    exact ⟨g1, g2, h.2.2.2.1⟩
  refine zc_zcall X htr hml hl z_okN1 (ad := zaG a s.heap.size) (fun k i hk => ?_) (d := 2) (y := 18) (b := 3) (w := 0) (v := 25) [.inl (.int 5), .inl (.int 5), .inr (6, 0)] (mm := zmG) (mm' := zmH) (zj_X4_startAfresh 0 0 5 5 zmG zmH zmH_of) (by decide +kernel) (Nat.le_of_ble_eq_true rfl) (Nat.le_of_ble_eq_true rfl) ⟨(Nat.le_of_ble_eq_true rfl), (Nat.le_of_ble_eq_true rfl)⟩ (Nat.le_of_ble_eq_true rfl) (by decide) ⟨rfl, by decide⟩ hI ?_
  · unfold zaG
    by_cases w : k = 6
    · rw [if_pos w]
      exact .inl rfl
    · rw [if_neg w]
      exact .inr (by omega)
  intro H1 locs1 hI1 hz1 hz2 _
  obtain ⟨g1, g2, g3⟩ := hI1
  rw [zwG2 a s.heap.size cs] at g1
  have hz : H1.size = s.heap.size + 3 := by
    have h3 : H.size = s.heap.size + 3 := h.1
    have h4 : H1.size ≤ s.heap.size + 3 := hz1
    omega
  have hf : zSw dC dI 6 a [.int 5, .int 5, .int 5, .long 1, .ref (s.heap.size + 0), .ref (s.heap.size + 1), .ref (s.heap.size + 2)] [zrI cs 64 50, zrI cs 64 1, zrI cs 64 0] s.heap H1 locs1 := by
    refine ⟨hz, g1 0 _ rfl, fun j x hj => ?_, g3, h.2.2.2.2⟩
    have hi : j < 3 := (List.getElem?_eq_some_iff.mp hj).1
    rcases (show j = 0 ∨ j = 1 ∨ j = 2 by omega) with rfl | rfl | rfl
    · cases hj
      exact (g1 1 _ rfl).trans (congrArg some (z_arr_ext zmH_0))
    · cases hj
      exact (g1 2 _ rfl).trans (congrArg some (z_arr_ext zmH_1))
    · cases hj
      exact (g1 3 _ rfl).trans (congrArg some (z_arr_ext zmH_2))
  exact zc_end X hr hlocks (Nat.le_of_ble_eq_true rfl) (Nat.le_of_ble_eq_true rfl) (by decide +kernel) hf

