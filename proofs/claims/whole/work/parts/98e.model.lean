/-! The reference's constructor. -/
def zmf (j : Nat) : Int32 := if j < 3 then 5 else if j < 67 then 50 else if j < 131 then 1 else if j < 195 then 0 else if j = 195 then 1 else 0
def zaM (a sz : Nat) : Nat → Nat → Nat := fun k i => match k with
  | 13 => a
  | 23 => (match i with
    | 0 => sz + 0 | 1 => sz + 2 | _ => sz + 3)
  | 24 => sz + 1 | 25 => sz + 4 | 20 => sz + (i - 54) | 21 => sz + (10 + i) | 31 => sz + (14 + i) | 26 => sz + 18 | _ => sz + 19
def zmM : zM := z_sI zm00 13 0 10 (-1)
theorem z_cE_ext {ad : Nat → Nat → Nat} {Rf : Nat → Nat → Nat → zA} {cA : Nat → Nat → ClassId} {m m' : zM} {k i : Nat} (h1 : m'.1 k i = m.1 k i) (h2 : m'.2.1 k i = m.2.1 k i) (h3 : m'.2.2 k i = m.2.2 k i) : z_cE ad Rf cA m' k i = z_cE ad Rf cA m k i := by
  have e2 : z_fV ad Rf m' k i = z_fV ad Rf m k i := by
    funext j
    unfold z_fV
    rw [h1, h2]
  unfold z_cE z_aR
  rw [e2, h1, h2, h3]
theorem zwM1 (a sz : Nat) (cs : Nat → ClassId) : z_wl (zaM a sz) zN2 zRf (fun k _ => cs (z_aty k)) zmM = (a, .inr (13, [.int 0, .ref (sz + 0), .ref (sz + 1), .int 0, .ref (sz + 2), .int 0, .ref (sz + 3), .ref (sz + 4), .int 0, .int 0, .int (-1), .ref (sz + 5), .ref (sz + 6), .ref (sz + 7), .ref (sz + 8), .ref (sz + 9), .ref (sz + 10), .ref (sz + 11), .int 0, .ref (sz + 12), .long 0, .int 0, .ref (sz + 13), .ref (sz + 14), .ref (sz + 15), .ref (sz + 16), .ref (sz + 17), .ref (sz + 18), .ref (sz + 19), .int 0, .int 0])) :: [(sz + 0, zrI cs 259 0)] := rfl
theorem zwM2 (a sz : Nat) (cs : Nat → ClassId) (m : zM) : z_wl (zaM a sz) zN2 zRf (fun k _ => cs (z_aty k)) m = [(a, z_cE (zaM a sz) zRf (fun k _ => cs (z_aty k)) m 13 0), (sz + 0, .inl (cs 0, 259, .inl (m.1 23 0)))] := rfl
theorem zwM3 (a sz : Nat) (cs : Nat → ClassId) : z_cE (zaM a sz) zRf (fun k _ => cs (z_aty k)) zmM 13 0 = .inr (13, [.int 0, .ref (sz + 0), .ref (sz + 1), .int 0, .ref (sz + 2), .int 0, .ref (sz + 3), .ref (sz + 4), .int 0, .int 0, .int (-1), .ref (sz + 5), .ref (sz + 6), .ref (sz + 7), .ref (sz + 8), .ref (sz + 9), .ref (sz + 10), .ref (sz + 11), .int 0, .ref (sz + 12), .long 0, .int 0, .ref (sz + 13), .ref (sz + 14), .ref (sz + 15), .ref (sz + 16), .ref (sz + 17), .ref (sz + 18), .ref (sz + 19), .int 0, .int 0]) := rfl
theorem zmf_of {f : Nat → Int32} (h : zMR f (zG.frs 5 5 0)) : ∀ j, j < 259 → (if j = 2 then 5 else f j) = zmf j := by
  obtain ⟨h1, h2, h3, h4, h5, h6, h7⟩ := h
  intro j hj
  unfold zmf
  by_cases w0 : j < 3
  · rw [if_pos w0]
    rcases (show j = 0 ∨ j = 1 ∨ j = 2 by omega) with rfl | rfl | rfl
    · rw [if_neg (by decide), h1]
      rfl
    · rw [if_neg (by decide), h2]
      rfl
    · rw [if_pos rfl]
  · rw [if_neg (by omega), if_neg w0]
    by_cases w1 : j < 67
    · rw [if_pos w1]
      obtain ⟨d, rfl⟩ : ∃ d, j = 3 + d := ⟨j - 3, by omega⟩
      exact h4 d (by omega)
    · rw [if_neg w1]
      by_cases w2 : j < 131
      · rw [if_pos w2]
        obtain ⟨d, rfl⟩ : ∃ d, j = 67 + d := ⟨j - 67, by omega⟩
        exact h5 d (by omega)
      · rw [if_neg w2]
        by_cases w3 : j < 195
        · rw [if_pos w3]
          obtain ⟨d, rfl⟩ : ∃ d, j = 131 + d := ⟨j - 131, by omega⟩
          exact h6 d (by omega)
        · rw [if_neg w3]
          obtain ⟨d, rfl⟩ : ∃ d, j = 195 + d := ⟨j - 195, by omega⟩
          rw [h7 d (by omega)]
          show (if decide (d = 0) = true then (1 : Int32) else 0) = _
          by_cases w4 : d = 0
          · rw [if_pos (by rw [w4]; rfl), if_pos (by omega)]
          · rw [if_neg (by rw [decide_eq_true_eq]; exact w4), if_neg (by omega)]
section
variable {p : Program} {l : Launch} {e : Env} {R : Room} {s : State} {m : MethodId} {args : Array Value} {below : List Frame} {meth : Method} {c : Code} {H : Heap} {locs : List Loc} {cells slots : Nat} {Q : State → Prop}
variable {cc : ByteArray} {pc : Nat} {ls : Array Slot} {rest : List Value}
variable {dC : Nat → ClassId} {dI : Nat → Nat → Nat} {cs : Nat → ClassId} {ci a : Nat} {fs : List Value} {es : List va_E}
/-- an int into a row that was made -/
theorem zc_iast (X : zCx dC dI cs ci a p s m args meth c cc) {j0 n : Nat} {f : Nat → Int32} {i x : Int32} (ha : es[j0]? = some (.inl (cs 0, n, .inl f))) (hin : vp_in i n) (hd : decode cc pc = .ok (.iastore, 1)) (h : zSw dC dI ci a fs es s.heap H locs)
    (kk : ∀ (H1 : Heap) (locs1 : List Loc), zSw dC dI ci a fs (es.set j0 (.inl (cs 0, n, .inl (fun j => if j = i.toNatClampNeg then x else f j)))) s.heap H1 locs1 → W p l e R s m args below meth c H1 locs1 cells slots Q (F0 m (pc + 1) ls rest)) : W p l e R s m args below meth c H locs cells slots Q (F0 m pc ls (.int x :: .int i :: .ref (s.heap.size + j0) :: rest)) := by
  obtain ⟨hx, hb, hts, hown, hin', hE⟩ := X
  have hP0 : H[s.heap.size + j0]? = some (arrV (cs 0) n (fun j => .int (f j))) := h.2.2.1 j0 _ ha
  refine W.iast hx hb hP0 ((hE.2.1 20 (by decide)).1 n _) (fun h => by cases h) (by rw [arrV_size]; exact hin) rfl rfl hd fun H1 e z oq => ?_
  refine kk H1 _ (h.upd (List.getElem?_eq_some_iff.mp ha).1 z oq ?_)
  show H1[s.heap.size + j0]? = some (arrV (cs 0) n (fun j => .int (if j = i.toNatClampNeg then x else f j)))
  rw [e, arrV_store]
  congr 2
  funext q
  show (if q = i.toNatClampNeg then Value.int x else Value.int (f q)) = Value.int (if q = i.toNatClampNeg then x else f q)
  by_cases hq : q = i.toNatClampNeg
  · rw [if_pos hq, if_pos hq]
  · rw [if_neg hq, if_neg hq]
end
set_option maxRecDepth 100000 in
set_option maxHeartbeats 4000000 in
theorem kX12_init (l : Launch) (htr : l.stackTraces = false) : zCon l yX12_init (Cond.code yX12_init cX12_init 1 none :: z_W) ({ frames := 8, cells := 20, slots := 10526, locals := 292 } : Room) 13 [.int 0, .null, .null, .int 0, .null, .int 0, .null, .null, .int 0, .int 0, .int 0, .null, .null, .null, .null, .null, .null, .null, .int 0, .null, .long 0, .int 0, .null, .null, .null, .null, .null, .null, .null, .int 0, .int 0] (fun sz => [.int 0, .ref (sz + 0), .ref (sz + 1), .int 0, .ref (sz + 2), .int 0, .ref (sz + 3), .ref (sz + 4), .int 0, .int 0, .int (-1), .ref (sz + 5), .ref (sz + 6), .ref (sz + 7), .ref (sz + 8), .ref (sz + 9), .ref (sz + 10), .ref (sz + 11), .int 0, .ref (sz + 12), .long 0, .int 0, .ref (sz + 13), .ref (sz + 14), .ref (sz + 15), .ref (sz + 16), .ref (sz + 17), .ref (sz + 18), .ref (sz + 19), .int 0, .int 0]) (fun cs sz => .inl (cs 0, 259, .inl zmf) :: [zrI cs 2072 0, zrI cs 259 0, zrI cs 259 0, zrI cs 60 0, zrI cs 64 0, zrI cs 64 0, zrI cs 64 0, zrI cs 64 0, zrI cs 64 0, zrI cs 64 0, zrI cs 64 0, zrI cs 64 0, zrI cs 128 0, zrI cs 128 0, zrI cs 128 0, zrL cs 128, zrL cs 128, zrI cs 6400 0, zrI cs 65 0]) := by
  refine zc_top (by decide) rfl rfl (Nat.le_of_ble_eq_true rfl) ?_
  intro dC dI cs a p e s m args below meth c ls X hr hml hlocks hl h
  refine zc_obj X (i0 := 3) hml hl (z_at6 197 rfl rfl) zw_oi zw_oc (Nat.le_of_ble_eq_true rfl) (Nat.le_of_ble_eq_true rfl) (by decide +kernel) (by decide +kernel) ?_
  refine lv_aload_n X.1 X.2.1 (show decode cX12_init 4 = .ok (.aload_n 0, 1) by decide +kernel) rfl (lv_at hl 0 rfl) ?_
  refine lv_sipush (n := 259) (v := 259) X.1 X.2.1 (show decode cX12_init 5 = .ok (.sipush (259), 3) by decide +kernel) (by decide) ?_
  refine zc_row X 20 (atype := .int) (N := 259) (by decide) rfl (fun _ h9 => by cases h9) zw_int (259, .inl (fun _ => 0)) (fun _ => rfl) (by decide) (by decide) (Nat.le_of_ble_eq_true rfl) (Nat.le_of_ble_eq_true rfl) (Nat.le_of_ble_eq_true rfl) (w := 139) (index := 9) (b := 1) rfl (fun _ => rfl) (fun _ => rfl) (Nat.le_of_ble_eq_true rfl) (by decide +kernel) (by decide +kernel) h ?_
  clear h
  intro H locs h
  have h : zSw dC dI 13 a [.int 0, .ref (s.heap.size + 0), .null, .int 0, .null, .int 0, .null, .null, .int 0, .int 0, .int 0, .null, .null, .null, .null, .null, .null, .null, .int 0, .null, .long 0, .int 0, .null, .null, .null, .null, .null, .null, .null, .int 0, .int 0] [zrI cs 259 0] s.heap H locs := h
  refine lv_aload_n X.1 X.2.1 (show decode cX12_init 13 = .ok (.aload_n 0, 1) by decide +kernel) rfl (lv_at hl 0 rfl) ?_
  refine lv_sipush (n := 2072) (v := 2072) X.1 X.2.1 (show decode cX12_init 14 = .ok (.sipush (2072), 3) by decide +kernel) (by decide) ?_
  refine zc_row X 20 (atype := .int) (N := 2072) (by decide) rfl (fun _ h9 => by cases h9) zw_int (2072, .inl (fun _ => 0)) (fun _ => rfl) (by decide) (by decide) (Nat.le_of_ble_eq_true rfl) (Nat.le_of_ble_eq_true rfl) (Nat.le_of_ble_eq_true rfl) (w := 140) (index := 13) (b := 2) rfl (fun _ => rfl) (fun _ => rfl) (Nat.le_of_ble_eq_true rfl) (by decide +kernel) (by decide +kernel) h ?_
  clear h
  intro H locs h
  have h : zSw dC dI 13 a [.int 0, .ref (s.heap.size + 0), .ref (s.heap.size + 1), .int 0, .null, .int 0, .null, .null, .int 0, .int 0, .int 0, .null, .null, .null, .null, .null, .null, .null, .int 0, .null, .long 0, .int 0, .null, .null, .null, .null, .null, .null, .null, .int 0, .int 0] [zrI cs 259 0, zrI cs 2072 0] s.heap H locs := h
  refine lv_aload_n X.1 X.2.1 (show decode cX12_init 22 = .ok (.aload_n 0, 1) by decide +kernel) rfl (lv_at hl 0 rfl) ?_
  refine lv_sipush (n := 259) (v := 259) X.1 X.2.1 (show decode cX12_init 23 = .ok (.sipush (259), 3) by decide +kernel) (by decide) ?_
  refine zc_row X 20 (atype := .int) (N := 259) (by decide) rfl (fun _ h9 => by cases h9) zw_int (259, .inl (fun _ => 0)) (fun _ => rfl) (by decide) (by decide) (Nat.le_of_ble_eq_true rfl) (Nat.le_of_ble_eq_true rfl) (Nat.le_of_ble_eq_true rfl) (w := 142) (index := 16) (b := 4) rfl (fun _ => rfl) (fun _ => rfl) (Nat.le_of_ble_eq_true rfl) (by decide +kernel) (by decide +kernel) h ?_
  clear h
  intro H locs h
  have h : zSw dC dI 13 a [.int 0, .ref (s.heap.size + 0), .ref (s.heap.size + 1), .int 0, .ref (s.heap.size + 2), .int 0, .null, .null, .int 0, .int 0, .int 0, .null, .null, .null, .null, .null, .null, .null, .int 0, .null, .long 0, .int 0, .null, .null, .null, .null, .null, .null, .null, .int 0, .int 0] [zrI cs 259 0, zrI cs 2072 0, zrI cs 259 0] s.heap H locs := h
  refine lv_aload_n X.1 X.2.1 (show decode cX12_init 31 = .ok (.aload_n 0, 1) by decide +kernel) rfl (lv_at hl 0 rfl) ?_
  refine lv_sipush (n := 259) (v := 259) X.1 X.2.1 (show decode cX12_init 32 = .ok (.sipush (259), 3) by decide +kernel) (by decide) ?_
  refine zc_row X 20 (atype := .int) (N := 259) (by decide) rfl (fun _ h9 => by cases h9) zw_int (259, .inl (fun _ => 0)) (fun _ => rfl) (by decide) (by decide) (Nat.le_of_ble_eq_true rfl) (Nat.le_of_ble_eq_true rfl) (Nat.le_of_ble_eq_true rfl) (w := 144) (index := 19) (b := 6) rfl (fun _ => rfl) (fun _ => rfl) (Nat.le_of_ble_eq_true rfl) (by decide +kernel) (by decide +kernel) h ?_
  clear h
  intro H locs h
  have h : zSw dC dI 13 a [.int 0, .ref (s.heap.size + 0), .ref (s.heap.size + 1), .int 0, .ref (s.heap.size + 2), .int 0, .ref (s.heap.size + 3), .null, .int 0, .int 0, .int 0, .null, .null, .null, .null, .null, .null, .null, .int 0, .null, .long 0, .int 0, .null, .null, .null, .null, .null, .null, .null, .int 0, .int 0] [zrI cs 259 0, zrI cs 2072 0, zrI cs 259 0, zrI cs 259 0] s.heap H locs := h
  refine lv_aload_n X.1 X.2.1 (show decode cX12_init 40 = .ok (.aload_n 0, 1) by decide +kernel) rfl (lv_at hl 0 rfl) ?_
  refine lv_bipush (n := 60) (v := 60) X.1 X.2.1 (show decode cX12_init 41 = .ok (.bipush (60), 2) by decide +kernel) (by decide) ?_
  refine zc_row X 20 (atype := .int) (N := 60) (by decide) rfl (fun _ h9 => by cases h9) zw_int (60, .inl (fun _ => 0)) (fun _ => rfl) (by decide) (by decide) (Nat.le_of_ble_eq_true rfl) (Nat.le_of_ble_eq_true rfl) (Nat.le_of_ble_eq_true rfl) (w := 145) (index := 22) (b := 7) rfl (fun _ => rfl) (fun _ => rfl) (Nat.le_of_ble_eq_true rfl) (by decide +kernel) (by decide +kernel) h ?_
  clear h
  intro H locs h
  have h : zSw dC dI 13 a [.int 0, .ref (s.heap.size + 0), .ref (s.heap.size + 1), .int 0, .ref (s.heap.size + 2), .int 0, .ref (s.heap.size + 3), .ref (s.heap.size + 4), .int 0, .int 0, .int 0, .null, .null, .null, .null, .null, .null, .null, .int 0, .null, .long 0, .int 0, .null, .null, .null, .null, .null, .null, .null, .int 0, .int 0] [zrI cs 259 0, zrI cs 2072 0, zrI cs 259 0, zrI cs 259 0, zrI cs 60 0] s.heap H locs := h
  refine lv_aload_n X.1 X.2.1 (show decode cX12_init 48 = .ok (.aload_n 0, 1) by decide +kernel) rfl (lv_at hl 0 rfl) ?_
  refine lv_iconst (n := -1) (v := -1) X.1 X.2.1 (show decode cX12_init 49 = .ok (.iconst (-1), 1) by decide +kernel) (by decide) ?_
  refine zc_put X (w := 148) (index := 25) (b := 10) (v := .int (-1)) rfl rfl rfl (Nat.le_of_ble_eq_true rfl) (by decide +kernel) h ?_
  clear h
  intro H locs h
  have h : zSw dC dI 13 a [.int 0, .ref (s.heap.size + 0), .ref (s.heap.size + 1), .int 0, .ref (s.heap.size + 2), .int 0, .ref (s.heap.size + 3), .ref (s.heap.size + 4), .int 0, .int 0, .int (-1), .null, .null, .null, .null, .null, .null, .null, .int 0, .null, .long 0, .int 0, .null, .null, .null, .null, .null, .null, .null, .int 0, .int 0] [zrI cs 259 0, zrI cs 2072 0, zrI cs 259 0, zrI cs 259 0, zrI cs 60 0] s.heap H locs := h
  refine lv_aload_n X.1 X.2.1 (show decode cX12_init 53 = .ok (.aload_n 0, 1) by decide +kernel) rfl (lv_at hl 0 rfl) ?_
  refine lv_bipush (n := 64) (v := 64) X.1 X.2.1 (show decode cX12_init 54 = .ok (.bipush (64), 2) by decide +kernel) (by decide) ?_
  refine zc_row X 20 (atype := .int) (N := 64) (by decide) rfl (fun _ h9 => by cases h9) zw_int (64, .inl (fun _ => 0)) (fun _ => rfl) (by decide) (by decide) (Nat.le_of_ble_eq_true rfl) (Nat.le_of_ble_eq_true rfl) (Nat.le_of_ble_eq_true rfl) (w := 149) (index := 29) (b := 11) rfl (fun _ => rfl) (fun _ => rfl) (Nat.le_of_ble_eq_true rfl) (by decide +kernel) (by decide +kernel) h ?_
  clear h
  intro H locs h
  have h : zSw dC dI 13 a [.int 0, .ref (s.heap.size + 0), .ref (s.heap.size + 1), .int 0, .ref (s.heap.size + 2), .int 0, .ref (s.heap.size + 3), .ref (s.heap.size + 4), .int 0, .int 0, .int (-1), .ref (s.heap.size + 5), .null, .null, .null, .null, .null, .null, .int 0, .null, .long 0, .int 0, .null, .null, .null, .null, .null, .null, .null, .int 0, .int 0] [zrI cs 259 0, zrI cs 2072 0, zrI cs 259 0, zrI cs 259 0, zrI cs 60 0, zrI cs 64 0] s.heap H locs := h
  refine lv_aload_n X.1 X.2.1 (show decode cX12_init 61 = .ok (.aload_n 0, 1) by decide +kernel) rfl (lv_at hl 0 rfl) ?_
  refine lv_bipush (n := 64) (v := 64) X.1 X.2.1 (show decode cX12_init 62 = .ok (.bipush (64), 2) by decide +kernel) (by decide) ?_
  refine zc_row X 20 (atype := .int) (N := 64) (by decide) rfl (fun _ h9 => by cases h9) zw_int (64, .inl (fun _ => 0)) (fun _ => rfl) (by decide) (by decide) (Nat.le_of_ble_eq_true rfl) (Nat.le_of_ble_eq_true rfl) (Nat.le_of_ble_eq_true rfl) (w := 150) (index := 32) (b := 12) rfl (fun _ => rfl) (fun _ => rfl) (Nat.le_of_ble_eq_true rfl) (by decide +kernel) (by decide +kernel) h ?_
  clear h
  intro H locs h
  have h : zSw dC dI 13 a [.int 0, .ref (s.heap.size + 0), .ref (s.heap.size + 1), .int 0, .ref (s.heap.size + 2), .int 0, .ref (s.heap.size + 3), .ref (s.heap.size + 4), .int 0, .int 0, .int (-1), .ref (s.heap.size + 5), .ref (s.heap.size + 6), .null, .null, .null, .null, .null, .int 0, .null, .long 0, .int 0, .null, .null, .null, .null, .null, .null, .null, .int 0, .int 0] [zrI cs 259 0, zrI cs 2072 0, zrI cs 259 0, zrI cs 259 0, zrI cs 60 0, zrI cs 64 0, zrI cs 64 0] s.heap H locs := h
  refine lv_aload_n X.1 X.2.1 (show decode cX12_init 69 = .ok (.aload_n 0, 1) by decide +kernel) rfl (lv_at hl 0 rfl) ?_
  refine lv_bipush (n := 64) (v := 64) X.1 X.2.1 (show decode cX12_init 70 = .ok (.bipush (64), 2) by decide +kernel) (by decide) ?_
  refine zc_row X 20 (atype := .int) (N := 64) (by decide) rfl (fun _ h9 => by cases h9) zw_int (64, .inl (fun _ => 0)) (fun _ => rfl) (by decide) (by decide) (Nat.le_of_ble_eq_true rfl) (Nat.le_of_ble_eq_true rfl) (Nat.le_of_ble_eq_true rfl) (w := 151) (index := 35) (b := 13) rfl (fun _ => rfl) (fun _ => rfl) (Nat.le_of_ble_eq_true rfl) (by decide +kernel) (by decide +kernel) h ?_
  clear h
  intro H locs h
  have h : zSw dC dI 13 a [.int 0, .ref (s.heap.size + 0), .ref (s.heap.size + 1), .int 0, .ref (s.heap.size + 2), .int 0, .ref (s.heap.size + 3), .ref (s.heap.size + 4), .int 0, .int 0, .int (-1), .ref (s.heap.size + 5), .ref (s.heap.size + 6), .ref (s.heap.size + 7), .null, .null, .null, .null, .int 0, .null, .long 0, .int 0, .null, .null, .null, .null, .null, .null, .null, .int 0, .int 0] [zrI cs 259 0, zrI cs 2072 0, zrI cs 259 0, zrI cs 259 0, zrI cs 60 0, zrI cs 64 0, zrI cs 64 0, zrI cs 64 0] s.heap H locs := h
  refine lv_aload_n X.1 X.2.1 (show decode cX12_init 77 = .ok (.aload_n 0, 1) by decide +kernel) rfl (lv_at hl 0 rfl) ?_
  refine lv_bipush (n := 64) (v := 64) X.1 X.2.1 (show decode cX12_init 78 = .ok (.bipush (64), 2) by decide +kernel) (by decide) ?_
  refine zc_row X 20 (atype := .int) (N := 64) (by decide) rfl (fun _ h9 => by cases h9) zw_int (64, .inl (fun _ => 0)) (fun _ => rfl) (by decide) (by decide) (Nat.le_of_ble_eq_true rfl) (Nat.le_of_ble_eq_true rfl) (Nat.le_of_ble_eq_true rfl) (w := 152) (index := 38) (b := 14) rfl (fun _ => rfl) (fun _ => rfl) (Nat.le_of_ble_eq_true rfl) (by decide +kernel) (by decide +kernel) h ?_
  clear h
  intro H locs h
  have h : zSw dC dI 13 a [.int 0, .ref (s.heap.size + 0), .ref (s.heap.size + 1), .int 0, .ref (s.heap.size + 2), .int 0, .ref (s.heap.size + 3), .ref (s.heap.size + 4), .int 0, .int 0, .int (-1), .ref (s.heap.size + 5), .ref (s.heap.size + 6), .ref (s.heap.size + 7), .ref (s.heap.size + 8), .null, .null, .null, .int 0, .null, .long 0, .int 0, .null, .null, .null, .null, .null, .null, .null, .int 0, .int 0] [zrI cs 259 0, zrI cs 2072 0, zrI cs 259 0, zrI cs 259 0, zrI cs 60 0, zrI cs 64 0, zrI cs 64 0, zrI cs 64 0, zrI cs 64 0] s.heap H locs := h
  refine lv_aload_n X.1 X.2.1 (show decode cX12_init 85 = .ok (.aload_n 0, 1) by decide +kernel) rfl (lv_at hl 0 rfl) ?_
  refine lv_bipush (n := 64) (v := 64) X.1 X.2.1 (show decode cX12_init 86 = .ok (.bipush (64), 2) by decide +kernel) (by decide) ?_
  refine zc_row X 20 (atype := .int) (N := 64) (by decide) rfl (fun _ h9 => by cases h9) zw_int (64, .inl (fun _ => 0)) (fun _ => rfl) (by decide) (by decide) (Nat.le_of_ble_eq_true rfl) (Nat.le_of_ble_eq_true rfl) (Nat.le_of_ble_eq_true rfl) (w := 153) (index := 41) (b := 15) rfl (fun _ => rfl) (fun _ => rfl) (Nat.le_of_ble_eq_true rfl) (by decide +kernel) (by decide +kernel) h ?_
  clear h
  intro H locs h
  have h : zSw dC dI 13 a [.int 0, .ref (s.heap.size + 0), .ref (s.heap.size + 1), .int 0, .ref (s.heap.size + 2), .int 0, .ref (s.heap.size + 3), .ref (s.heap.size + 4), .int 0, .int 0, .int (-1), .ref (s.heap.size + 5), .ref (s.heap.size + 6), .ref (s.heap.size + 7), .ref (s.heap.size + 8), .ref (s.heap.size + 9), .null, .null, .int 0, .null, .long 0, .int 0, .null, .null, .null, .null, .null, .null, .null, .int 0, .int 0] [zrI cs 259 0, zrI cs 2072 0, zrI cs 259 0, zrI cs 259 0, zrI cs 60 0, zrI cs 64 0, zrI cs 64 0, zrI cs 64 0, zrI cs 64 0, zrI cs 64 0] s.heap H locs := h
  refine lv_aload_n X.1 X.2.1 (show decode cX12_init 93 = .ok (.aload_n 0, 1) by decide +kernel) rfl (lv_at hl 0 rfl) ?_
  refine lv_bipush (n := 64) (v := 64) X.1 X.2.1 (show decode cX12_init 94 = .ok (.bipush (64), 2) by decide +kernel) (by decide) ?_
  refine zc_row X 20 (atype := .int) (N := 64) (by decide) rfl (fun _ h9 => by cases h9) zw_int (64, .inl (fun _ => 0)) (fun _ => rfl) (by decide) (by decide) (Nat.le_of_ble_eq_true rfl) (Nat.le_of_ble_eq_true rfl) (Nat.le_of_ble_eq_true rfl) (w := 154) (index := 44) (b := 16) rfl (fun _ => rfl) (fun _ => rfl) (Nat.le_of_ble_eq_true rfl) (by decide +kernel) (by decide +kernel) h ?_
  clear h
  intro H locs h
  have h : zSw dC dI 13 a [.int 0, .ref (s.heap.size + 0), .ref (s.heap.size + 1), .int 0, .ref (s.heap.size + 2), .int 0, .ref (s.heap.size + 3), .ref (s.heap.size + 4), .int 0, .int 0, .int (-1), .ref (s.heap.size + 5), .ref (s.heap.size + 6), .ref (s.heap.size + 7), .ref (s.heap.size + 8), .ref (s.heap.size + 9), .ref (s.heap.size + 10), .null, .int 0, .null, .long 0, .int 0, .null, .null, .null, .null, .null, .null, .null, .int 0, .int 0] [zrI cs 259 0, zrI cs 2072 0, zrI cs 259 0, zrI cs 259 0, zrI cs 60 0, zrI cs 64 0, zrI cs 64 0, zrI cs 64 0, zrI cs 64 0, zrI cs 64 0, zrI cs 64 0] s.heap H locs := h
  refine lv_aload_n X.1 X.2.1 (show decode cX12_init 101 = .ok (.aload_n 0, 1) by decide +kernel) rfl (lv_at hl 0 rfl) ?_
  refine lv_bipush (n := 64) (v := 64) X.1 X.2.1 (show decode cX12_init 102 = .ok (.bipush (64), 2) by decide +kernel) (by decide) ?_
  refine zc_row X 20 (atype := .int) (N := 64) (by decide) rfl (fun _ h9 => by cases h9) zw_int (64, .inl (fun _ => 0)) (fun _ => rfl) (by decide) (by decide) (Nat.le_of_ble_eq_true rfl) (Nat.le_of_ble_eq_true rfl) (Nat.le_of_ble_eq_true rfl) (w := 155) (index := 47) (b := 17) rfl (fun _ => rfl) (fun _ => rfl) (Nat.le_of_ble_eq_true rfl) (by decide +kernel) (by decide +kernel) h ?_
  clear h
  intro H locs h
  have h : zSw dC dI 13 a [.int 0, .ref (s.heap.size + 0), .ref (s.heap.size + 1), .int 0, .ref (s.heap.size + 2), .int 0, .ref (s.heap.size + 3), .ref (s.heap.size + 4), .int 0, .int 0, .int (-1), .ref (s.heap.size + 5), .ref (s.heap.size + 6), .ref (s.heap.size + 7), .ref (s.heap.size + 8), .ref (s.heap.size + 9), .ref (s.heap.size + 10), .ref (s.heap.size + 11), .int 0, .null, .long 0, .int 0, .null, .null, .null, .null, .null, .null, .null, .int 0, .int 0] [zrI cs 259 0, zrI cs 2072 0, zrI cs 259 0, zrI cs 259 0, zrI cs 60 0, zrI cs 64 0, zrI cs 64 0, zrI cs 64 0, zrI cs 64 0, zrI cs 64 0, zrI cs 64 0, zrI cs 64 0] s.heap H locs := h
  refine lv_aload_n X.1 X.2.1 (show decode cX12_init 109 = .ok (.aload_n 0, 1) by decide +kernel) rfl (lv_at hl 0 rfl) ?_
  refine lv_bipush (n := 64) (v := 64) X.1 X.2.1 (show decode cX12_init 110 = .ok (.bipush (64), 2) by decide +kernel) (by decide) ?_
  refine zc_row X 20 (atype := .int) (N := 64) (by decide) rfl (fun _ h9 => by cases h9) zw_int (64, .inl (fun _ => 0)) (fun _ => rfl) (by decide) (by decide) (Nat.le_of_ble_eq_true rfl) (Nat.le_of_ble_eq_true rfl) (Nat.le_of_ble_eq_true rfl) (w := 157) (index := 50) (b := 19) rfl (fun _ => rfl) (fun _ => rfl) (Nat.le_of_ble_eq_true rfl) (by decide +kernel) (by decide +kernel) h ?_
  clear h
  intro H locs h
  have h : zSw dC dI 13 a [.int 0, .ref (s.heap.size + 0), .ref (s.heap.size + 1), .int 0, .ref (s.heap.size + 2), .int 0, .ref (s.heap.size + 3), .ref (s.heap.size + 4), .int 0, .int 0, .int (-1), .ref (s.heap.size + 5), .ref (s.heap.size + 6), .ref (s.heap.size + 7), .ref (s.heap.size + 8), .ref (s.heap.size + 9), .ref (s.heap.size + 10), .ref (s.heap.size + 11), .int 0, .ref (s.heap.size + 12), .long 0, .int 0, .null, .null, .null, .null, .null, .null, .null, .int 0, .int 0] [zrI cs 259 0, zrI cs 2072 0, zrI cs 259 0, zrI cs 259 0, zrI cs 60 0, zrI cs 64 0, zrI cs 64 0, zrI cs 64 0, zrI cs 64 0, zrI cs 64 0, zrI cs 64 0, zrI cs 64 0, zrI cs 64 0] s.heap H locs := h
  refine lv_aload_n X.1 X.2.1 (show decode cX12_init 117 = .ok (.aload_n 0, 1) by decide +kernel) rfl (lv_at hl 0 rfl) ?_
  refine lv_sipush (n := 128) (v := 128) X.1 X.2.1 (show decode cX12_init 118 = .ok (.sipush (128), 3) by decide +kernel) (by decide) ?_
  refine zc_row X 20 (atype := .int) (N := 128) (by decide) rfl (fun _ h9 => by cases h9) zw_int (128, .inl (fun _ => 0)) (fun _ => rfl) (by decide) (by decide) (Nat.le_of_ble_eq_true rfl) (Nat.le_of_ble_eq_true rfl) (Nat.le_of_ble_eq_true rfl) (w := 160) (index := 53) (b := 22) rfl (fun _ => rfl) (fun _ => rfl) (Nat.le_of_ble_eq_true rfl) (by decide +kernel) (by decide +kernel) h ?_
  clear h
  intro H locs h
  have h : zSw dC dI 13 a [.int 0, .ref (s.heap.size + 0), .ref (s.heap.size + 1), .int 0, .ref (s.heap.size + 2), .int 0, .ref (s.heap.size + 3), .ref (s.heap.size + 4), .int 0, .int 0, .int (-1), .ref (s.heap.size + 5), .ref (s.heap.size + 6), .ref (s.heap.size + 7), .ref (s.heap.size + 8), .ref (s.heap.size + 9), .ref (s.heap.size + 10), .ref (s.heap.size + 11), .int 0, .ref (s.heap.size + 12), .long 0, .int 0, .ref (s.heap.size + 13), .null, .null, .null, .null, .null, .null, .int 0, .int 0] [zrI cs 259 0, zrI cs 2072 0, zrI cs 259 0, zrI cs 259 0, zrI cs 60 0, zrI cs 64 0, zrI cs 64 0, zrI cs 64 0, zrI cs 64 0, zrI cs 64 0, zrI cs 64 0, zrI cs 64 0, zrI cs 64 0, zrI cs 128 0] s.heap H locs := h
  refine lv_aload_n X.1 X.2.1 (show decode cX12_init 126 = .ok (.aload_n 0, 1) by decide +kernel) rfl (lv_at hl 0 rfl) ?_
  refine lv_sipush (n := 128) (v := 128) X.1 X.2.1 (show decode cX12_init 127 = .ok (.sipush (128), 3) by decide +kernel) (by decide) ?_
  refine zc_row X 20 (atype := .int) (N := 128) (by decide) rfl (fun _ h9 => by cases h9) zw_int (128, .inl (fun _ => 0)) (fun _ => rfl) (by decide) (by decide) (Nat.le_of_ble_eq_true rfl) (Nat.le_of_ble_eq_true rfl) (Nat.le_of_ble_eq_true rfl) (w := 161) (index := 56) (b := 23) rfl (fun _ => rfl) (fun _ => rfl) (Nat.le_of_ble_eq_true rfl) (by decide +kernel) (by decide +kernel) h ?_
  clear h
  intro H locs h
  have h : zSw dC dI 13 a [.int 0, .ref (s.heap.size + 0), .ref (s.heap.size + 1), .int 0, .ref (s.heap.size + 2), .int 0, .ref (s.heap.size + 3), .ref (s.heap.size + 4), .int 0, .int 0, .int (-1), .ref (s.heap.size + 5), .ref (s.heap.size + 6), .ref (s.heap.size + 7), .ref (s.heap.size + 8), .ref (s.heap.size + 9), .ref (s.heap.size + 10), .ref (s.heap.size + 11), .int 0, .ref (s.heap.size + 12), .long 0, .int 0, .ref (s.heap.size + 13), .ref (s.heap.size + 14), .null, .null, .null, .null, .null, .int 0, .int 0] [zrI cs 259 0, zrI cs 2072 0, zrI cs 259 0, zrI cs 259 0, zrI cs 60 0, zrI cs 64 0, zrI cs 64 0, zrI cs 64 0, zrI cs 64 0, zrI cs 64 0, zrI cs 64 0, zrI cs 64 0, zrI cs 64 0, zrI cs 128 0, zrI cs 128 0] s.heap H locs := h
  refine lv_aload_n X.1 X.2.1 (show decode cX12_init 135 = .ok (.aload_n 0, 1) by decide +kernel) rfl (lv_at hl 0 rfl) ?_
  refine lv_sipush (n := 128) (v := 128) X.1 X.2.1 (show decode cX12_init 136 = .ok (.sipush (128), 3) by decide +kernel) (by decide) ?_
  refine zc_row X 20 (atype := .int) (N := 128) (by decide) rfl (fun _ h9 => by cases h9) zw_int (128, .inl (fun _ => 0)) (fun _ => rfl) (by decide) (by decide) (Nat.le_of_ble_eq_true rfl) (Nat.le_of_ble_eq_true rfl) (Nat.le_of_ble_eq_true rfl) (w := 162) (index := 59) (b := 24) rfl (fun _ => rfl) (fun _ => rfl) (Nat.le_of_ble_eq_true rfl) (by decide +kernel) (by decide +kernel) h ?_
  clear h
  intro H locs h
  have h : zSw dC dI 13 a [.int 0, .ref (s.heap.size + 0), .ref (s.heap.size + 1), .int 0, .ref (s.heap.size + 2), .int 0, .ref (s.heap.size + 3), .ref (s.heap.size + 4), .int 0, .int 0, .int (-1), .ref (s.heap.size + 5), .ref (s.heap.size + 6), .ref (s.heap.size + 7), .ref (s.heap.size + 8), .ref (s.heap.size + 9), .ref (s.heap.size + 10), .ref (s.heap.size + 11), .int 0, .ref (s.heap.size + 12), .long 0, .int 0, .ref (s.heap.size + 13), .ref (s.heap.size + 14), .ref (s.heap.size + 15), .null, .null, .null, .null, .int 0, .int 0] [zrI cs 259 0, zrI cs 2072 0, zrI cs 259 0, zrI cs 259 0, zrI cs 60 0, zrI cs 64 0, zrI cs 64 0, zrI cs 64 0, zrI cs 64 0, zrI cs 64 0, zrI cs 64 0, zrI cs 64 0, zrI cs 64 0, zrI cs 128 0, zrI cs 128 0, zrI cs 128 0] s.heap H locs := h
  refine lv_aload_n X.1 X.2.1 (show decode cX12_init 144 = .ok (.aload_n 0, 1) by decide +kernel) rfl (lv_at hl 0 rfl) ?_
  refine lv_sipush (n := 128) (v := 128) X.1 X.2.1 (show decode cX12_init 145 = .ok (.sipush (128), 3) by decide +kernel) (by decide) ?_
  refine zc_row X 30 (atype := .long) (N := 128) (by decide) rfl (fun _ h9 => by cases h9) zw_long (128, .inr (.inl (fun _ => 0))) (fun _ => rfl) (by decide) (by decide) (Nat.le_of_ble_eq_true rfl) (Nat.le_of_ble_eq_true rfl) (Nat.le_of_ble_eq_true rfl) (w := 163) (index := 62) (b := 25) rfl (fun _ => rfl) (fun _ => rfl) (Nat.le_of_ble_eq_true rfl) (by decide +kernel) (by decide +kernel) h ?_
  clear h
  intro H locs h
  have h : zSw dC dI 13 a [.int 0, .ref (s.heap.size + 0), .ref (s.heap.size + 1), .int 0, .ref (s.heap.size + 2), .int 0, .ref (s.heap.size + 3), .ref (s.heap.size + 4), .int 0, .int 0, .int (-1), .ref (s.heap.size + 5), .ref (s.heap.size + 6), .ref (s.heap.size + 7), .ref (s.heap.size + 8), .ref (s.heap.size + 9), .ref (s.heap.size + 10), .ref (s.heap.size + 11), .int 0, .ref (s.heap.size + 12), .long 0, .int 0, .ref (s.heap.size + 13), .ref (s.heap.size + 14), .ref (s.heap.size + 15), .ref (s.heap.size + 16), .null, .null, .null, .int 0, .int 0] [zrI cs 259 0, zrI cs 2072 0, zrI cs 259 0, zrI cs 259 0, zrI cs 60 0, zrI cs 64 0, zrI cs 64 0, zrI cs 64 0, zrI cs 64 0, zrI cs 64 0, zrI cs 64 0, zrI cs 64 0, zrI cs 64 0, zrI cs 128 0, zrI cs 128 0, zrI cs 128 0, zrL cs 128] s.heap H locs := h
  refine lv_aload_n X.1 X.2.1 (show decode cX12_init 153 = .ok (.aload_n 0, 1) by decide +kernel) rfl (lv_at hl 0 rfl) ?_
  refine lv_sipush (n := 128) (v := 128) X.1 X.2.1 (show decode cX12_init 154 = .ok (.sipush (128), 3) by decide +kernel) (by decide) ?_
  refine zc_row X 30 (atype := .long) (N := 128) (by decide) rfl (fun _ h9 => by cases h9) zw_long (128, .inr (.inl (fun _ => 0))) (fun _ => rfl) (by decide) (by decide) (Nat.le_of_ble_eq_true rfl) (Nat.le_of_ble_eq_true rfl) (Nat.le_of_ble_eq_true rfl) (w := 164) (index := 66) (b := 26) rfl (fun _ => rfl) (fun _ => rfl) (Nat.le_of_ble_eq_true rfl) (by decide +kernel) (by decide +kernel) h ?_
  clear h
  intro H locs h
  have h : zSw dC dI 13 a [.int 0, .ref (s.heap.size + 0), .ref (s.heap.size + 1), .int 0, .ref (s.heap.size + 2), .int 0, .ref (s.heap.size + 3), .ref (s.heap.size + 4), .int 0, .int 0, .int (-1), .ref (s.heap.size + 5), .ref (s.heap.size + 6), .ref (s.heap.size + 7), .ref (s.heap.size + 8), .ref (s.heap.size + 9), .ref (s.heap.size + 10), .ref (s.heap.size + 11), .int 0, .ref (s.heap.size + 12), .long 0, .int 0, .ref (s.heap.size + 13), .ref (s.heap.size + 14), .ref (s.heap.size + 15), .ref (s.heap.size + 16), .ref (s.heap.size + 17), .null, .null, .int 0, .int 0] [zrI cs 259 0, zrI cs 2072 0, zrI cs 259 0, zrI cs 259 0, zrI cs 60 0, zrI cs 64 0, zrI cs 64 0, zrI cs 64 0, zrI cs 64 0, zrI cs 64 0, zrI cs 64 0, zrI cs 64 0, zrI cs 64 0, zrI cs 128 0, zrI cs 128 0, zrI cs 128 0, zrL cs 128, zrL cs 128] s.heap H locs := h
  refine lv_aload_n X.1 X.2.1 (show decode cX12_init 162 = .ok (.aload_n 0, 1) by decide +kernel) rfl (lv_at hl 0 rfl) ?_
  refine lv_sipush (n := 6400) (v := 6400) X.1 X.2.1 (show decode cX12_init 163 = .ok (.sipush (6400), 3) by decide +kernel) (by decide) ?_
  refine zc_row X 20 (atype := .int) (N := 6400) (by decide) rfl (fun _ h9 => by cases h9) zw_int (6400, .inl (fun _ => 0)) (fun _ => rfl) (by decide) (by decide) (Nat.le_of_ble_eq_true rfl) (Nat.le_of_ble_eq_true rfl) (Nat.le_of_ble_eq_true rfl) (w := 165) (index := 69) (b := 27) rfl (fun _ => rfl) (fun _ => rfl) (Nat.le_of_ble_eq_true rfl) (by decide +kernel) (by decide +kernel) h ?_
  clear h
  intro H locs h
  have h : zSw dC dI 13 a [.int 0, .ref (s.heap.size + 0), .ref (s.heap.size + 1), .int 0, .ref (s.heap.size + 2), .int 0, .ref (s.heap.size + 3), .ref (s.heap.size + 4), .int 0, .int 0, .int (-1), .ref (s.heap.size + 5), .ref (s.heap.size + 6), .ref (s.heap.size + 7), .ref (s.heap.size + 8), .ref (s.heap.size + 9), .ref (s.heap.size + 10), .ref (s.heap.size + 11), .int 0, .ref (s.heap.size + 12), .long 0, .int 0, .ref (s.heap.size + 13), .ref (s.heap.size + 14), .ref (s.heap.size + 15), .ref (s.heap.size + 16), .ref (s.heap.size + 17), .ref (s.heap.size + 18), .null, .int 0, .int 0] [zrI cs 259 0, zrI cs 2072 0, zrI cs 259 0, zrI cs 259 0, zrI cs 60 0, zrI cs 64 0, zrI cs 64 0, zrI cs 64 0, zrI cs 64 0, zrI cs 64 0, zrI cs 64 0, zrI cs 64 0, zrI cs 64 0, zrI cs 128 0, zrI cs 128 0, zrI cs 128 0, zrL cs 128, zrL cs 128, zrI cs 6400 0] s.heap H locs := h
  refine lv_aload_n X.1 X.2.1 (show decode cX12_init 171 = .ok (.aload_n 0, 1) by decide +kernel) rfl (lv_at hl 0 rfl) ?_
  refine lv_bipush (n := 65) (v := 65) X.1 X.2.1 (show decode cX12_init 172 = .ok (.bipush (65), 2) by decide +kernel) (by decide) ?_
  refine zc_row X 20 (atype := .int) (N := 65) (by decide) rfl (fun _ h9 => by cases h9) zw_int (65, .inl (fun _ => 0)) (fun _ => rfl) (by decide) (by decide) (Nat.le_of_ble_eq_true rfl) (Nat.le_of_ble_eq_true rfl) (Nat.le_of_ble_eq_true rfl) (w := 166) (index := 72) (b := 28) rfl (fun _ => rfl) (fun _ => rfl) (Nat.le_of_ble_eq_true rfl) (by decide +kernel) (by decide +kernel) h ?_
  clear h
  intro H locs h
  have h : zSw dC dI 13 a [.int 0, .ref (s.heap.size + 0), .ref (s.heap.size + 1), .int 0, .ref (s.heap.size + 2), .int 0, .ref (s.heap.size + 3), .ref (s.heap.size + 4), .int 0, .int 0, .int (-1), .ref (s.heap.size + 5), .ref (s.heap.size + 6), .ref (s.heap.size + 7), .ref (s.heap.size + 8), .ref (s.heap.size + 9), .ref (s.heap.size + 10), .ref (s.heap.size + 11), .int 0, .ref (s.heap.size + 12), .long 0, .int 0, .ref (s.heap.size + 13), .ref (s.heap.size + 14), .ref (s.heap.size + 15), .ref (s.heap.size + 16), .ref (s.heap.size + 17), .ref (s.heap.size + 18), .ref (s.heap.size + 19), .int 0, .int 0] [zrI cs 259 0, zrI cs 2072 0, zrI cs 259 0, zrI cs 259 0, zrI cs 60 0, zrI cs 64 0, zrI cs 64 0, zrI cs 64 0, zrI cs 64 0, zrI cs 64 0, zrI cs 64 0, zrI cs 64 0, zrI cs 64 0, zrI cs 128 0, zrI cs 128 0, zrI cs 128 0, zrL cs 128, zrL cs 128, zrI cs 6400 0, zrI cs 65 0] s.heap H locs := h
  refine lv_aload_n X.1 X.2.1 (show decode cX12_init 179 = .ok (.aload_n 0, 1) by decide +kernel) rfl (lv_at hl 0 rfl) ?_
  refine lv_iconst (n := 5) (v := 5) X.1 X.2.1 (show decode cX12_init 180 = .ok (.iconst (5), 1) by decide +kernel) (by decide) ?_
  refine lv_iconst (n := 5) (v := 5) X.1 X.2.1 (show decode cX12_init 181 = .ok (.iconst (5), 1) by decide +kernel) (by decide) ?_
  have hI : z_I (zFa a s.heap.size) (zaM a s.heap.size) zN2 zRf dC dI (fun k _ => cs (z_aty k)) s.heap zmM H locs := by
    obtain ⟨g1, g2⟩ := h.PD [(s.heap.size + 0, zrI cs 259 0)] (fun i q hq => by
      have hi : i < 1 := (List.getElem?_eq_some_iff.mp hq).1
      rcases (show i = 0 by omega) with rfl
      cases hq
      exact ⟨rfl, rfl⟩)
    rw [← zwM1 a s.heap.size cs] at g1 g2
    exact ⟨g1, g2, h.2.2.2.1⟩
  obtain ⟨m1, w1, w2, w3⟩ := s_lays (w := 5) (h := 5) (t := 0) (m := zmM) rfl
  refine zc_zcall X htr hml hl z_okN2 (ad := zaM a s.heap.size) (fun k i hk => ?_) (d := 1) (y := 160) (b := 3) (w := 270) (v := 75) [.inl (.int 5), .inl (.int 5), .inr (13, 0)] (mm := zmM) (mm' := m1) (zj_X12_lays 0 0 5 5 zmM m1 w1) (by decide +kernel) (Nat.le_of_ble_eq_true rfl) (Nat.le_of_ble_eq_true rfl) ⟨(Nat.le_of_ble_eq_true rfl), (Nat.le_of_ble_eq_true rfl)⟩ (Nat.le_of_ble_eq_true rfl) (by decide) ⟨rfl, by decide⟩ hI ?_
  · have hk2 : (k = 13 ∨ k = 23) ∧ i = 0 := by
      unfold zN2 at hk
      split at hk
      · exact ⟨.inl rfl, by omega⟩
      · exact ⟨.inr rfl, by omega⟩
      · omega
    obtain ⟨rfl | rfl, rfl⟩ := hk2
    · exact .inl rfl
    · exact .inr (Nat.le_refl _)
  intro H1 locs1 hI1 hz1 hz2 hfr
  obtain ⟨g1, g2, g3⟩ := hI1
  rw [zwM2 a s.heap.size cs m1] at g1
  have h3 : H.size = s.heap.size + 20 := h.1
  have hz : H1.size = s.heap.size + 20 := by
    have h4 : H1.size ≤ s.heap.size + 20 := hz1
    omega
  have ea : z_cE (zaM a s.heap.size) zRf (fun k _ => cs (z_aty k)) m1 13 0 = .inr (13, [.int 0, .ref (s.heap.size + 0), .ref (s.heap.size + 1), .int 0, .ref (s.heap.size + 2), .int 0, .ref (s.heap.size + 3), .ref (s.heap.size + 4), .int 0, .int 0, .int (-1), .ref (s.heap.size + 5), .ref (s.heap.size + 6), .ref (s.heap.size + 7), .ref (s.heap.size + 8), .ref (s.heap.size + 9), .ref (s.heap.size + 10), .ref (s.heap.size + 11), .int 0, .ref (s.heap.size + 12), .long 0, .int 0, .ref (s.heap.size + 13), .ref (s.heap.size + 14), .ref (s.heap.size + 15), .ref (s.heap.size + 16), .ref (s.heap.size + 17), .ref (s.heap.size + 18), .ref (s.heap.size + 19), .int 0, .int 0]) := by
    rw [← zwM3 a s.heap.size cs]
    exact z_cE_ext (w2.row fun j => by omega) (funext fun j => (w2 13 0 j (by omega)).2.1) (funext fun j => (w2 13 0 j (by omega)).2.2)
  have hat := g1 0 _ rfl
  rw [ea] at hat
  have h9 : zSw dC dI 13 a [.int 0, .ref (s.heap.size + 0), .ref (s.heap.size + 1), .int 0, .ref (s.heap.size + 2), .int 0, .ref (s.heap.size + 3), .ref (s.heap.size + 4), .int 0, .int 0, .int (-1), .ref (s.heap.size + 5), .ref (s.heap.size + 6), .ref (s.heap.size + 7), .ref (s.heap.size + 8), .ref (s.heap.size + 9), .ref (s.heap.size + 10), .ref (s.heap.size + 11), .int 0, .ref (s.heap.size + 12), .long 0, .int 0, .ref (s.heap.size + 13), .ref (s.heap.size + 14), .ref (s.heap.size + 15), .ref (s.heap.size + 16), .ref (s.heap.size + 17), .ref (s.heap.size + 18), .ref (s.heap.size + 19), .int 0, .int 0] (.inl (cs 0, 259, .inl (m1.1 23 0)) :: [zrI cs 2072 0, zrI cs 259 0, zrI cs 259 0, zrI cs 60 0, zrI cs 64 0, zrI cs 64 0, zrI cs 64 0, zrI cs 64 0, zrI cs 64 0, zrI cs 64 0, zrI cs 64 0, zrI cs 64 0, zrI cs 128 0, zrI cs 128 0, zrI cs 128 0, zrL cs 128, zrL cs 128, zrI cs 6400 0, zrI cs 65 0]) s.heap H1 locs1 := by
    refine ⟨hz, hat, fun j x hj => ?_, g3, h.2.2.2.2⟩
    cases j with
    | zero =>
      cases hj
      exact g1 1 _ rfl
    | succ j =>
      have hj20 : j + 1 < 20 := (List.getElem?_eq_some_iff.mp hj).1
      refine (h.2.2.1 (j + 1) x hj).kept (hfr (s.heap.size + (j + 1)) (by omega) fun k i hk => ?_)
      have hk2 : (k = 13 ∨ k = 23) ∧ i = 0 := by
        unfold zN2 at hk
        split at hk
        · exact ⟨.inl rfl, by omega⟩
        · exact ⟨.inr rfl, by omega⟩
        · omega
      have ha := h.2.2.2.2
      obtain ⟨rfl | rfl, rfl⟩ := hk2
      · show s.heap.size + (j + 1) ≠ a
        omega
      · show s.heap.size + (j + 1) ≠ s.heap.size + 0
        omega
  clear hI hat
  clear h
  obtain ⟨hc1, hc2, hc3, hc4⟩ := z_cls (k := 13) (by decide)
  obtain ⟨hw, hdc, -, -, -⟩ := z_FL_all _ (List.mem_of_getElem? (show z_FL[139]? = some (13, 9, 13, 1) from rfl))
  refine lv_aload_n X.1 X.2.1 (show decode cX12_init 185 = .ok (.aload_n 0, 1) by decide +kernel) rfl (lv_at hl 0 rfl) ?_
  refine va_get (D := (dC, dI)) (C := (z_C 13).1) (T := (z_C 13).2.1) (N := (z_C 13).2.2) X.1 X.2.1 X.2.2.1 hc2 X.2.2.2.1 X.2.2.2.2.2.1 h9.ws 0 rfl hc1 1 (by decide) (X.2.2.1 _ hw) (fun x h9 => by rw [hdc] at h9; exact h9) (v := .ref (s.heap.size + 0)) rfl (show decode cX12_init 186 = .ok (.getfield 9, 3) by decide +kernel) ?_
  refine lv_iconst (n := 2) (v := 2) X.1 X.2.1 (show decode cX12_init 189 = .ok (.iconst 2, 1) by decide +kernel) (by decide) ?_
  refine lv_iconst (n := 5) (v := 5) X.1 X.2.1 (show decode cX12_init 190 = .ok (.iconst 5, 1) by decide +kernel) (by decide) ?_
  refine zc_iast X (j0 := 0) (n := 259) (f := m1.1 23 0) (i := 2) (x := 5) rfl (by unfold vp_in; decide) (show decode cX12_init 191 = .ok (.iastore, 1) by decide +kernel) h9 ?_
  clear h9
  intro H locs h
  have h : zSw dC dI 13 a [.int 0, .ref (s.heap.size + 0), .ref (s.heap.size + 1), .int 0, .ref (s.heap.size + 2), .int 0, .ref (s.heap.size + 3), .ref (s.heap.size + 4), .int 0, .int 0, .int (-1), .ref (s.heap.size + 5), .ref (s.heap.size + 6), .ref (s.heap.size + 7), .ref (s.heap.size + 8), .ref (s.heap.size + 9), .ref (s.heap.size + 10), .ref (s.heap.size + 11), .int 0, .ref (s.heap.size + 12), .long 0, .int 0, .ref (s.heap.size + 13), .ref (s.heap.size + 14), .ref (s.heap.size + 15), .ref (s.heap.size + 16), .ref (s.heap.size + 17), .ref (s.heap.size + 18), .ref (s.heap.size + 19), .int 0, .int 0] (.inl (cs 0, 259, .inl (fun j => if j = 2 then 5 else m1.1 23 0 j)) :: [zrI cs 2072 0, zrI cs 259 0, zrI cs 259 0, zrI cs 60 0, zrI cs 64 0, zrI cs 64 0, zrI cs 64 0, zrI cs 64 0, zrI cs 64 0, zrI cs 64 0, zrI cs 64 0, zrI cs 64 0, zrI cs 128 0, zrI cs 128 0, zrI cs 128 0, zrL cs 128, zrL cs 128, zrI cs 6400 0, zrI cs 65 0]) s.heap H locs := h
  have hf : zSw dC dI 13 a [.int 0, .ref (s.heap.size + 0), .ref (s.heap.size + 1), .int 0, .ref (s.heap.size + 2), .int 0, .ref (s.heap.size + 3), .ref (s.heap.size + 4), .int 0, .int 0, .int (-1), .ref (s.heap.size + 5), .ref (s.heap.size + 6), .ref (s.heap.size + 7), .ref (s.heap.size + 8), .ref (s.heap.size + 9), .ref (s.heap.size + 10), .ref (s.heap.size + 11), .int 0, .ref (s.heap.size + 12), .long 0, .int 0, .ref (s.heap.size + 13), .ref (s.heap.size + 14), .ref (s.heap.size + 15), .ref (s.heap.size + 16), .ref (s.heap.size + 17), .ref (s.heap.size + 18), .ref (s.heap.size + 19), .int 0, .int 0] (.inl (cs 0, 259, .inl zmf) :: [zrI cs 2072 0, zrI cs 259 0, zrI cs 259 0, zrI cs 60 0, zrI cs 64 0, zrI cs 64 0, zrI cs 64 0, zrI cs 64 0, zrI cs 64 0, zrI cs 64 0, zrI cs 64 0, zrI cs 64 0, zrI cs 128 0, zrI cs 128 0, zrI cs 128 0, zrL cs 128, zrL cs 128, zrI cs 6400 0, zrI cs 65 0]) s.heap H locs := by
    refine ⟨h.1, h.2.1, fun j x hj => ?_, h.2.2.2.1, h.2.2.2.2⟩
    cases j with
    | zero =>
      cases hj
      exact (h.2.2.1 0 _ rfl).trans (congrArg some (z_arr_ext (zmf_of w3)))
    | succ j => exact h.2.2.1 (j + 1) x hj
  exact zc_end X hr hlocks (Nat.le_of_ble_eq_true rfl) (Nat.le_of_ble_eq_true rfl) (show decode cX12_init 192 = .ok (.return_, 1) by decide +kernel) hf

