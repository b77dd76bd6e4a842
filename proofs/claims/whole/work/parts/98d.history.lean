/-! The history's constructor. -/
abbrev zQ (f : Nat → Option Nat) : (Nat → Int32) ⊕ (Nat → Int64) ⊕ (Nat → UInt32) ⊕ (Nat → UInt64) ⊕ (Nat → Option Nat) := .inr (.inr (.inr (.inr f)))
abbrev zgF (q : Nat) : List Value := [.int 5, .int 5, .int 5, .long 1, .ref (q + 0), .ref (q + 1), .ref (q + 2)]
def zhG (cs : Nat → ClassId) (sz : Nat) : Nat → List va_E
  | 0 => []
  | i + 1 => zhG cs sz i ++ [.inr (6, zgF (sz + (1 + 4 * i) + 1)), zrI cs 64 50, zrI cs 64 1, zrI cs 64 0]
theorem zhG_len (cs : Nat → ClassId) (sz : Nat) : ∀ i, (zhG cs sz i).length = 4 * i
  | 0 => rfl
  | i + 1 => by
    show (zhG cs sz i ++ _).length = _
    rw [List.length_append, zhG_len cs sz i]
    show 4 * i + 4 = 4 * (i + 1)
    omega
def zhE (cs : Nat → ClassId) (sz i : Nat) : List va_E := .inl (cs 4, 8, zQ (fun j => if j < i then some (sz + (1 + 4 * j)) else none)) :: zhG cs sz i
theorem zhE_len (cs : Nat → ClassId) (sz i : Nat) : (zhE cs sz i).length = 1 + 4 * i := by
  show (zhG cs sz i).length + 1 = _
  rw [zhG_len]
  omega
section
variable {p : Program} {l : Launch} {e : Env} {R : Room} {s : State} {m : MethodId} {args : Array Value} {below : List Frame} {meth : Method} {c : Code} {H : Heap} {locs : List Loc} {cells slots : Nat} {Q : State → Prop}
variable {cc : ByteArray} {pc : Nat} {ls : Array Slot} {rest : List Value}
variable {dC : Nat → ClassId} {dI : Nat → Nat → Nat} {cs : Nat → ClassId} {ci a : Nat} {fs : List Value} {es : List va_E}
/-- a row of grids, all null -/
theorem zc_anew (X : zCx dC dI cs ci a p s m args meth c cc) {i1 : Nat} {n : Int32} {N : Nat} (hcl : Cond.classLink (z_cn ci) i1 RX4 ∈ z_W) (hn : ¬ n < 0) (hN : n.toNatClampNeg = N) (hbytes : N * 4 ≤ 536870912) (hcells : cells + 1 ≤ R.cells) (hslots : slots + N ≤ R.slots) (hd : decode cc pc = .ok (.anewarray i1, 3)) (h : zSw dC dI ci a fs es s.heap H locs)
    (kk : ∀ H1 : Heap, zSw dC dI ci a fs (es ++ [.inl (cs 4, N, zQ (fun _ => none))]) s.heap H1 locs → W p l e R s m args below meth c H1 locs (cells + 1) (slots + N) Q (F0 m (pc + 3) ls (.ref (s.heap.size + es.length) :: rest))) : W p l e R s m args below meth c H locs cells slots Q (F0 m pc ls (.int n :: rest)) := by
  subst hN
  obtain ⟨hx, hb, hts, hown, hin, hE⟩ := X
  refine W.anew hx hb hown (hts _ hcl) (va_AO.use hE.2.2.2) rfl hd rfl hn hbytes hcells hslots fun cA kA comp f1 f2 f3 f4 => ?_
  obtain ⟨kB, comp2, -, -, -, k4⟩ : va_RA s (cs 4) (.object RX4) := (hE.2.1 35 (by decide)).2
  have hcA : cA = cs 4 := Option.some.inj (f1.symm.trans k4)
  subst hcA
  generalize hH1 : H.push ({ cls := cs 4, slots := Array.replicate n.toNatClampNeg .null, vm := .none } : Cell) = H1
  have z1 : H1.size = H.size + 1 := by rw [← hH1, Array.size_push]
  have e1 : H1[H.size]? = some (arrV (cs 4) n.toNatClampNeg (fun _ => .null)) := by rw [← hH1, Array.getElem?_push_size, ← arrV_new]
  have o1 : ∀ q : Nat, q < H.size → H1[q]? = H[q]? := fun q hq => by rw [← hH1, Array.getElem?_push, if_neg (Nat.ne_of_lt hq)]
  have h' := h.grow (es' := [.inl (cs 4, n.toNatClampNeg, zQ (fun _ => none))]) (L := []) (by rw [z1]; rfl) o1 (fun j x hj => by
    have hz : j < 1 := (List.getElem?_eq_some_iff.mp hj).1
    rw [show j = 0 by omega] at hj ⊢
    cases hj
    show H1[H.size + 0]? = some (vp_cell _ _)
    rw [vp_cell_q]
    exact e1) (fun q hq => by cases hq)
  rw [List.append_nil] at h'
  have := kk H1 h'
  rw [← h.1] at this
  exact this
/-- a grid into a row of grids -/
theorem zc_aast (X : zCx dC dI cs ci a p s m args meth c cc) {j0 jv n : Nat} {f : Nat → Option Nat} {vs : List Value} {i : Int32} (ha : es[j0]? = some (.inl (cs 4, n, zQ f))) (hv : es[jv]? = some (.inr (6, vs))) (hin : vp_in i n) (hd : decode cc pc = .ok (.aastore, 1)) (h : zSw dC dI ci a fs es s.heap H locs)
    (kk : ∀ (H1 : Heap) (locs1 : List Loc), zSw dC dI ci a fs (es.set j0 (.inl (cs 4, n, zQ (va_up f i.toNatClampNeg (some (s.heap.size + jv)))))) s.heap H1 locs1 → W p l e R s m args below meth c H1 locs1 cells slots Q (F0 m (pc + 1) ls rest)) : W p l e R s m args below meth c H locs cells slots Q (F0 m pc ls (.ref (s.heap.size + jv) :: .int i :: .ref (s.heap.size + j0) :: rest)) := by
  obtain ⟨hx, hb, hts, hown, hin', hE⟩ := X
  have hlt : i.toNatClampNeg < n := Nat.not_le.mp fun q => hin (Or.inr q)
  have h0 : ¬ i < 0 := fun q => hin (Or.inl q)
  have hP0 := h.2.2.1 j0 _ ha
  obtain ⟨r', hr', cellV, g1, g2, g3, -⟩ := h.2.2.1 jv _ hv
  obtain ⟨hc1, -⟩ := z_cls (k := 6) (by decide)
  have hcls := (hE.1.1 6 _ hc1).2
  obtain ⟨kA, comp, k1, k2, k3, -⟩ : va_RA s (cs 4) (.object RX4) := (hE.2.1 35 (by decide)).2
  have hcomp : comp = dC 6 := Option.some.inj (k3.symm.trans hcls.1)
  subst hcomp
  obtain ⟨kC, hkC, -⟩ := hcls.2
  refine W.aast hx hb hP0 (fun q h => by cases h) (fun h => by cases h) k1 k2 rfl hkC ⟨h0, by show _ < (arrV _ _ _).slots.size; rw [arrV_size]; exact hlt⟩ g1 (fun q h => by rw [g3] at h; cases h) (by rw [g2]; exact hkC) (by rw [g2]; exact va_assign hcls) rfl rfl hd fun H1 e z oq => ?_
  refine kk H1 _ (h.upd (List.getElem?_eq_some_iff.mp ha).1 z oq ?_)
  show H1[s.heap.size + j0]? = some (vp_cell _ _)
  rw [e]
  show some (Cell.setSlot (vp_cell (cs 4) (n, zQ f)) i.toNatClampNeg (.ref (s.heap.size + jv))) = _
  rw [vp_cell_q, vp_cell_q, arrV_store]
  congr 2
  funext q
  by_cases hq : q = i.toNatClampNeg
  · subst hq
    simp [updV, va_up, va_rf]
  · simp [updV, va_up, hq]
end
theorem zhf0 : ∀ j, j < (z_C 6).2.2 → defaultValue (z_tyf 6 j) = vp_V [.int 0, .int 0, .int 0, .long 0, .null, .null, .null] j := by
  intro j hj
  have hj : j < 7 := hj
  rcases (show j = 0 ∨ j = 1 ∨ j = 2 ∨ j = 3 ∨ j = 4 ∨ j = 5 ∨ j = 6 by omega) with rfl | rfl | rfl | rfl | rfl | rfl | rfl <;> rfl
set_option maxRecDepth 100000 in
set_option maxHeartbeats 4000000 in
theorem zc_hist (l : Launch) (htr : l.stackTraces = false) {p : Program} {e : Env} {s : State} {m : MethodId} {args : Array Value} {below : List Frame} {meth : Method} {c : Code} {dC : Nat → ClassId} {dI : Nat → Nat → Nat} {cs : Nat → ClassId} {a : Nat} (X : zCx dC dI cs 7 a p s m args meth c cX5_init) (hr : meth.sig.returnType = none) (hml : c.maxLocals = 2) (hlocks : meth.locks = false) :
    ∀ (n i : Nat), i ≤ 8 → 8 - i < n → ∀ (H : Heap) (locs : List Loc) (ls : Array Slot), lv_has ls 2 [(1, .int (Int32.ofNat i)), (0, .ref a)] → zSw dC dI 7 a [.ref (s.heap.size + 0), .int 0, .int 0] (zhE cs s.heap.size i) s.heap H locs → W p l e ({ frames := 9, cells := 33, slots := 1600, locals := 400 } : Room) s m args below meth c H locs (1 + 4 * i) (8 + 199 * i) (MQ below (zPost dC dI 7 a s.heap.size [.ref (s.heap.size + 0), .int 0, .int 0] (zhE cs s.heap.size 8)) args s 33 1600 (zFa a s.heap.size)) (F0 m 15 ls []) := by
  intro n
  induction n with
  | zero =>
    intro i _ h
    exact absurd h (Nat.not_lt_zero _)
  | succ n ih =>
    intro i hi hn H locs ls hl h
    have hx := X.1
    have hb := X.2.1
    have hts := X.2.2.1
    have hown := X.2.2.2.1
    have hE := X.2.2.2.2.2
    obtain ⟨hc1, hc2, hc3, hc4⟩ := z_cls (k := 7) (by decide)
    obtain ⟨hw, hdc, -, -, -⟩ := z_FL_all _ (List.mem_of_getElem? (show z_FL[26]? = some (7, 11, 7, 0) from rfl))
    have h0 : va_at (dC, dI) vwCl (s.heap.size + 0, .inl (cs 4, 8, zQ (fun j => if j < i then some (s.heap.size + (1 + 4 * j)) else none))) H := h.2.2.1 0 _ rfl
    have hP0 : va_P (dC, dI) vwCl [(s.heap.size + 0, .inl (cs 4, 8, zQ (fun j => if j < i then some (s.heap.size + (1 + 4 * j)) else none)))] H := fun k q hk => by
      have hz : k < 1 := (List.getElem?_eq_some_iff.mp hk).1
      rw [show k = 0 by omega] at hk
      cases hk
      exact h0
    have hK : va_K (dC, dI) vwCl [(cs 4, .object RX4)] s := ⟨hE.1.1, fun k q hk => by
      have hz : k < 1 := (List.getElem?_eq_some_iff.mp hk).1
      rw [show k = 0 by omega] at hk
      cases hk
      exact hE.2.1 35 (by decide)⟩
    have get : ∀ {pc : Nat} {rest : List Value} {Q : State → Prop} {cells slots : Nat}, decode cX5_init pc = .ok (.getfield 11, 3) → W p l e ({ frames := 9, cells := 33, slots := 1600, locals := 400 } : Room) s m args below meth c H locs cells slots Q (F0 m (pc + 3) ls (.ref (s.heap.size + 0) :: rest)) → W p l e ({ frames := 9, cells := 33, slots := 1600, locals := 400 } : Room) s m args below meth c H locs cells slots Q (F0 m pc ls (.ref a :: rest)) := fun {pc rest Q cells slots} hd k =>
      va_get (D := (dC, dI)) (C := (z_C 7).1) (T := (z_C 7).2.1) (N := (z_C 7).2.2) hx hb hts hc2 hown hE.1 h.ws 0 rfl hc1 0 (by decide) (hts _ hw) (fun x h9 => by rw [hdc] at h9; exact h9) (v := .ref (s.heap.size + 0)) rfl hd k
    refine lv_iload_n hx hb (show decode cX5_init 15 = .ok (.iload_n 1, 1) by decide +kernel) rfl (lv_at hl 0 rfl) ?_
    refine lv_aload_n hx hb (show decode cX5_init 16 = .ok (.aload_n 0, 1) by decide +kernel) rfl (lv_at hl 1 rfl) ?_
    refine get (show decode cX5_init 17 = .ok (.getfield 11, 3) by decide +kernel) ?_
    refine va_alen hx hb hK hP0 0 0 rfl rfl (v := 8) rfl (show decode cX5_init 20 = .ok (.arraylength, 1) by decide +kernel) ?_
    refine lv_icmp_ge (tgt := 43) hx hb (show decode cX5_init 21 = .ok (.if_icmp .ge 22, 3) by decide +kernel) (by decide) (fun cnd => ?_) (fun cnd => ?_)
    · have h8 : i = 8 := by
        have : 8 ≤ i := (zi_le (a := 8) (b := i) (by omega) (by omega)).mp cnd
        omega
      subst h8
      refine lv_aload_n hx hb (show decode cX5_init 43 = .ok (.aload_n 0, 1) by decide +kernel) rfl (lv_at hl 1 rfl) ?_
      refine lv_iconst (n := 0) (v := 0) hx hb (show decode cX5_init 44 = .ok (.iconst 0, 1) by decide +kernel) (by decide) ?_
      refine zc_put X (w := 27) (index := 16) (b := 1) (v := .int 0) rfl rfl rfl (Nat.le_of_ble_eq_true rfl) (show decode cX5_init 45 = .ok (.putfield 16, 3) by decide +kernel) h ?_
      clear h
      intro H locs h
      have h : zSw dC dI 7 a [.ref (s.heap.size + 0), .int 0, .int 0] (zhE cs s.heap.size 8) s.heap H locs := h
      refine lv_aload_n hx hb (show decode cX5_init 48 = .ok (.aload_n 0, 1) by decide +kernel) rfl (lv_at hl 1 rfl) ?_
      refine lv_iconst (n := 0) (v := 0) hx hb (show decode cX5_init 49 = .ok (.iconst 0, 1) by decide +kernel) (by decide) ?_
      refine zc_put X (w := 28) (index := 20) (b := 2) (v := .int 0) rfl rfl rfl (Nat.le_of_ble_eq_true rfl) (show decode cX5_init 50 = .ok (.putfield 20, 3) by decide +kernel) h ?_
      clear h
      intro H locs h
      have h : zSw dC dI 7 a [.ref (s.heap.size + 0), .int 0, .int 0] (zhE cs s.heap.size 8) s.heap H locs := h
      exact zc_end X hr hlocks (Nat.le_of_ble_eq_true rfl) (Nat.le_of_ble_eq_true rfl) (show decode cX5_init 53 = .ok (.return_, 1) by decide +kernel) h
    · have hi8 : i < 8 := by
        rcases Nat.lt_or_ge i 8 with w | w
        · exact w
        · exact absurd ((zi_le (a := 8) (b := i) (by omega) (by omega)).mpr w) cnd
      refine lv_aload_n hx hb (show decode cX5_init 24 = .ok (.aload_n 0, 1) by decide +kernel) rfl (lv_at hl 1 rfl) ?_
      refine get (show decode cX5_init 25 = .ok (.getfield 11, 3) by decide +kernel) ?_
      refine lv_iload_n hx hb (show decode cX5_init 28 = .ok (.iload_n 1, 1) by decide +kernel) rfl (lv_at hl 0 rfl) ?_
      refine zc_make X hml hl.1 6 (by decide) (by decide) (i1 := 9) (i2 := 15) (n := 1) (y := yX4_init) (cy := cX4_init) (z_at1 98 rfl rfl) (z_at1 38 rfl rfl) (z_at1 2 rfl rfl) (z_at1 100 rfl rfl) rfl rfl (z_at1 40 rfl rfl) ⟨by decide, by decide, by decide +kernel⟩ (z_at1 41 rfl rfl) (kX4_init l htr) zhf0 ⟨(Nat.le_of_ble_eq_true rfl), (Nat.le_of_ble_eq_true rfl)⟩ (by show 1 + 4 * i + 1 + 3 ≤ 33; omega) (by show 8 + 199 * i + 7 + 192 ≤ 1600; omega) (Nat.le_of_ble_eq_true rfl) (show decode cX5_init 29 = .ok (.new 9, 3) by decide +kernel) (show decode cX5_init 32 = .ok (.dup, 1) by decide +kernel) (show decode cX5_init 33 = .ok (.invokespecial 15, 3) by decide +kernel) h ?_
      clear h0 hP0
      clear h get
      intro H locs h
      rw [zhE_len] at h ⊢
      have hv : (zhE cs s.heap.size i ++ (.inr (6, zgF (s.heap.size + (1 + 4 * i) + 1)) :: [zrI cs 64 50, zrI cs 64 1, zrI cs 64 0]))[1 + 4 * i]? = some (.inr (6, zgF (s.heap.size + (1 + 4 * i) + 1))) := by
        rw [List.getElem?_append_right (Nat.le_of_eq (zhE_len _ _ _)), zhE_len, Nat.sub_self]
        rfl
      refine zc_aast X (j0 := 0) (jv := 1 + 4 * i) (n := 8) (i := Int32.ofNat i) rfl hv ?_ (show decode cX5_init 36 = .ok (.aastore, 1) by decide +kernel) h ?_
      · unfold vp_in
        rw [zi_nat (by omega)]
        rintro (h9 | h9)
        · exact zi_nn (by omega) h9
        · omega
      clear h
      intro H locs h
      rw [zi_nat (by omega)] at h
      have he : (zhE cs s.heap.size i ++ (.inr (6, zgF (s.heap.size + (1 + 4 * i) + 1)) :: [zrI cs 64 50, zrI cs 64 1, zrI cs 64 0])).set 0 (.inl (cs 4, 8, zQ (va_up (fun j => if j < i then some (s.heap.size + (1 + 4 * j)) else none) i (some (s.heap.size + (1 + 4 * i)))))) = zhE cs s.heap.size (i + 1) := by
        show _ :: (zhG cs s.heap.size i ++ _) = _ :: (zhG cs s.heap.size i ++ _)
        congr 4
        refine congrArg zQ ?_
        funext j
        show (if j = i then some (s.heap.size + (1 + 4 * i)) else if j < i then some (s.heap.size + (1 + 4 * j)) else none) = if j < i + 1 then some (s.heap.size + (1 + 4 * j)) else none
        by_cases w : j = i
        · rw [if_pos w, if_pos (by omega), w]
        · rw [if_neg w]
          by_cases w2 : j < i
          · rw [if_pos w2, if_pos (by omega)]
          · rw [if_neg w2, if_neg (by omega)]
      have h : zSw dC dI 7 a [.ref (s.heap.size + 0), .int 0, .int 0] (zhE cs s.heap.size (i + 1)) s.heap H locs := he ▸ h
      refine lv_iinc (v := Int32.ofNat (i + 1)) (lv' := [(1, .int (Int32.ofNat (i + 1))), (0, .ref a)]) hx hb (show decode cX5_init 37 = .ok (.iinc 1 1, 3) by decide +kernel) hl (k := 0) rfl (zi_s i) (by decide) rfl (fun ls hl => ?_)
      refine lv_goto (tgt := 15) hx hb (show decode cX5_init 40 = .ok (.goto (-25), 3) by decide +kernel) (by decide) ?_
      refine W.widen (k := 1 + 4 * (i + 1)) (n := 8 + 199 * (i + 1)) (by show 1 + 4 * i + 1 + 3 ≤ _; omega) (by show 8 + 199 * i + 7 + 192 ≤ _; omega) ?_
      exact ih (i + 1) (by omega) (by omega) H locs ls hl h
set_option maxRecDepth 100000 in
set_option maxHeartbeats 4000000 in
theorem kX5_init (l : Launch) (htr : l.stackTraces = false) : zCon l yX5_init (Cond.code yX5_init cX5_init 2 none :: z_W) ({ frames := 9, cells := 33, slots := 1600, locals := 400 } : Room) 7 [.null, .int 0, .int 0] (fun sz => [.ref (sz + 0), .int 0, .int 0]) (fun cs sz => zhE cs sz 8) := by
  refine zc_top (by decide) rfl rfl (by decide) ?_
  intro dC dI cs a p e s m args below meth c ls X hr hml hlocks hl h
  refine zc_obj X (i0 := 1) hml hl (z_at1 97 rfl rfl) zw_oi zw_oc (Nat.le_of_ble_eq_true rfl) (Nat.le_of_ble_eq_true rfl) (by decide +kernel) (by decide +kernel) ?_
  refine lv_aload_n X.1 X.2.1 (show decode cX5_init 4 = .ok (.aload_n 0, 1) by decide +kernel) rfl (lv_at hl 0 rfl) ?_
  refine lv_bipush (n := 8) (v := 8) X.1 X.2.1 (show decode cX5_init 5 = .ok (.bipush 8, 2) by decide +kernel) (by decide) ?_
  refine zc_anew X (i1 := 9) (n := 8) (N := 8) (z_at1 98 rfl rfl) (by decide) (by decide) (Nat.le_of_ble_eq_true rfl) (Nat.le_of_ble_eq_true rfl) (Nat.le_of_ble_eq_true rfl) (show decode cX5_init 7 = .ok (.anewarray 9, 3) by decide +kernel) h ?_
  clear h
  intro H h
  refine zc_put X (w := 26) (index := 11) (b := 0) (v := .ref (s.heap.size + 0)) rfl rfl rfl (Nat.le_of_ble_eq_true rfl) (show decode cX5_init 10 = .ok (.putfield 11, 3) by decide +kernel) h ?_
  clear h
  intro H locs h
  have h : zSw dC dI 7 a [.ref (s.heap.size + 0), .int 0, .int 0] [.inl (cs 4, 8, zQ (fun _ => none))] s.heap H locs := h
  have e0 : [(.inl (cs 4, 8, zQ (fun _ => none)) : va_E)] = zhE cs s.heap.size 0 := by
    unfold zhE zhG
    congr 4
  rw [e0] at h
  refine lv_iconst (n := 0) (v := 0) X.1 X.2.1 (show decode cX5_init 13 = .ok (.iconst 0, 1) by decide +kernel) (by decide) ?_
  refine lv_istore_n (lv' := [(1, .int (Int32.ofNat 0)), (0, .ref a)]) X.1 X.2.1 (show decode cX5_init 14 = .ok (.istore_n 1, 1) by decide +kernel) rfl hl (by decide) rfl (fun ls hl => ?_)
  refine W.widen (k := 1 + 4 * 0) (n := 8 + 199 * 0) (by decide) (by decide) ?_
  exact zc_hist l htr X hr hml hlocks 9 0 (by decide) (by decide) H locs ls hl h
