/-! To where a cell flows. -/
noncomputable def zG.ch (a : zG) (c d : Nat) : Bool := match a.nb c d with
  | none => false
  | some e => if a.fla c = true then decide (a.rk e = a.rk c - 1 ∧ a.lv e = a.lv c) else decide (a.lv e = a.la c 4)
noncomputable def zG.dr (a : zG) (c : Nat) : Nat → Option Nat
  | 0 => none
  | i + 1 => if a.ch c (3 - i) = true then some (3 - i) else a.dr c i
noncomputable def zG.nc (a : zG) (c : Nat) : Nat → Nat
  | 0 => 0
  | i + 1 => if a.ch c (3 - i) = true then a.nc c i + 1 else a.nc c i
noncomputable def zG.tg (a : zG) (c i : Nat) : Option Nat := (a.dr c i).bind (a.nb c)
def zx : Nat → Int32
  | 0 => 3
  | 1 => 2
  | 2 => 1
  | 3 => 0
  | _ => -1
theorem zx_lt {i : Nat} (h : i < 4) : zx i = Int32.ofNat (3 - i) := by
  have : i = 0 ∨ i = 1 ∨ i = 2 ∨ i = 3 := by omega
  rcases this with rfl | rfl | rfl | rfl <;> rfl
theorem zx_s {i : Nat} (h : i < 4) : Int32.ofNat (3 - i) + (-1) = zx (i + 1) := by
  have : i = 0 ∨ i = 1 ∨ i = 2 ∨ i = 3 := by omega
  rcases this with rfl | rfl | rfl | rfl <;> decide
abbrev zPc (k i _j : Nat) : Prop := k = 20 ∧ (i = 37 ∨ i = 38 ∨ i = 39)
section
variable {a : zG} {g : Nat}
theorem zG.nc_le (c : Nat) : ∀ i, a.nc c i ≤ i
  | 0 => Nat.le_refl _
  | i + 1 => by
    have := zG.nc_le c i
    unfold zG.nc
    split <;> omega
/-- what of the class's flows is known before the cells choose -/
def zFq (a : zG) (m : zM) : Prop := (∀ d, d < a.n → m.1 20 33 d = Int32.ofNat (a.lv d)) ∧ (∀ d, d < 64 → zb (m.2.1 5 0 1) d = a.fla d) ∧ ∀ d, d < a.n → m.1 20 36 d = Int32.ofNat (a.rk d)
theorem zFq.keep {m m' : zM} (h : zFq a m) (f : zFr zPc m m') : zFq a m' :=
  ⟨fun d hd => by rw [(f 20 33 d (by unfold zPc; omega)).1]; exact h.1 d hd, fun d hd => by rw [(f 5 0 1 (by unfold zPc; omega)).2.1]; exact h.2.1 d hd, fun d hd => by rw [(f 20 36 d (by unfold zPc; omega)).1]; exact h.2.2 d hd⟩
/-- the rows of one cell -/
def zCh (a : zG) (c i : Nat) (m : zM) : Prop := m.1 20 37 c = zo (a.dr c i) ∧ m.1 20 38 c = Int32.ofNat (a.nc c i) ∧ m.1 20 39 c = zo (a.tg c i)
theorem s_ch_47 (v : zGV a) (hg : g < 11) {c : Nat} (hc : c < a.n) : ∀ (j i : Nat) (m : zM), i ≤ 4 → 4 - i < j → zGR m g a → zFq a m → zCh a c i m →
    ∃ m', f_X3_choose_47 g j (Int32.ofNat c) (Int32.ofNat (a.la c 4)) (zx i) m = some m' ∧ zFr (fun k i j => zPc k i j ∧ j = c) m m' ∧ zCh a c 4 m'
  | 0, _, _, _, h, _, _, _ => absurd h (Nat.not_lt_zero _)
  | j + 1, i, m, hi, h, r, hq, hm => by
    have n64 := v.n64
    have hc' : c < 64 := by omega
    unfold f_X3_choose_47
    by_cases he : i = 4
    · subst he
      rw [if_pos (by decide)]
      exact ⟨m, rfl, zFr.refl m, hm⟩
    · have hi4 : i < 4 := by omega
      have hj : i + 1 ≤ 4 ∧ 4 - (i + 1) < j := by omega
      have h99 := zG.la_99 (a := a) c 4
      rw [zx_lt hi4, if_neg (zi_nn (by omega)), s_nb v r hc (by omega), Option.bind_some, s_has _ hc', Option.bind_some, hq.2.1 c hc']
      have no : a.ch c (3 - i) = false → ∃ m', f_X3_choose_118 g (f_X3_choose_47 g j) (Int32.ofNat c) (Int32.ofNat (a.la c 4)) (Int32.ofNat (3 - i)) (zo (a.nb c (3 - i))) 0 m = some m' ∧ zFr (fun k i j => zPc k i j ∧ j = c) m m' ∧ zCh a c 4 m' := fun q => by
        unfold f_X3_choose_118
        rw [if_pos rfl, zx_s hi4]
        refine s_ch_47 v hg hc j (i + 1) m hj.1 hj.2 r hq ?_
        unfold zCh zG.tg zG.dr zG.nc
        rw [q]
        exact hm
      have yes : a.ch c (3 - i) = true → ∃ m', f_X3_choose_118 g (f_X3_choose_47 g j) (Int32.ofNat c) (Int32.ofNat (a.la c 4)) (Int32.ofNat (3 - i)) (zo (a.nb c (3 - i))) 1 m = some m' ∧ zFr (fun k i j => zPc k i j ∧ j = c) m m' ∧ zCh a c 4 m' := fun q => by
        have hnc := zG.nc_le (a := a) c i
        unfold f_X3_choose_118
        rw [if_neg (by decide), s_put 20 37 hc', Option.bind_some, s_add 20 38 hc', Option.bind_some, s_put 20 39 hc', Option.bind_some, zx_s hi4]
        have e38 : (z_sI m 20 37 c (Int32.ofNat (3 - i))).1 20 38 c + 1 = Int32.ofNat (a.nc c i + 1) := by
          rw [zm_I, if_neg (by omega), hm.2.1]
          exact zi_add _ 1
        rw [e38]
        have f1 : zFr (fun k i j => zPc k i j ∧ j = c) m (z_sI (z_sI (z_sI m 20 37 c (Int32.ofNat (3 - i))) 20 38 c (Int32.ofNat (a.nc c i + 1))) 20 39 c (zo (a.nb c (3 - i)))) :=
          zFr.sI (zFr.sI (zFr.sI (zFr.refl m) _ ⟨⟨rfl, .inl rfl⟩, rfl⟩) _ ⟨⟨rfl, .inr (.inl rfl)⟩, rfl⟩) _ ⟨⟨rfl, .inr (.inr rfl)⟩, rfl⟩
        have f2 := f1.mono (Q := zPc) fun k i j w => w.1
        obtain ⟨m', p1, p2, p3⟩ := s_ch_47 v hg hc j (i + 1) _ hj.1 hj.2 (r.keep f2 fun k i j w => by unfold zGp at w; unfold zPc; omega) (hq.keep f2) (by
          have d1 : a.dr c (i + 1) = some (3 - i) := by
            show (if a.ch c (3 - i) = true then some (3 - i) else a.dr c i) = _
            rw [if_pos q]
          have d2 : a.nc c (i + 1) = a.nc c i + 1 := by
            show (if a.ch c (3 - i) = true then a.nc c i + 1 else a.nc c i) = _
            rw [if_pos q]
          have d3 : a.tg c (i + 1) = a.nb c (3 - i) := by
            unfold zG.tg
            rw [d1]
            rfl
          unfold zCh
          rw [d1, d2, d3]
          refine ⟨?_, ?_, ?_⟩
          · rw [zm_I, if_neg (by omega), zm_I, if_neg (by omega), zm_I, if_pos ⟨rfl, rfl, rfl⟩]
            rfl
          · rw [zm_I, if_neg (by omega), zm_I, if_pos ⟨rfl, rfl, rfl⟩]
          · rw [zm_I, if_pos ⟨rfl, rfl, rfl⟩])
        exact ⟨m', p1, f1.trans p2, p3⟩
      unfold f_X3_choose_117
      by_cases hf : a.fla c = true
      · rw [hf, if_neg (by decide), s_at' 20 36 hc', Option.bind_some, hq.2.2 c hc]
        have hrk : a.rk c ≠ 0 := fun w => by
          have := (zG.rk0 hc).mp w
          rw [hf] at this
          cases this
        have hr63 := zG.rk63 v hc
        rw [show Int32.ofNat (a.rk c) - 1 = Int32.ofNat (a.rk c - 1) from zi_sub (a := a.rk c) (b := 1) (by omega)]
        cases hn : a.nb c (3 - i) with
        | none =>
          have e1 : f_X3_isOnLevel (Int32.ofNat c) (zo none) (Int32.ofNat (a.rk c - 1)) m = some false := by
            unfold f_X3_isOnLevel
            rw [if_pos (show zo none = -1 from rfl)]
          rw [e1, Option.bind_some]
          have := no (by unfold zG.ch; rw [hn])
          rw [hn] at this
          exact this
        | some e =>
          have hen := zG.nb_n v hc hn
          have he63 := zG.rk63 v hen
          rw [show zo (some e) = Int32.ofNat e from rfl, s_onLevel v hq.1 hc hen, Option.bind_some, hq.2.2 e hen]
          have e2 : decide (Int32.ofNat (a.rk e) = Int32.ofNat (a.rk c - 1) ∧ a.lv e = a.lv c) = a.ch c (3 - i) := by
            unfold zG.ch
            rw [hn]
            simp only [hf, if_true, zi_eq (show a.rk e < 2147483648 by omega) (show a.rk c - 1 < 2147483648 by omega)]
          rw [e2]
          rw [hn] at yes no
          cases hch : a.ch c (3 - i) with
          | false => exact no hch
          | true => exact yes hch
      · have hf' : a.fla c = false := by cases q : a.fla c <;> simp_all
        rw [hf', if_pos (by decide)]
        cases hn : a.nb c (3 - i) with
        | none =>
          rw [if_pos (show zo none = -1 from rfl)]
          have := no (by unfold zG.ch; rw [hn])
          rw [hn] at this
          exact this
        | some e =>
          have hen := zG.nb_n v hc hn
          have l2 := zG.lv99 v hen
          rw [show zo (some e) = Int32.ofNat e from rfl, if_neg (zi_m1 (by omega)), s_at' 20 33 (show e < 64 by omega), Option.bind_some, hq.1 e hen]
          rw [hn] at yes no
          by_cases w : a.lv e = a.la c 4
          · rw [if_pos (by rw [w])]
            exact yes (by unfold zG.ch; rw [hn]; simp [hf', w])
          · rw [if_neg (by rw [zi_eq (by omega) (by omega)]; exact w)]
            exact no (by unfold zG.ch; rw [hn]; simp [hf', w])
end
