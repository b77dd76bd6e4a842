/-! The class's lakes. -/
abbrev zPl (k i j : Nat) : Prop := (k = 20 ∧ i = 35) ∨ (k = 4 ∧ i = 0 ∧ j = 4) ∨ (k = 30 ∧ i = 0)
theorem zGp_l {g : Nat} (hg : g < 11) {k i j : Nat} (h : zGp g k i j) : ¬ zPl k i j := by
  unfold zGp at h
  unfold zPl
  omega
/-- what the lakes are when the cells below c have been looked at -/
def zLk (a : zG) (c : Nat) (m : zM) : Prop := (∀ d, d < a.n → m.1 20 33 d = Int32.ofNat (a.lv d)) ∧ (∀ d, d < 64 → zb (m.2.1 4 0 5) d = a.wet d) ∧ (∀ d, d < 64 → m.1 20 35 d = if a.wet d = true ∧ a.fi d < c then Int32.ofNat (a.lk d) else -1) ∧ m.1 4 0 4 = Int32.ofNat (a.num c) ∧ ∀ e, e < c → a.mnb e = true → ∀ d, d < 64 → (zb (m.2.1 30 0 (a.num e)) d = true ↔ a.com e d)
section
variable {a : zG} {g : Nat}
theorem zG.num_le (c : Nat) : a.num c ≤ c := z_cnt_le _ _
theorem zG.num_lt {c d : Nat} (h : c < d) (hm : a.mnb c = true) : a.num c < a.num d := by
  have h1 : a.num (c + 1) = a.num c + 1 := by rw [zG.num_succ, if_pos hm]
  have h2 : ∀ k, a.num (c + 1) ≤ a.num (c + 1 + k) := fun k => by
    induction k with
    | zero => exact Nat.le_refl _
    | succ k ih =>
      refine Nat.le_trans ih ?_
      show a.num (c + 1 + k) ≤ a.num (c + 1 + k + 1)
      rw [zG.num_succ]
      omega
  have := h2 (d - (c + 1))
  rw [show c + 1 + (d - (c + 1)) = d by omega] at this
  omega
theorem zLk.skip (v : zGV a) {c : Nat} {m : zM} (h : zLk a c m) (hc : a.mnb c = false) : zLk a (c + 1) m := by
  refine ⟨h.1, h.2.1, fun d hd => ?_, ?_, fun e he hm => ?_⟩
  · rw [h.2.2.1 d hd]
    have : (a.wet d = true ∧ a.fi d < c + 1) ↔ (a.wet d = true ∧ a.fi d < c) := by
      constructor
      · rintro ⟨q1, q2⟩
        refine ⟨q1, ?_⟩
        have : a.fi d ≠ c := fun w => by
          have := zG.mnb_fi v q1
          rw [w, hc] at this
          cases this
        omega
      · rintro ⟨q1, q2⟩
        exact ⟨q1, by omega⟩
    simp only [this]
  · rw [h.2.2.2.1, zG.num_succ, hc]
    rfl
  · have : e ≠ c := fun w => by
      rw [w, hc] at hm
      cases hm
    exact h.2.2.2.2 e (by omega) hm
theorem s_lakes_20 (v : zGV a) (hg : g < 11) : ∀ (j c : Nat) (m : zM), c ≤ a.n → a.n - c < j → zGR m g a → zLk a c m →
    ∃ m', f_X2_findLakes_20 g j (Int32.ofNat a.n) (Int32.ofNat c) m = some m' ∧ zFr zPl m m' ∧ zLk a a.n m'
  | 0, _, _, _, h, _, _ => absurd h (Nat.not_lt_zero _)
  | j + 1, c, m, hc, h, r, hk => by
    have n64 := v.n64
    unfold f_X2_findLakes_20
    by_cases he : c = a.n
    · rw [if_pos (by rw [zi_le (by omega) (by omega)]; omega)]
      subst he
      exact ⟨m, rfl, zFr.refl m, hk⟩
    · have hcn : c < a.n := by omega
      have hc' : c < 64 := by omega
      rw [if_neg (by rw [zi_le (by omega) (by omega)]; omega), s_has _ hc', Option.bind_some, hk.2.1 c hc', show Int32.ofNat c + 1 = Int32.ofNat (c + 1) from zi_add c 1]
      cases hq : a.wet c with
      | false =>
        rw [if_pos (by decide)]
        exact s_lakes_20 v hg j (c + 1) m (by omega) (by omega) r (hk.skip v (by unfold zG.mnb; rw [hq]; rfl))
      | true =>
        have h99 := zG.lv99 v hcn
        have hfl := zG.fi_le v (zG.com_refl hq)
        have hnl : a.num c ≤ c := zG.num_le c
        rw [if_neg (by decide), s_at' 20 35 hc', Option.bind_some, hk.2.2.1 c hc']
        by_cases hlt : a.fi c < c
        · have hlk : a.lk c ≤ a.fi c := zG.num_le _
          rw [if_pos (c := a.wet c = true ∧ a.fi c < c) ⟨hq, hlt⟩, if_neg (zi_m1 (by omega))]
          exact s_lakes_20 v hg j (c + 1) m (by omega) (by omega) r (hk.skip v (by unfold zG.mnb; rw [hq]; simp; omega))
        · have hfc : a.fi c = c := by omega
          have hmn : a.mnb c = true := by unfold zG.mnb; rw [hq]; simp [hfc]
          obtain ⟨S, hS, hS2⟩ := s_wetAt v h99 hk.2.1 hk.1
          have hSn : ∀ d, d < 64 → zb S d = true → d < a.n := fun d hd q => by
            rw [hS2 d hd] at q
            exact zG.wl_n q
          obtain ⟨Z, hZ, hZ2⟩ := s_reachable v r (S := z_shl 1 (Int32.ofNat c)) hSn
          have lt : ∀ (y : Int64) (c : Nat), zb y c = true → c < 64 := fun y c hy => by
            by_cases q : c < 64
            · exact q
            · rw [zb_big _ (by omega)] at hy
              cases hy
          have hZc : ∀ d, zb Z d = true ↔ a.com c d := fun d => by
            rw [hZ2 d]
            constructor
            · intro q
              refine q.mono (fun e w => by rw [← hS2 e (lt _ _ w)]; exact w) fun e w1 w2 => ?_
              rw [zb_one hc' (lt _ _ w1), decide_eq_true_eq] at w1
              subst w1
              exact zG.com_refl hq
            · intro q
              refine q.mono (fun e w => by rw [hS2 e (by have := zG.wl_n w; omega)]; exact w) fun e w1 w2 => ?_
              rw [z_one_iff] at w1
              subst w1
              refine zRch.base ?_ ?_
              · rw [zb_one hc' hc']
                simp
              · rw [hS2 e hc']
                exact w2
          rw [if_neg (c := a.wet c = true ∧ a.fi c < c) (fun q => hlt q.2), if_pos rfl, s_at' 20 33 hc', Option.bind_some, hk.1 c hcn, hS, Option.bind_some, hZ, Option.bind_some, hk.2.2.2.1, s_putl 30 0 (show a.num c < 64 by omega), Option.bind_some]
          obtain ⟨m1, q1, q2, q3⟩ := s_number Z (z_sL m 30 0 (a.num c) Z)
          rw [q1, Option.bind_some]
          have f0 : zFr zPl m (z_sL m 30 0 (a.num c) Z) := zFr.sL (zFr.refl m) _ (.inr (.inr ⟨rfl, rfl⟩))
          have q2' : zFr zPl (z_sL m 30 0 (a.num c) Z) m1 := q2.mono fun k i j w => .inl w
          have e4 : m1.1 4 0 4 = Int32.ofNat (a.num c) := by
            rw [(q2 4 0 4 (by unfold zP35; omega)).1]
            exact hk.2.2.2.1
          rw [e4, show Int32.ofNat (a.num c) + 1 = Int32.ofNat (a.num c + 1) from zi_add _ 1]
          have f1 : zFr zPl m (z_sI m1 4 0 4 (Int32.ofNat (a.num c + 1))) := zFr.sI (f0.trans q2') _ (.inr (.inl ⟨rfl, rfl, rfl⟩))
          have hk' : zLk a (c + 1) (z_sI m1 4 0 4 (Int32.ofNat (a.num c + 1))) := by
            refine ⟨fun d hd => ?_, fun d hd => ?_, fun d hd => ?_, ?_, fun e hel hm d hd => ?_⟩
            · rw [(f1 20 33 d (by unfold zPl; omega)).1]
              exact hk.1 d hd
            · rw [(f1 4 0 5 (by unfold zPl; omega)).2.1]
              exact hk.2.1 d hd
            · rw [zm_I, if_neg (c := 20 = 4 ∧ 35 = 0 ∧ d = 4) (by omega), q3 d hd]
              by_cases w : a.com c d
              · rw [if_pos ((hZc d).mpr w), if_pos ⟨(zG.com_in w).1, by rw [zG.fi_eq v w, hfc]; omega⟩]
                show m.1 4 0 4 = _
                rw [hk.2.2.2.1]
                unfold zG.lk
                rw [zG.fi_eq v w, hfc]
              · rw [if_neg (fun y => w ((hZc d).mp y))]
                show m.1 20 35 d = _
                rw [hk.2.2.1 d hd]
                have : (a.wet d = true ∧ a.fi d < c + 1) ↔ (a.wet d = true ∧ a.fi d < c) := by
                  constructor
                  · rintro ⟨y1, y2⟩
                    refine ⟨y1, ?_⟩
                    have : a.fi d ≠ c := fun y => by
                      have := zG.fi_com v y1
                      rw [y] at this
                      exact w (zG.com_sym v this)
                    omega
                  · rintro ⟨y1, y2⟩
                    exact ⟨y1, by omega⟩
                simp only [this]
            · rw [zm_I, if_pos ⟨rfl, rfl, rfl⟩, zG.num_succ, if_pos hmn]
            · rw [zm_IL, (q2 30 0 (a.num e) (by unfold zP35; omega)).2.1, zm_L]
              by_cases hec : e = c
              · subst hec
                rw [if_pos ⟨rfl, rfl, rfl⟩]
                exact hZc d
              · have := zG.num_lt (a := a) (show e < c by omega) hm
                rw [if_neg (c := 30 = 30 ∧ 0 = 0 ∧ a.num e = a.num c) (by omega)]
                exact hk.2.2.2.2 e (by omega) hm d hd
          obtain ⟨m', p1, p2, p3⟩ := s_lakes_20 v hg j (c + 1) _ (by omega) (by omega) (r.keep f1 fun k i j => zGp_l hg) hk'
          exact ⟨m', p1, f1.trans p2, p3⟩
theorem s_lakes (v : zGV a) (hg : g < 11) {m : zM} (r : zGR m g a) (hl : ∀ d, d < a.n → m.1 20 33 d = Int32.ofNat (a.lv d)) (hw : ∀ d, d < 64 → zb (m.2.1 4 0 5) d = a.wet d) : ∃ m', f_X2_findLakes g m = some m' ∧ zFr zPl m m' ∧ zLk a a.n m' := by
  have n64 := v.n64
  unfold f_X2_findLakes
  rw [s_fill, Option.bind_some]
  have f1 : zFr zPl m (z_sI (zm_fill m 20 35 (z_alen 20) (-1)) 4 0 4 0) := by
    refine zFr.sI ?_ _ (.inr (.inl ⟨rfl, rfl, rfl⟩))
    intro k i j hn
    refine ⟨?_, rfl, rfl⟩
    show (if k = 20 ∧ i = 35 ∧ j < z_alen 20 then (-1 : Int32) else m.1 k i j) = _
    rw [if_neg (fun q => hn (.inl ⟨q.1, q.2.1⟩))]
  have r1 := r.keep f1 fun k i j => zGp_l hg
  rw [s_size v r1, Option.bind_some]
  have hk : zLk a 0 (z_sI (zm_fill m 20 35 (z_alen 20) (-1)) 4 0 4 0) := by
    refine ⟨fun d hd => ?_, fun d hd => hw d hd, fun d hd => ?_, rfl, fun e he => absurd he (Nat.not_lt_zero _)⟩
    · rw [(f1 20 33 d (by unfold zPl; omega)).1]
      exact hl d hd
    · rw [zm_I, if_neg (c := 20 = 4 ∧ 35 = 0 ∧ d = 4) (by omega), if_neg (fun q => absurd q.2 (Nat.not_lt_zero _))]
      show (if 20 = 20 ∧ 35 = 35 ∧ d < z_alen 20 then (-1 : Int32) else m.1 20 35 d) = _
      rw [if_pos ⟨rfl, rfl, hd⟩]
  obtain ⟨m', p1, p2, p3⟩ := s_lakes_20 v hg zF 0 _ (Nat.zero_le _) (Nat.lt_of_lt_of_le (by omega : a.n - 0 < 65) (zF_ge (by decide))) r1 hk
  exact ⟨m', p1, f1.trans p2, p3⟩
/-- the filling of a grid -/
abbrev zPf (k i j : Nat) : Prop := p_X2_fill 0 k i j
def zFil (a : zG) (m : zM) : Prop := zLk a a.n m ∧ ∀ d, d < a.n → m.1 20 34 d = Int32.ofNat (a.lv d - a.ht d)
theorem s_fillg (v : zGV a) (hg : g < 11) {m : zM} (r : zGR m g a) : ∃ m', f_X2_fill g m = some m' ∧ zFr zPf m m' ∧ zFil a m' := by
  unfold f_X2_fill
  obtain ⟨m1, h1, h2, h3⟩ := s_levels v hg r
  have r1 : zGR m1 g a := r.keep h2 fun k i j => zGp_33 hg
  obtain ⟨m2, k1, k2, k3, k4⟩ := s_depths v hg r1 h3
  have r2 : zGR m2 g a := r1.keep k2 fun k i j => zGp_d hg
  obtain ⟨m3, l1, l2, l3⟩ := s_lakes v hg r2 (fun d hd => by rw [(k2 20 33 d (by unfold zPd; omega)).1]; exact h3 d hd) (fun d hd => by rw [k4 d hd]; rfl)
  rw [h1, Option.bind_some, k1, Option.bind_some, l1, Option.bind_some]
  refine ⟨m3, rfl, ?_, l3, fun d hd => ?_⟩
  · refine ((h2.mono fun k i j w => ?_).trans (k2.mono fun k i j w => ?_)).trans (l2.mono fun k i j w => ?_)
    · unfold zP33 at w; unfold zPf p_X2_fill; omega
    · unfold zPd at w; unfold zPf p_X2_fill; omega
    · unfold zPl at w; unfold zPf p_X2_fill; omega
  · rw [(l2 20 34 d (by unfold zPl; omega)).1]
    exact k3 d hd
end
