/-! The class's mouths and steps, and its trace as a whole. -/
def zy : Nat → Int32
  | 0 => -1
  | q + 1 => Int32.ofNat q
theorem zy_s (q : Nat) : zy (q + 1) + (-1) = zy q := by
  cases q with
  | zero => decide
  | succ q =>
    show Int32.ofNat (q + 1) + (-1) = Int32.ofNat q
    rw [zi_p (by omega)]
    rfl
theorem zy_t (q : Nat) : Int32.ofNat q + (-1) = zy q := zy_s q
theorem zy_q (q : Nat) : Int32.ofNat q - 1 = zy q := by
  cases q with
  | zero => decide
  | succ q => exact zi_q (by omega)
section
variable {a : zG}
abbrev zPmo (k i _j : Nat) : Prop := k = 20 ∧ (i = 42 ∨ i = 43)
theorem zSq.keep {m m' : zM} {s : Nat → Nat} (h : zSq a m s) (e : m'.1 20 40 = m.1 20 40) : zSq a m' s := by
  unfold zSq
  rw [e]
  exact h
/-- the cell to which one flows stands behind it -/
theorem zSq.after {m : zM} {s : Nat → Nat} (v : zGV a) (h : zSq a m s) {k e : Nat} (hk : k < a.n) (ht : a.to (s k) = some e) : ∃ i, k < i ∧ i < a.n ∧ s i = e := by
  obtain ⟨i, h1, h2⟩ := h.2.1 e (zG.to_n v (h.1 k hk).2 ht)
  obtain ⟨j, q1, q2⟩ := h.2.2.2 i h1 (s k) (h.1 k hk).2 (by rw [h2]; exact ht)
  have := h.2.2.1 j k (by omega) hk q2
  exact ⟨i, by omega, h1, h2⟩
theorem s_mouths_7 (v : zGV a) {s : Nat → Nat} : ∀ (j q : Nat) (m : zM), q ≤ a.n → q < j → (∀ d, d < a.n → m.1 20 39 d = zo (a.to d)) → zSq a m s → (∀ i, q ≤ i → i < a.n → m.1 20 42 (s i) = Int32.ofNat (a.mo (s i)) ∧ m.1 20 43 (s i) = Int32.ofNat (a.st (s i))) →
    ∃ m', f_X3_findMouths_7 j (zy q) m = some m' ∧ zFr zPmo m m' ∧ ∀ d, d < a.n → m'.1 20 42 d = Int32.ofNat (a.mo d) ∧ m'.1 20 43 d = Int32.ofNat (a.st d)
  | 0, _, _, _, h, _, _, _ => absurd h (Nat.not_lt_zero _)
  | j + 1, q, m, hq, h, ht, hs, hi => by
    have n64 := v.n64
    unfold f_X3_findMouths_7
    cases q with
    | zero =>
      rw [if_pos (show zy 0 < 0 by decide)]
      refine ⟨m, rfl, zFr.refl m, fun d hd => ?_⟩
      obtain ⟨i, q1, q2⟩ := hs.2.1 d hd
      rw [← q2]
      exact hi i (Nat.zero_le _) q1
    | succ q =>
      obtain ⟨b1, b2⟩ := hs.1 q (by omega)
      have b3 : s q < 64 := by omega
      rw [show zy (q + 1) = Int32.ofNat q from rfl, if_neg (zi_z (by omega)), s_at' 20 40 (show q < 64 by omega), Option.bind_some, b1, s_at' 20 39 b3, Option.bind_some, ht _ b2]
      have last : ∀ x y : Nat, x = a.mo (s q) → y = a.st (s q) → ∃ m', f_X3_findMouths_7 j (zy q) (z_sI (z_sI m 20 42 (s q) (Int32.ofNat x)) 20 43 (s q) (Int32.ofNat y)) = some m' ∧ zFr zPmo m m' ∧ ∀ d, d < a.n → m'.1 20 42 d = Int32.ofNat (a.mo d) ∧ m'.1 20 43 d = Int32.ofNat (a.st d) := fun x y hx hy => by
        have f1 : zFr zPmo m (z_sI (z_sI m 20 42 (s q) (Int32.ofNat x)) 20 43 (s q) (Int32.ofNat y)) := zFr.sI (zFr.sI (zFr.refl m) _ ⟨rfl, .inl rfl⟩) _ ⟨rfl, .inr rfl⟩
        obtain ⟨m', p1, p2, p3⟩ := s_mouths_7 v j q _ (by omega) (by omega) (fun d hd => by rw [(f1 20 39 d (by unfold zPmo; omega)).1]; exact ht d hd) (hs.keep (f1.row fun j => by unfold zPmo; omega)) fun i q1 q2 => by
          by_cases w : s i = s q
          · rw [w, zm_ot _ _ _ _ (by omega), zm_row, if_pos rfl, zm_row, if_pos rfl, hx, hy]
            exact ⟨rfl, rfl⟩
          · have : i ≠ q := fun z => w (by rw [z])
            rw [zm_ot _ _ _ _ (by omega), zm_row, if_neg w, zm_row, if_neg w, zm_ot _ _ _ _ (by omega)]
            exact hi i (by omega) q2
        exact ⟨m', p1, f1.trans p2, p3⟩
      cases hto : a.to (s q) with
      | none =>
        rw [zo_none, if_pos rfl]
        unfold f_X3_findMouths_51
        rw [s_put 20 42 b3, Option.bind_some, if_pos rfl]
        unfold f_X3_findMouths_78
        rw [s_put 20 43 b3, Option.bind_some, zy_t]
        exact last (s q) 0 (zG.mo0 hto).symm (zG.st0 hto).symm
      | some e =>
        have he := zG.to_n v b2 hto
        obtain ⟨i, w1, w2, w3⟩ := hs.after v (show q < a.n by omega) hto
        obtain ⟨w4, w5⟩ := hi i w1 w2
        rw [w3] at w4 w5
        have hne : e ≠ s q := fun z => by
          have := hs.2.2.1 i q w2 (by omega) (w3.trans z)
          omega
        rw [zo_some, if_neg (zi_m1 (by omega)), s_at' 20 42 (show e < 64 by omega), Option.bind_some, w4]
        unfold f_X3_findMouths_51
        rw [s_put 20 42 b3, Option.bind_some, if_neg (zi_m1 (by omega)), s_at' 20 43 (show e < 64 by omega), Option.bind_some, zm_ot _ _ _ _ (by omega), w5, zi_s]
        unfold f_X3_findMouths_78
        rw [s_put 20 43 b3, Option.bind_some, zy_t]
        exact last _ _ (zG.mo1 v b2 hto).symm (zG.st1 v b2 hto).symm
/-- what the class's flows hold after a trace -/
def zTr (a : zG) (m : zM) (s : Nat → Nat) : Prop := m.1 5 0 0 = Int32.ofNat a.n ∧ (∀ d, d < 64 → zb (m.2.1 5 0 1) d = a.fla d) ∧ (∀ d, d < a.n → m.1 20 36 d = Int32.ofNat (a.rk d)) ∧ (∀ d, d < a.n → zFw a d m) ∧ zSq a m s ∧ ∀ d, d < a.n → m.1 20 42 d = Int32.ofNat (a.mo d) ∧ m.1 20 43 d = Int32.ofNat (a.st d)
abbrev zPtr (k i j : Nat) : Prop := (k = 20 ∧ 36 ≤ i ∧ i ≤ 43) ∨ (k = 5 ∧ i = 0 ∧ j ≤ 1)
theorem zGp_tr {g : Nat} (hg : g < 11) {k i j : Nat} (h : zGp g k i j) : ¬ zPtr k i j := by
  unfold zGp at h
  unfold zPtr
  omega
theorem s_trace_22 (v : zGV a) {g : Nat} (hg : g < 11) : ∀ (j c : Nat) (m : zM), c ≤ a.n → a.n - c < j → zGR m g a → zFq a m → m.1 5 0 0 = Int32.ofNat a.n → (∀ d, d < c → zFw a d m) →
    ∃ m' s, f_X3_trace_22 g j (Int32.ofNat c) m = some m' ∧ zFr zPtr m m' ∧ zTr a m' s
  | 0, _, _, _, h, _, _, _, _ => absurd h (Nat.not_lt_zero _)
  | j + 1, c, m, hc, h, r, hq, hs, hw => by
    have n64 := v.n64
    unfold f_X3_trace_22
    rw [hs]
    by_cases he : c = a.n
    · subst he
      rw [if_pos (by rw [zi_le (by omega) (by omega)]; omega)]
      obtain ⟨m1, s, p1, p2, p3⟩ := s_sequence v (m := m) ⟨hs, fun d hd => (hw d hd).2.2⟩
      rw [p1, Option.bind_some]
      unfold f_X3_findMouths
      have hw1 : ∀ d, d < a.n → zFw a d m1 := fun d hd => by
        obtain ⟨q1, q2, q3⟩ := hw d hd
        exact ⟨by rw [(p2 20 37 d (by unfold zPs; omega)).1]; exact q1, by rw [(p2 20 38 d (by unfold zPs; omega)).1]; exact q2, by rw [(p2 20 39 d (by unfold zPs; omega)).1]; exact q3⟩
      rw [(p2 5 0 0 (by unfold zPs; omega)).1, hs, zy_q]
      obtain ⟨m2, t1, t2, t3⟩ := s_mouths_7 v zF a.n m1 (Nat.le_refl _) (zF_lt (by omega)) (fun d hd => (hw1 d hd).2.2) p3 fun i q1 q2 => by omega
      rw [t1, Option.bind_some]
      have f : zFr (fun k i j => zPs k i j ∨ zPmo k i j) m m2 := (p2.mono fun k i j w => .inl w).trans (t2.mono fun k i j w => .inr w)
      refine ⟨m2, s, rfl, f.mono fun k i j w => by unfold zPs zPmo at w; unfold zPtr; omega, ?_⟩
      refine ⟨by rw [(f 5 0 0 (by unfold zPs zPmo; omega)).1]; exact hs, fun d hd => by rw [(f 5 0 1 (by unfold zPs zPmo; omega)).2.1]; exact hq.2.1 d hd, fun d hd => by rw [(f 20 36 d (by unfold zPs zPmo; omega)).1]; exact hq.2.2 d hd, fun d hd => ?_, p3.keep (t2.row fun j => by unfold zPmo; omega), t3⟩
      obtain ⟨q1, q2, q3⟩ := hw1 d hd
      exact ⟨by rw [(t2 20 37 d (by unfold zPmo; omega)).1]; exact q1, by rw [(t2 20 38 d (by unfold zPmo; omega)).1]; exact q2, by rw [(t2 20 39 d (by unfold zPmo; omega)).1]; exact q3⟩
    · have hcn : c < a.n := by omega
      have hj : a.n - (c + 1) < j := by omega
      rw [if_neg (by rw [zi_le (by omega) (by omega)]; omega)]
      obtain ⟨m1, p1, p2, p3⟩ := s_choose v hg hcn r hq
      rw [p1, Option.bind_some, zi_s]
      have p4 := p2.mono (Q := zPc) fun k i j w => w.1
      obtain ⟨m', s, t1, t2, t3⟩ := s_trace_22 v hg j (c + 1) m1 hcn hj (r.keep p4 fun k i j w => by unfold zGp at w; unfold zPc; omega) (hq.keep p4) (by rw [(p4 5 0 0 (by unfold zPc; omega)).1]; exact hs) fun d hd => by
        by_cases w : d = c
        · rw [w]; exact p3
        · obtain ⟨q1, q2, q3⟩ := hw d (by omega)
          exact ⟨by rw [(p2 20 37 d fun y => w y.2).1]; exact q1, by rw [(p2 20 38 d fun y => w y.2).1]; exact q2, by rw [(p2 20 39 d fun y => w y.2).1]; exact q3⟩
      exact ⟨m', s, t1, (p4.mono fun k i j w => by unfold zPc at w; unfold zPtr; omega).trans t2, t3⟩
theorem s_trace (v : zGV a) {g : Nat} (hg : g < 11) {m : zM} (r : zGR m g a) (hl : ∀ d, d < a.n → m.1 20 33 d = Int32.ofNat (a.lv d)) : ∃ m' s, f_X3_trace g m = some m' ∧ zFr zPtr m m' ∧ zTr a m' s := by
  have n64 := v.n64
  unfold f_X3_trace
  rw [s_size v r, Option.bind_some]
  have f1 : zFr zPtr m (z_sI m 5 0 0 (Int32.ofNat a.n)) := zFr.sI (zFr.refl m) _ (.inr ⟨rfl, rfl, by omega⟩)
  have r1 := r.keep f1 fun k i j => zGp_tr hg
  have l1 : ∀ d, d < a.n → (z_sI m 5 0 0 (Int32.ofNat a.n)).1 20 33 d = Int32.ofNat (a.lv d) := fun d hd => by rw [zm_ot _ _ _ _ (by omega)]; exact hl d hd
  have e1 : (z_sI m 5 0 0 (Int32.ofNat a.n)).1 5 0 0 = Int32.ofNat a.n := by rw [zm_row, if_pos rfl]
  generalize z_sI m 5 0 0 (Int32.ofNat a.n) = m1 at f1 r1 l1 e1
  obtain ⟨m2, p1, p2, p3⟩ := s_flat v hg r1 e1 l1
  rw [p1, Option.bind_some]
  have f2 := p2.mono (Q := zPtr) fun k i j w => by unfold zPfl at w; unfold zPtr; omega
  have r2 := r1.keep f2 fun k i j => zGp_tr hg
  have l2 : ∀ d, d < a.n → m2.1 20 33 d = Int32.ofNat (a.lv d) := fun d hd => by rw [(f2 20 33 d (by unfold zPtr; omega)).1]; exact l1 d hd
  have e2 : m2.1 5 0 0 = Int32.ofNat a.n := by rw [(p2 5 0 0 (by unfold zPfl; omega)).1]; exact e1
  obtain ⟨m3, q1, q2, q3⟩ := s_ranks v hg r2 e2 l2 p3
  rw [q1, Option.bind_some]
  have f3 := q2.mono (Q := zPtr) fun k i j w => by unfold zP36 at w; unfold zPtr; omega
  have r3 := r2.keep f3 fun k i j => zGp_tr hg
  obtain ⟨m4, s, t1, t2, t3⟩ := s_trace_22 v hg zF 0 m3 (Nat.zero_le _) (zF_lt (by omega)) r3 ⟨fun d hd => by rw [(f3 20 33 d (by unfold zPtr; omega)).1]; exact l2 d hd, fun d hd => by rw [(q2 5 0 1 (by unfold zP36; omega)).2.1]; exact p3 d hd, q3⟩ (by rw [(q2 5 0 0 (by unfold zP36; omega)).1]; exact e2) fun d w => absurd w (Nat.not_lt_zero _)
  exact ⟨m4, s, t1, ((f1.trans f2).trans f3).trans t2, t3⟩
/-! What the class asks of its flows. -/
theorem s_above_12 (v : zGV a) {m : zM} {s : Nat → Nat} (h : zTr a m s) {g : Nat} (hg : g < a.n) : ∀ (j q : Nat) (x : Int64), q ≤ a.n → q < j → (∀ d, d < 64 → (zb x d = true → d < a.n ∧ a.on g d = true)) → zb x g = true → (∀ i, q ≤ i → i < a.n → zb x (s i) = a.on g (s i)) → ∃ y, f_X3_above_12 m j x (zy q) = some y ∧ ∀ d, d < 64 → zb y d = (decide (d < a.n) && a.on g d)
  | 0, _, _, _, h, _, _, _ => absurd h (Nat.not_lt_zero _)
  | j + 1, q, x, hq, hj, h1, h2, h3 => by
    have n64 := v.n64
    have hs := h.2.2.2.2.1
    unfold f_X3_above_12
    cases q with
    | zero =>
      rw [if_pos (show zy 0 < 0 by decide)]
      refine ⟨x, rfl, fun d hd => ?_⟩
      by_cases w : d < a.n
      · obtain ⟨i, q1, q2⟩ := hs.2.1 d w
        rw [← q2, h3 i (Nat.zero_le _) q1, q2]
        simp [w]
      · cases y : zb x d with
        | false => simp [w]
        | true => exact absurd (h1 d hd y).1 w
    | succ q =>
      obtain ⟨b1, b2⟩ := hs.1 q (by omega)
      have b3 : s q < 64 := by omega
      rw [zy_s, show zy (q + 1) = Int32.ofNat q from rfl, if_neg (zi_z (by omega)), s_at' 20 40 (show q < 64 by omega), Option.bind_some, b1, s_at' 20 39 b3, Option.bind_some, (h.2.2.2.1 _ b2).2.2]
      have skip : zb x (s q) = a.on g (s q) → ∃ y, f_X3_above_12 m j x (zy q) = some y ∧ ∀ d, d < 64 → zb y d = (decide (d < a.n) && a.on g d) := fun w =>
        s_above_12 v h hg j q x (by omega) (by omega) h1 h2 fun i q1 q2 => by
          by_cases z : i = q
          · rw [z]; exact w
          · exact h3 i (by omega) q2
      cases hto : a.to (s q) with
      | none =>
        rw [zo_none, s_hasn _ (by decide), Option.bind_some, if_pos (by decide)]
        refine skip ?_
        rw [zG.on0 hto]
        cases w : zb x (s q) with
        | true =>
          have := (h1 _ b3 w).2
          rw [zG.on0 hto] at this
          exact this.symm
        | false =>
          have : ¬ s q = g := fun z => by rw [z, h2] at w; cases w
          simp [this]
      | some e =>
        have he := zG.to_n v b2 hto
        obtain ⟨i, w1, w2, w3⟩ := hs.after v (show q < a.n by omega) hto
        have w4 := h3 i w1 w2
        rw [w3] at w4
        rw [zo_some, s_has _ (show e < 64 by omega), Option.bind_some, w4]
        have on1 := zG.on1 v (g := g) b2 hto
        cases hon : a.on g e with
        | false =>
          rw [if_pos (by decide)]
          refine skip ?_
          rw [hon, Bool.or_false] at on1
          rw [on1]
          cases w : zb x (s q) with
          | true =>
            have := (h1 _ b3 w).2
            rw [on1] at this
            exact this.symm
          | false =>
            have : ¬ s q = g := fun z => by rw [z, h2] at w; cases w
            simp [this]
        | true =>
          rw [if_neg (by decide)]
          rw [hon, Bool.or_true] at on1
          refine s_above_12 v h hg j q _ (by omega) (by omega) (fun d hd w => ?_) (by rw [zb_or, h2]; rfl) fun i q1 q2 => ?_
          · rw [zb_or, zb_one b3 hd, Bool.or_eq_true, decide_eq_true_eq] at w
            rcases w with w | w
            · exact h1 d hd w
            · rw [w]; exact ⟨b2, on1⟩
          · have hi := (hs.1 i q2).2
            rw [zb_or, zb_one b3 (by omega)]
            by_cases z : i = q
            · rw [z, on1]; simp
            · have : s i ≠ s q := fun y => z (hs.2.2.1 i q q2 (by omega) y)
              rw [h3 i (by omega) q2]
              simp [this]
theorem zG.on_g (g : Nat) : a.on g g = true := by
  show (decide (g = g) || match a.to g with | none => false | some e => a.onf g (a.mu g) e) = true
  simp
theorem s_above (v : zGV a) {m : zM} {s : Nat → Nat} (h : zTr a m s) {g : Nat} (hg : g < a.n) : ∃ y, f_X3_above (Int32.ofNat g) m = some y ∧ ∀ d, d < 64 → zb y d = (decide (d < a.n) && a.on g d) := by
  have n64 := v.n64
  unfold f_X3_above
  rw [h.1, zy_q]
  refine s_above_12 v h hg zF a.n _ (Nat.le_refl _) (zF_lt (by omega)) (fun d hd w => ?_) (by rw [zb_one (by omega) (by omega)]; simp) fun i q1 q2 => by omega
  rw [zb_one (by omega) hd, decide_eq_true_eq] at w
  rw [w]
  exact ⟨hg, zG.on_g g⟩
theorem s_downstream_5 (v : zGV a) {m : zM} (h : ∀ d, d < a.n → m.1 20 39 d = zo (a.to d)) {t : Nat} (ht : t ≤ 64) : ∀ (j i c e : Nat), c < a.n → i ≤ t → t - i < j → a.go (t - i) c = some e → f_X3_downstream_5 m j (Int32.ofNat t) (Int32.ofNat c) (Int32.ofNat i) = some (Int32.ofNat e)
  | 0, _, _, _, _, _, h, _ => absurd h (Nat.not_lt_zero _)
  | j + 1, i, c, e, hc, hi, hj, hg => by
    have n64 := v.n64
    unfold f_X3_downstream_5
    by_cases he : i = t
    · rw [if_pos (by rw [zi_le (by omega) (by omega)]; omega)]
      rw [he, Nat.sub_self] at hg
      cases hg
      rfl
    · rw [if_neg (by rw [zi_le (by omega) (by omega)]; omega), show (64 : Int32) = Int32.ofNat 64 from rfl, if_neg (by rw [zi_le (by omega) (by omega)]; omega), s_at' 20 39 (show c < 64 by omega), Option.bind_some, h c hc, zi_s]
      rw [show t - i = (t - (i + 1)) + 1 by omega] at hg
      have hg' : (a.to c).bind (a.go (t - (i + 1))) = some e := hg
      cases hto : a.to c with
      | none => rw [hto] at hg'; cases hg'
      | some f =>
        rw [hto] at hg'
        exact s_downstream_5 v h ht j (i + 1) f e (zG.to_n v hc hto) (by omega) (by omega) hg'
theorem s_downstream (v : zGV a) {m : zM} (h : ∀ d, d < a.n → m.1 20 39 d = zo (a.to d)) {t c e : Nat} (ht : t ≤ 64) (hc : c < a.n) (hg : a.go t c = some e) : f_X3_downstream (Int32.ofNat c) (Int32.ofNat t) m = some (Int32.ofNat e) :=
  s_downstream_5 v h ht zF 0 c e hc (Nat.zero_le _) (zF_lt (by omega)) hg
end
