/-! Small helps; the reference's looks as a whole. -/
theorem zF_lt {k : Nat} (h : k < 1099511627776) : k < zF := Nat.lt_of_lt_of_le h (zF_ge (Nat.le_refl _))
theorem z_in64 {c : Nat} (h : c < 64) : z_inb (Int32.ofNat c) (z_alen 20) = true := by
  rw [zi_inb (by omega), decide_eq_true_eq]
  exact h
theorem zi_s (c : Nat) : Int32.ofNat c + 1 = Int32.ofNat (c + 1) := zi_add c 1
theorem zi_p {c : Nat} (h : 1 ≤ c) : Int32.ofNat c + (-1) = Int32.ofNat (c - 1) := by
  rw [← zi_sub h]
  rw [Int32.sub_eq_add_neg]
  rfl
theorem zi_q {c : Nat} (h : 1 ≤ c) : Int32.ofNat c - 1 = Int32.ofNat (c - 1) := zi_sub h
theorem zi_z {c : Nat} (h : c < 2147483648) : ¬ Int32.ofNat c < 0 := zi_nn h
theorem zi_zl {c : Nat} (h : c < 2147483648) : (0 : Int32) ≤ Int32.ofNat c := by
  rw [show (0 : Int32) = Int32.ofNat 0 from rfl, zi_le (by decide) h]
  omega
theorem zo_none : zo none = -1 := rfl
theorem zo_some (e : Nat) : zo (some e) = Int32.ofNat e := rfl
theorem zm_row (m : zM) (k i c d : Nat) (u : Int32) : (z_sI m k i c u).1 k i d = if d = c then u else m.1 k i d := by
  rw [zm_I]
  by_cases h : d = c
  · rw [if_pos ⟨rfl, rfl, h⟩, if_pos h]
  · rw [if_neg (c := k = k ∧ i = i ∧ d = c) (fun w => h w.2.2), if_neg h]
theorem zm_ot (m : zM) {k i k' i' : Nat} (c d : Nat) (u : Int32) (h : ¬ (k' = k ∧ i' = i)) : (z_sI m k i c u).1 k' i' d = m.1 k' i' d := by
  rw [zm_I, if_neg fun w => h ⟨w.1, w.2.1⟩]
section
variable {a : zG}
theorem zG.nb_ex (v : zGV a) {c : Nat} : ∃ d e, d < 4 ∧ a.nb c d = some e := by
  have w2 := v.w2
  by_cases h : c % a.w + 1 < a.w
  · exact ⟨1, c + 1, by omega, by show (if c % a.w + 1 < a.w then some (c + 1) else none) = _; rw [if_pos h]⟩
  · exact ⟨3, c - 1, by omega, by show (if 0 < c % a.w then some (c - 1) else none) = _; rw [if_pos (by omega)]⟩
noncomputable def zG.lf (a : zG) (c : Nat) : Nat → Nat
  | 0 => 1000000
  | k + 1 => match a.nb c k with
    | some e => min (a.lf c k) (a.lv e)
    | none => a.lf c k
theorem zG.la_lf (v : zGV a) {c : Nat} (hc : c < a.n) : ∀ k, a.la c k = min 99 (a.lf c k)
  | 0 => rfl
  | k + 1 => by
    have ih := zG.la_lf v hc k
    unfold zG.la zG.lf
    cases hn : a.nb c k with
    | none => exact ih
    | some e =>
      show min (a.la c k) (a.lv e) = min 99 (min (a.lf c k) (a.lv e))
      rw [ih]
      omega
theorem zG.lf_le {c d e : Nat} (hn : a.nb c d = some e) : ∀ k, d < k → a.lf c k ≤ a.lv e
  | 0, h => absurd h (Nat.not_lt_zero _)
  | k + 1, h => by
    unfold zG.lf
    by_cases q : d = k
    · subst q
      rw [hn]
      exact Nat.min_le_right _ _
    · have ih := zG.lf_le hn k (by omega)
      split
      · exact Nat.le_trans (Nat.min_le_left _ _) ih
      · exact ih
theorem zG.lf_b (c : Nat) : ∀ k, a.lf c k ≤ 1000000
  | 0 => Nat.le_refl _
  | k + 1 => by
    have ih := zG.lf_b c k
    unfold zG.lf
    split
    · exact Nat.le_trans (Nat.min_le_left _ _) ih
    · exact ih
theorem zG.lf4 (v : zGV a) {c : Nat} (hc : c < a.n) : a.lf c 4 = a.la c 4 := by
  obtain ⟨d, e, hd, hn⟩ := zG.nb_ex (a := a) v (c := c)
  have h1 := zG.lf_le hn 4 hd
  have h2 := zG.lv99 v (zG.nb_n v hc hn)
  rw [zG.la_lf v hc 4]
  omega
theorem s_mch_196 (v : zGV a) (K : Int32 → zM → Option zM) {c : Nat} (hc : c < a.n) {m : zM} (r : zMR (m.1 23 0) a) (hl : ∀ d, d < a.n → m.1 20 59 d = Int32.ofNat (a.lv d)) : ∀ (j d : Nat), d ≤ 4 → 4 - d < j → f_X12_looks_196 K j (Int32.ofNat c) (Int32.ofNat (a.lf c d)) (Int32.ofNat d) m = f_X12_looks_238 K zF (Int32.ofNat c) (Int32.ofNat (a.la c 4)) 3 m
  | 0, _, _, h => absurd h (Nat.not_lt_zero _)
  | j + 1, d, hd, h => by
    have n64 := v.n64
    unfold f_X12_looks_196
    rw [show (4 : Int32) = Int32.ofNat 4 from rfl]
    by_cases he : d = 4
    · rw [if_pos (by rw [zi_le (by omega) (by omega)]; omega), he, zG.lf4 v hc]
    · have ih := s_mch_196 v K hc r hl j (d + 1) (by omega) (by omega)
      have e : a.lf c (d + 1) = match a.nb c d with
        | some e => min (a.lf c d) (a.lv e)
        | none => a.lf c d := rfl
      rw [if_neg (by rw [zi_le (by omega) (by omega)]; omega), s_next v r hc (by omega), Option.bind_some, zi_s]
      cases hn : a.nb c d with
      | none =>
        rw [if_pos (show zo none < 0 by decide)]
        rw [hn] at e
        rw [← ih, e]
      | some f =>
        have hf := zG.nb_n v hc hn
        have hf9 := zG.lv99 v hf
        have hb := zG.lf_b (a := a) c d
        rw [hn] at e
        rw [zo_some, if_neg (zi_z (by omega)), Option.bind_some, z_gdt (z_in64 (by omega)), zi_nat (by omega), hl f hf, z_min (by omega) (by omega), Option.bind_some, ← ih, e]
def zML (a : zG) (m : zM) : Prop := zMq a m ∧ ∀ d, d < a.n → m.1 20 61 d = zo (a.fd d) ∧ m.1 20 62 d = Int32.ofNat (a.am d)
theorem s_mch_157 (v : zGV a) : ∀ (j c : Nat) (m : zM), c ≤ a.n → a.n - c < j → zMR (m.1 23 0) a → zMq a m → (∀ d, d < c → m.1 20 61 d = zo (a.fd d) ∧ m.1 20 62 d = Int32.ofNat (a.am d)) →
    ∃ m', f_X12_looks_157 j (Int32.ofNat c) m = some m' ∧ zFr zPm m m' ∧ zML a m'
  | 0, _, _, _, h, _, _, _ => absurd h (Nat.not_lt_zero _)
  | j + 1, c, m, hc, h, r, hq, hd => by
    have n64 := v.n64
    unfold f_X12_looks_157
    rw [s_mcells r, Option.bind_some]
    by_cases he : c = a.n
    · rw [if_pos (by rw [zi_le (by omega) (by omega)]; omega)]
      subst he
      exact ⟨m, rfl, zFr.refl m, hq, hd⟩
    · have hcn : c < a.n := by omega
      have hj : a.n - (c + 1) < j := by omega
      rw [if_neg (by rw [zi_le (by omega) (by omega)]; omega), z_gdt (z_in64 (by omega)), zi_nat (by omega)]
      have f1 : zFr (fun k i j => zPm k i j ∧ j = c) m (z_sI (z_sI m 20 61 c (-1)) 20 62 c 0) := zFr.sI (zFr.sI (zFr.refl m) _ ⟨⟨rfl, .inl rfl⟩, rfl⟩) _ ⟨⟨rfl, .inr rfl⟩, rfl⟩
      have f2 := f1.mono (Q := zPm) fun k i j w => w.1
      have e1 : (z_sI (z_sI m 20 61 c (-1)) 20 62 c 0).1 20 61 c = -1 := by rw [zm_ot _ _ _ _ (by omega), zm_row, if_pos rfl]
      have e2 : (z_sI (z_sI m 20 61 c (-1)) 20 62 c 0).1 20 62 c = 0 := by rw [zm_row, if_pos rfl]
      have r1 : zMR ((z_sI (z_sI m 20 61 c (-1)) 20 62 c 0).1 23 0) a := by rw [f2.row (fun j => by unfold zPm; omega)]; exact r
      have q1 := hq.keep f2
      generalize z_sI (z_sI m 20 61 c (-1)) 20 62 c 0 = m1 at f1 f2 e1 e2 r1 q1
      rw [s_mout r1 (by omega), Option.bind_some]
      have next : ∀ m2 : zM, zFr (fun k i j => zPm k i j ∧ j = c) m m2 → m2.1 20 61 c = zo (a.fd c) ∧ m2.1 20 62 c = Int32.ofNat (a.am c) → ∃ m', f_X12_looks_157 j (Int32.ofNat (c + 1)) m2 = some m' ∧ zFr zPm m m' ∧ zML a m' := fun m2 g1 g2 => by
        have g3 := g1.mono (Q := zPm) fun k i j w => w.1
        obtain ⟨m', p1, p2, p3⟩ := s_mch_157 v j (c + 1) m2 hcn hj (by rw [g3.row (fun j => by unfold zPm; omega)]; exact r) (hq.keep g3) fun d hdc => by
          by_cases w : d = c
          · rw [w]; exact g2
          · rw [(g1 20 61 d fun y => w y.2).1, (g1 20 62 d fun y => w y.2).1]
            exact hd d (by omega)
        exact ⟨m', p1, g3.trans p2, p3⟩
      by_cases ho : a.ou c = true
      · rw [ho, if_neg (by decide), zi_s]
        refine next m1 f1 ?_
        unfold zG.fd zG.am
        rw [if_pos ho, if_pos ho]
        exact ⟨e1, e2⟩
      · have ho' : a.ou c = false := by cases q : a.ou c <;> simp_all
        rw [ho', if_pos (by decide)]
        rw [show (1000000 : Int32) = Int32.ofNat (a.lf c 0) from rfl, show (0 : Int32) = Int32.ofNat 0 from rfl, s_mch_196 v _ hcn r1 q1.1 zF 0 (by omega) (zF_lt (by omega))]
        obtain ⟨m2, p1, p2, p3, p4⟩ := s_mch_238 v (f_X12_looks_157 j) hcn zF 0 m1 (by omega) (zF_lt (by omega)) r1 q1 e1 e2
        rw [show (3 : Int32) = zx 0 from rfl, p1]
        refine next m2 (f1.trans p2) ?_
        unfold zG.fd zG.am
        rw [if_neg ho, if_neg ho]
        exact ⟨p3, p4⟩
abbrev zPlo (k i _j : Nat) : Prop := k = 20 ∧ 59 ≤ i ∧ i ≤ 62
theorem s_looks (v : zGV a) {m : zM} (r : zMR (m.1 23 0) a) : ∃ m', f_X12_looks m = some m' ∧ zFr zPlo m m' ∧ zML a m' := by
  obtain ⟨m1, p1, p2, p3⟩ := s_mlevels v r
  unfold f_X12_looks
  rw [p1, Option.bind_some]
  have r1 : zMR (m1.1 23 0) a := by rw [p2.row (fun j => by unfold zP59; omega)]; exact r
  obtain ⟨m2, q1, q2, q3⟩ := s_mrk_6 v zF 0 m1 (Nat.zero_le _) (zF_lt (by have := v.n64; omega)) r1 p3 fun d w => absurd w (Nat.not_lt_zero _)
  rw [show (0 : Int32) = Int32.ofNat 0 from rfl, q1]
  obtain ⟨m3, t1, t2, t3⟩ := s_mch_157 v zF 0 m2 (Nat.zero_le _) (zF_lt (by have := v.n64; omega)) (by rw [q2.row (fun j => by unfold zP60; omega)]; exact r1) ⟨fun d hd => by rw [(q2 20 59 d (by unfold zP60; omega)).1]; exact p3 d hd, q3⟩ fun d w => absurd w (Nat.not_lt_zero _)
  refine ⟨m3, t1, ?_, t3⟩
  exact ((p2.mono fun k i j w => by unfold zP59 at w; unfold zPlo; omega).trans (q2.mono fun k i j w => by unfold zP60 at w; unfold zPlo; omega)).trans (t2.mono fun k i j w => by unfold zPm at w; unfold zPlo; omega)
end
