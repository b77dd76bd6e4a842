/-! The class's ranks. -/
abbrev zP36 (k i _j : Nat) : Prop := k = 20 ∧ i = 36
section
variable {a : zG} {g : Nat}
theorem zG.rk_some (v : zGV a) : ∀ (i j : Nat) {e : Nat}, e < a.n → a.rk e = j + i → ∃ f, f < a.n ∧ a.rk f = j
  | 0, _, e, he, h => ⟨e, he, h⟩
  | i + 1, j, e, he, h => by
    obtain ⟨d, f, _, q2, _, q4⟩ := zG.rk_pred v he (k := j + i) h
    exact zG.rk_some v i j (zG.nb_n v he q2) q4
theorem s_onLevel (v : zGV a) {m : zM} (hl : ∀ d, d < a.n → m.1 20 33 d = Int32.ofNat (a.lv d)) {c e : Nat} (hc : c < a.n) (he : e < a.n) (x : Int32) : f_X3_isOnLevel (Int32.ofNat c) (Int32.ofNat e) x m = some (decide (m.1 20 36 e = x ∧ a.lv e = a.lv c)) := by
  have n64 := v.n64
  have h1 := zG.lv99 v hc
  have h2 := zG.lv99 v he
  unfold f_X3_isOnLevel
  rw [if_neg (zi_m1 (by omega)), s_at' 20 36 (show e < 64 by omega), Option.bind_some, s_at' 20 33 (show e < 64 by omega), Option.bind_some, s_at' 20 33 (show c < 64 by omega), Option.bind_some, hl e he, hl c hc]
  by_cases q1 : m.1 20 36 e = x
  · rw [if_pos q1]
    by_cases q2 : a.lv e = a.lv c
    · rw [if_pos (by rw [q2])]
      simp [q1, q2]
    · rw [if_neg (by rw [zi_eq (by omega) (by omega)]; exact q2)]
      simp [q2]
  · rw [if_neg q1]
    simp [q1]
theorem s_next_3 (v : zGV a) {m : zM} (r : zGR m g a) (hl : ∀ d, d < a.n → m.1 20 33 d = Int32.ofNat (a.lv d)) {c : Nat} (hc : c < a.n) (x : Int32) : ∀ (j d : Nat), d ≤ 4 → 4 - d < j → ∃ b, f_X3_isNextTo_3 g m j (Int32.ofNat c) x (Int32.ofNat d) = some b ∧ (b = true ↔ ∃ d' e, d ≤ d' ∧ d' < 4 ∧ a.nb c d' = some e ∧ m.1 20 36 e = x ∧ a.lv e = a.lv c)
  | 0, _, _, h => absurd h (Nat.not_lt_zero _)
  | j + 1, d, hd, h => by
    have n64 := v.n64
    unfold f_X3_isNextTo_3
    rw [show (4 : Int32) = Int32.ofNat 4 from rfl]
    by_cases he : d = 4
    · rw [if_pos (by rw [zi_le (by omega) (by omega)]; omega)]
      refine ⟨false, rfl, ?_⟩
      constructor
      · intro q; cases q
      · rintro ⟨d', e, q1, q2, _⟩
        omega
    · obtain ⟨b, i1, i2⟩ := s_next_3 v r hl hc x j (d + 1) (by omega) (by omega)
      rw [if_neg (by rw [zi_le (by omega) (by omega)]; omega), s_nb v r hc (by omega), Option.bind_some, show Int32.ofNat d + 1 = Int32.ofNat (d + 1) from zi_add d 1]
      have other : (∀ e, a.nb c d = some e → ¬ (m.1 20 36 e = x ∧ a.lv e = a.lv c)) → (b = true ↔ ∃ d' e, d ≤ d' ∧ d' < 4 ∧ a.nb c d' = some e ∧ m.1 20 36 e = x ∧ a.lv e = a.lv c) := fun hno => by
        rw [i2]
        constructor
        · rintro ⟨d', e, q1, q2⟩
          exact ⟨d', e, by omega, q2⟩
        · rintro ⟨d', e, q1, q2, q3, q4⟩
          refine ⟨d', e, ?_, q2, q3, q4⟩
          by_cases y : d' = d
          · exact absurd q4 (hno e (y ▸ q3))
          · omega
      cases hn : a.nb c d with
      | none =>
        have : f_X3_isOnLevel (Int32.ofNat c) (zo none) x m = some false := by
          unfold f_X3_isOnLevel
          rw [if_pos (show zo none = -1 from rfl)]
        rw [this, Option.bind_some, if_pos (by decide)]
        exact ⟨b, i1, other fun e q => by rw [hn] at q; cases q⟩
      | some e =>
        have hen := zG.nb_n v hc hn
        rw [show zo (some e) = Int32.ofNat e from rfl, s_onLevel v hl hc hen, Option.bind_some]
        by_cases q : m.1 20 36 e = x ∧ a.lv e = a.lv c
        · rw [if_neg (by simp [q, z_bi])]
          exact ⟨true, rfl, fun _ => ⟨d, e, Nat.le_refl _, by omega, hn, q.1, q.2⟩, fun _ => rfl⟩
        · rw [if_pos (by rw [zi_bi0]; exact decide_eq_false q)]
          exact ⟨b, i1, other fun f w => by rw [hn] at w; cases w; exact q⟩
theorem s_rank_61 (v : zGV a) (hg : g < 11) (K : Int32 → Int32 → zM → Option zM) {k : Nat} (h1 : 1 ≤ k) (h63 : k ≤ 63) : ∀ (j c : Nat) (b : Bool) (m : zM), c ≤ a.n → a.n - c < j → zGR m g a → m.1 5 0 0 = Int32.ofNat a.n → (∀ d, d < a.n → m.1 20 33 d = Int32.ofNat (a.lv d)) → (∀ e, e < a.n → m.1 20 36 e = if a.rk e < k ∨ (e < c ∧ a.rk e = k) then Int32.ofNat (a.rk e) else -1) → (b = true ↔ ∃ e, e < c ∧ a.rk e = k) →
    ∃ b' m', f_X3_findRanks_61 g K j (z_bi b) (Int32.ofNat k) (Int32.ofNat c) m = K (z_bi b') (Int32.ofNat (k + 1)) m' ∧ zFr zP36 m m' ∧ (∀ e, e < a.n → m'.1 20 36 e = if a.rk e < k + 1 then Int32.ofNat (a.rk e) else -1) ∧ (b' = true ↔ ∃ e, e < a.n ∧ a.rk e = k)
  | 0, _, _, _, _, h, _, _, _, _, _ => absurd h (Nat.not_lt_zero _)
  | j + 1, c, b, m, hc, h, r, hs, hl, hk, hb => by
    have n64 := v.n64
    have hj : c < a.n → a.n - (c + 1) < j := by
      clear hb hk
      omega
    unfold f_X3_findRanks_61
    rw [hs, show Int32.ofNat k + 1 = Int32.ofNat (k + 1) from zi_add k 1]
    by_cases he : c = a.n
    · rw [if_pos (by rw [zi_le (by omega) (by omega)]; omega)]
      subst he
      refine ⟨b, m, rfl, zFr.refl m, fun e hel => ?_, hb⟩
      rw [hk e hel]
      have : (a.rk e < k ∨ (e < a.n ∧ a.rk e = k)) ↔ a.rk e < k + 1 := by omega
      simp only [this]
    · have hcn : c < a.n := by omega
      have hc' : c < 64 := by omega
      have hr63 := zG.rk63 v hcn
      rw [if_neg (by rw [zi_le (by omega) (by omega)]; omega), s_at' 20 36 hc', Option.bind_some, show Int32.ofNat c + 1 = Int32.ofNat (c + 1) from zi_add c 1, show Int32.ofNat k - 1 = Int32.ofNat (k - 1) from zi_sub h1]
      have skip : a.rk c ≠ k → ∃ b' m', f_X3_findRanks_61 g K j (z_bi b) (Int32.ofNat k) (Int32.ofNat (c + 1)) m = K (z_bi b') (Int32.ofNat (k + 1)) m' ∧ zFr zP36 m m' ∧ (∀ e, e < a.n → m'.1 20 36 e = if a.rk e < k + 1 then Int32.ofNat (a.rk e) else -1) ∧ (b' = true ↔ ∃ e, e < a.n ∧ a.rk e = k) := fun q => by
        refine s_rank_61 v hg K h1 h63 j (c + 1) b m hcn (hj hcn) r hs hl (fun e hel => ?_) ?_
        · rw [hk e hel]
          have : (a.rk e < k ∨ (e < c ∧ a.rk e = k)) ↔ (a.rk e < k ∨ (e < c + 1 ∧ a.rk e = k)) := by
            by_cases y : e = c
            · subst y; omega
            · omega
          simp only [this]
        · rw [hb]
          constructor
          · rintro ⟨e, w1, w2⟩
            exact ⟨e, by omega, w2⟩
          · rintro ⟨e, w1, w2⟩
            refine ⟨e, ?_, w2⟩
            by_cases y : e = c
            · exact absurd (y ▸ w2) q
            · omega
      rw [hk c hcn]
      by_cases q : a.rk c < k
      · rw [if_pos (c := a.rk c < k ∨ (c < c ∧ a.rk c = k)) (.inl q), if_neg (zi_m1 (by omega))]
        exact skip (by omega)
      · rw [if_neg (c := a.rk c < k ∨ (c < c ∧ a.rk c = k)) (by omega), if_pos rfl]
        obtain ⟨b1, q1, q2⟩ := s_next_3 v r hl hcn (Int32.ofNat (k - 1)) zF 0 (Nat.zero_le _) (Nat.lt_of_lt_of_le (by omega : 4 - 0 < 5) (zF_ge (by decide)))
        have e1 : f_X3_isNextTo g (Int32.ofNat c) (Int32.ofNat (k - 1)) m = some b1 := q1
        have key : b1 = true ↔ a.rk c = k := by
          rw [q2]
          constructor
          · rintro ⟨d, e, _, w2, w3, w4, w5⟩
            have hen := zG.nb_n v hcn w3
            have he63 := zG.rk63 v hen
            rw [hk e hen] at w4
            by_cases y : a.rk e < k ∨ (e < c ∧ a.rk e = k)
            · rw [if_pos y, zi_eq (by omega) (by omega)] at w4
              have := zG.rk_step v hcn w2 w3 w5
              omega
            · rw [if_neg y] at w4
              exact absurd w4.symm (zi_m1 (by omega))
          · intro w
            obtain ⟨d, e, w1, w2, w3, w4⟩ := zG.rk_pred v hcn (k := k - 1) (by omega)
            refine ⟨d, e, Nat.zero_le _, w1, w2, ?_, w3⟩
            rw [hk e (zG.nb_n v hcn w2), if_pos (.inl (by omega)), w4]
        rw [e1, Option.bind_some]
        cases hb1 : b1 with
        | false =>
          rw [if_pos (by decide)]
          exact skip fun w => by
            have := key.mpr w
            rw [hb1] at this
            cases this
        | true =>
          have hrk := key.mp hb1
          rw [if_neg (by decide), s_put 20 36 hc', Option.bind_some]
          have f1 : zFr zP36 m (z_sI m 20 36 c (Int32.ofNat k)) := zFr.sI (zFr.refl m) _ ⟨rfl, rfl⟩
          obtain ⟨b', m', p1, p2, p3, p4⟩ := s_rank_61 v hg K h1 h63 j (c + 1) true (z_sI m 20 36 c (Int32.ofNat k)) hcn (hj hcn) (r.keep f1 fun k i j w => by unfold zGp at w; unfold zP36; omega) (by rw [(f1 5 0 0 (by unfold zP36; omega)).1]; exact hs) (fun d hd => by rw [(f1 20 33 d (by unfold zP36; omega)).1]; exact hl d hd) (fun e hel => by
            rw [zm_I]
            by_cases y : e = c
            · subst y
              rw [if_pos ⟨rfl, rfl, rfl⟩, if_pos (.inr ⟨by omega, hrk⟩), hrk]
            · rw [if_neg (c := 20 = 20 ∧ 36 = 36 ∧ e = c) (fun w => y w.2.2), hk e hel]
              have : (a.rk e < k ∨ (e < c ∧ a.rk e = k)) ↔ (a.rk e < k ∨ (e < c + 1 ∧ a.rk e = k)) := by omega
              simp only [this]) ⟨fun _ => ⟨c, by omega, hrk⟩, fun _ => rfl⟩
          exact ⟨b', m', p1, f1.trans p2, p3, p4⟩
theorem s_rank_45 (v : zGV a) (hg : g < 11) : ∀ (j k : Nat) (b : Bool) (m : zM), 1 ≤ k → k ≤ 64 → 64 - k < j → zGR m g a → m.1 5 0 0 = Int32.ofNat a.n → (∀ d, d < a.n → m.1 20 33 d = Int32.ofNat (a.lv d)) → (∀ e, e < a.n → m.1 20 36 e = if a.rk e < k then Int32.ofNat (a.rk e) else -1) → (b = false → ∀ e, e < a.n → a.rk e ≠ k - 1) →
    ∃ m', f_X3_findRanks_45 g j (z_bi b) (Int32.ofNat k) m = some m' ∧ zFr zP36 m m' ∧ ∀ e, e < a.n → m'.1 20 36 e = Int32.ofNat (a.rk e)
  | 0, _, _, _, _, _, h, _, _, _, _, _ => absurd h (Nat.not_lt_zero _)
  | j + 1, k, b, m, h1, h64, h, r, hs, hl, hk, hb => by
    have n64 := v.n64
    have hj : k ≠ 64 → 1 ≤ k + 1 ∧ k + 1 ≤ 64 ∧ 64 - (k + 1) < j := by
      clear hb hk
      omega
    unfold f_X3_findRanks_45
    rw [show (64 : Int32) = Int32.ofNat 64 from rfl]
    by_cases he : k = 64
    · rw [if_pos (by rw [zi_le (by omega) (by omega)]; omega)]
      refine ⟨m, rfl, zFr.refl m, fun e hel => ?_⟩
      have := zG.rk63 v hel
      rw [hk e hel, if_pos (by omega)]
    · rw [if_neg (by rw [zi_le (by omega) (by omega)]; omega)]
      cases b with
      | false =>
        rw [if_pos (by decide)]
        refine ⟨m, rfl, zFr.refl m, fun e hel => ?_⟩
        have : a.rk e < k := by
          refine Nat.not_le.mp fun w => ?_
          obtain ⟨f, w1, w2⟩ := zG.rk_some v (a.rk e - (k - 1)) (k - 1) hel (by omega)
          exact hb rfl f w1 w2
        rw [hk e hel, if_pos this]
      | true =>
        rw [if_neg (by decide)]
        obtain ⟨b', m1, q1, q2, q3, q4⟩ := s_rank_61 v hg (f_X3_findRanks_45 g j) h1 (show k ≤ 63 by omega) zF 0 false m (Nat.zero_le _) (Nat.lt_of_lt_of_le (by omega : a.n - 0 < 65) (zF_ge (by decide))) r hs hl (fun e hel => by
          rw [hk e hel]
          have : a.rk e < k ↔ (a.rk e < k ∨ (e < 0 ∧ a.rk e = k)) := by omega
          simp only [← this]) ⟨fun w => (by cases w), fun ⟨e, w, _⟩ => absurd w (Nat.not_lt_zero _)⟩
        rw [show z_bi false = (0 : Int32) from rfl, show Int32.ofNat 0 = (0 : Int32) from rfl] at q1
        rw [q1]
        obtain ⟨m', p1, p2, p3⟩ := s_rank_45 v hg j (k + 1) b' m1 (hj he).1 (hj he).2.1 (hj he).2.2 (r.keep q2 fun k i j w => by unfold zGp at w; unfold zP36; omega) (by rw [(q2 5 0 0 (by unfold zP36; omega)).1]; exact hs) (fun d hd => by rw [(q2 20 33 d (by unfold zP36; omega)).1]; exact hl d hd) q3 fun w e hel y => by
          have := q4.mpr ⟨e, hel, by omega⟩
          rw [w] at this
          cases this
        exact ⟨m', p1, q2.trans p2, p3⟩
end
