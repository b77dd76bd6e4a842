/-! The class's plan and carving. -/
section
variable {a : zG} {g : Nat}
theorem s_has_7 (v : zGV a) {m : zM} (r : zGR m g a) {h : Nat} (hh : h ≤ 99) : ∀ (j c : Nat), c ≤ a.n → a.n - c < j → ∃ b, f_X4_hasHeight_7 g m j (Int32.ofNat h) (Int32.ofNat a.n) (Int32.ofNat c) = some b ∧ (b = true ↔ ∃ d, c ≤ d ∧ d < a.n ∧ a.ht d = h)
  | 0, _, _, h => absurd h (Nat.not_lt_zero _)
  | j + 1, c, hc, hj => by
    have n64 := v.n64
    unfold f_X4_hasHeight_7
    by_cases he : c = a.n
    · subst he
      rw [if_pos (by rw [zi_le (by omega) (by omega)]; omega)]
      exact ⟨false, rfl, fun q => (by cases q), fun ⟨d, q1, q2, _⟩ => by omega⟩
    · have hcn : c < a.n := by omega
      have hht := v.ht c
      obtain ⟨b, i1, i2⟩ := s_has_7 v r hh j (c + 1) hcn (by omega)
      rw [if_neg (by rw [zi_le (by omega) (by omega)]; omega), s_at' 20 (3 * g) (show c < 64 by omega), Option.bind_some, r.ht c (by omega), zi_s]
      by_cases w : a.ht c = h
      · rw [if_pos (by rw [w])]
        exact ⟨true, rfl, fun _ => ⟨c, Nat.le_refl _, hcn, w⟩, fun _ => rfl⟩
      · rw [if_neg (by rw [zi_eq (by omega) (by omega)]; exact w)]
        refine ⟨b, i1, i2.trans ⟨fun ⟨d, q1, q2, q3⟩ => ⟨d, by omega, q2, q3⟩, fun ⟨d, q1, q2, q3⟩ => ⟨d, ?_, q2, q3⟩⟩⟩
        by_cases z : d = c
        · exact absurd (z ▸ q3) w
        · omega
theorem s_hasHeight (v : zGV a) {m : zM} (r : zGR m g a) {h : Nat} (hh : h ≤ 99) : ∃ b, f_X4_hasHeight g (Int32.ofNat h) m = some b ∧ (b = true ↔ ∃ d, d < a.n ∧ a.ht d = h) := by
  have n64 := v.n64
  unfold f_X4_hasHeight
  rw [s_size v r, Option.bind_some]
  obtain ⟨b, h1, h2⟩ := s_has_7 v r hh zF 0 (Nat.zero_le _) (zF_lt (by omega))
  exact ⟨b, h1, h2.trans ⟨fun ⟨d, _, q⟩ => ⟨d, q⟩, fun ⟨d, q⟩ => ⟨d, Nat.zero_le _, q⟩⟩⟩
abbrev zP56 (k i _j : Nat) : Prop := k = 20 ∧ i = 56
theorem s_own_8 (v : zGV a) (hg : g < 11) {h : Nat} (hh : h ≤ 99) : ∀ (j c : Nat) (m : zM), c ≤ a.n → a.n - c < j → zGR m g a → zVl a h m → zOw a h m → (∀ e, e < c → a.ht e = h → m.1 20 56 e = Int32.ofNat (a.WW h e)) →
    ∃ m', f_X0_keepOwn_8 g j (Int32.ofNat h) (Int32.ofNat a.n) (Int32.ofNat c) m = some m' ∧ zFr zP56 m m' ∧ zOw a (h + 1) m'
  | 0, _, _, _, h, _, _, _, _ => absurd h (Nat.not_lt_zero _)
  | j + 1, c, m, hc, hj, r, hv, ho, hm => by
    have n64 := v.n64
    unfold f_X0_keepOwn_8
    by_cases he : c = a.n
    · subst he
      rw [if_pos (by rw [zi_le (by omega) (by omega)]; omega)]
      refine ⟨m, rfl, zFr.refl m, fun e h1 h2 => ?_⟩
      by_cases z : a.ht e = h
      · rw [z]; exact hm e h1 z
      · exact ho e h1 (by omega)
    · have hcn : c < a.n := by omega
      have c64 : c < 64 := by omega
      have hht := v.ht c
      have hj2 : a.n - (c + 1) < j := by omega
      rw [if_neg (by rw [zi_le (by omega) (by omega)]; omega), s_at' 20 (3 * g) c64, Option.bind_some, r.ht c c64, zi_s]
      by_cases w : a.ht c = h
      · rw [if_pos (by rw [w]), s_at' 20 57 c64, Option.bind_some, hv c hcn (by omega), s_put 20 56 c64, Option.bind_some]
        have f1 : zFr zP56 m (z_sI m 20 56 c (Int32.ofNat (a.WW h c))) := zFr.sI (zFr.refl m) _ ⟨rfl, rfl⟩
        obtain ⟨m', p1, p2, p3⟩ := s_own_8 v hg hh j (c + 1) _ hcn hj2 (r.keep f1 fun k i j w => by unfold zGp at w; unfold zP56; omega) (fun e q1 q2 => by rw [(f1 20 57 e (by unfold zP56; omega)).1]; exact hv e q1 q2) (fun e q1 q2 => by
          rw [zm_row]
          by_cases z : e = c
          · rw [z] at q2; omega
          · rw [if_neg z]; exact ho e q1 q2) fun e q1 q2 => by
          rw [zm_row]
          by_cases z : e = c
          · rw [if_pos z, z]
          · rw [if_neg z]; exact hm e (by omega) q2
        exact ⟨m', p1, f1.trans p2, p3⟩
      · rw [if_neg (by rw [zi_eq (by omega) (by omega)]; exact w)]
        refine s_own_8 v hg hh j (c + 1) m hcn hj2 r hv ho fun e q1 q2 => ?_
        by_cases z : e = c
        · exact absurd (z ▸ q2) w
        · exact hm e (by omega) q2
theorem s_keepOwn (v : zGV a) (hg : g < 11) {h : Nat} (hh : h ≤ 99) {m : zM} (r : zGR m g a) (hv : zVl a h m) (ho : zOw a h m) : ∃ m', f_X0_keepOwn g (Int32.ofNat h) m = some m' ∧ zFr zP56 m m' ∧ zOw a (h + 1) m' := by
  unfold f_X0_keepOwn
  rw [s_size v r, Option.bind_some]
  exact s_own_8 v hg hh zF 0 m (Nat.zero_le _) (zF_lt (by have := v.n64; omega)) r hv ho fun e w => absurd w (Nat.not_lt_zero _)
theorem s_bst_3 (v : zGV a) (hg : g < 11) {H h c : Nat} (hH : H ≤ 99) (hh : h ≤ H) (hc : c < a.n) (hl : h ≤ a.ht c) (ho : a.ou c = false) {m : zM} (r : zGR m g a) (how : zOw a (H + 1) m) (hv : zVl a h m) : ∀ (j d : Nat), d ≤ a.bf h c → 4 - d < j → f_X0_bestStep_3 g m j (Int32.ofNat c) (Int32.ofNat h) (Int32.ofNat d) = some (Int32.ofNat (a.bn h c))
  | 0, _, _, h => absurd h (Nat.not_lt_zero _)
  | j + 1, d, hd, hj => by
    have n64 := v.n64
    obtain ⟨b1, b2, b3, b4, b5, _, _⟩ := zG.bf_at v (h := h) hc ho
    have wb := zG.WW_b v (h := h) hc
    have step : ∀ e, e < a.n → f_X0_stepValue g (Int32.ofNat e) (Int32.ofNat h) m = some (Int32.ofNat (a.WW (min h (a.ht e)) e + (a.ht e - h) * 1000 + 1)) := fun e he => by
      have hht := v.ht e
      unfold f_X0_stepValue
      have z0 := z_sub0 (x := a.ht e) (y := h) (by omega) (by omega)
      rw [if_neg (zi_m1 (by omega)), s_at' 20 (3 * g) (show e < 64 by omega), Option.bind_some, r.ht e (by omega)]
      by_cases w : a.ht e < h
      · rw [if_neg (fun q => by have := z0.mp q; omega), s_at' 20 56 (show e < 64 by omega), Option.bind_some, how e he (by omega), zi_s, Nat.min_eq_right (by omega), show a.ht e - h = 0 by omega]
      · rw [if_pos (z0.mpr (by omega)), s_at' 20 57 (show e < 64 by omega), Option.bind_some, hv e he (by omega), zi_sub (by omega), show (1000 : Int32) = Int32.ofNat 1000 from rfl, zi_mul, zi_add, zi_s, Nat.min_eq_left (by omega)]
    unfold f_X0_bestStep_3
    rw [show (4 : Int32) = Int32.ofNat 4 from rfl, if_neg (by rw [zi_le (by omega) (by omega)]; omega), s_nb v r hc (by omega), Option.bind_some, zi_s]
    by_cases w : d = a.bf h c
    · have e4 := (zG.WW_le v (h := h) hc ho b2).2.mpr b3
      rw [w, b2, zo_some, step _ b5, Option.bind_some, s_at' 20 57 (show c < 64 by omega), Option.bind_some, hv c hc hl, e4, if_pos rfl]
    · have hne := b4 d (by omega)
      have ih := s_bst_3 v hg hH hh hc hl ho r how hv j (d + 1) (by omega) (by omega)
      cases hn : a.nb c d with
      | none =>
        have e0 : f_X0_stepValue g (zo none) (Int32.ofNat h) m = some (1000000000 : Int32) := by
          unfold f_X0_stepValue
          rw [zo_none, if_pos rfl]
        rw [e0, Option.bind_some, s_at' 20 57 (show c < 64 by omega), Option.bind_some, hv c hc hl, if_neg (by rw [show (1000000000 : Int32) = Int32.ofNat 1000000000 from rfl, zi_eq (by omega) (by omega)]; omega)]
        exact ih
      | some e =>
        have he := zG.nb_n v hc hn
        have hht := v.ht e
        have we := zG.WW_b v (h := min h (a.ht e)) he
        rw [zo_some, step e he, Option.bind_some, s_at' 20 57 (show c < 64 by omega), Option.bind_some, hv c hc hl, if_neg]
        · exact ih
        · rw [zi_eq (by omega) (by omega)]
          intro q
          rw [(zG.WW_le v (h := h) hc ho hn).2.mp q] at hne
          cases hne
abbrev zPpl (k i j : Nat) : Prop := (k = 20 ∧ (i = 57 ∨ i = 58)) ∨ (k = 2 ∧ i = 0 ∧ (j = 3 ∨ j = 4))
theorem zl_20 : z_alen 20 = 64 := rfl
theorem s_pl_70 (v : zGV a) (hg : g < 11) {H : Nat} (hH : H ≤ 99) : ∀ (j h c i q : Nat) (m : zM), a.vk h c + 2 < j → h ≤ H → c < a.n → h ≤ a.ht c → i + a.vk h c ≤ 63 → zGR m g a → zOw a (H + 1) m → zVl a h m → m.1 2 0 3 = Int32.ofNat i → m.1 2 0 4 = Int32.ofNat q →
    ∃ m', f_X0_plan_70 g j (Int32.ofNat h) (Int32.ofNat c) (Int32.ofNat i) m = some m' ∧ zFr zPpl m m' ∧ m'.1 2 0 3 = Int32.ofNat (i + 1 + a.vk h c) ∧ m'.1 2 0 4 = Int32.ofNat (q + a.vq h c) ∧ (∀ t, t ≤ a.vk h c → m'.1 20 58 (i + t) = Int32.ofNat (a.cw t h c)) ∧ ∀ t, t < i → m'.1 20 58 t = m.1 20 58 t := by
  intro j
  induction j with
  | zero => intro h c i q m w; exact absurd w (Nat.not_lt_zero _)
  | succ j ih =>
    intro h c i q m hj hh hc hl hi r how hv h3 h4
    have n64 := v.n64
    unfold f_X0_plan_70
    rw [show (64 : Int32) = Int32.ofNat 64 from rfl, if_neg (by rw [zi_le (by omega) (by omega)]; omega), if_neg (zi_m1 (by omega)), h3, s_put 20 58 (by rw [zl_20]; omega), Option.bind_some]
    have e3 : (z_sI m 20 58 i (Int32.ofNat c)).1 2 0 3 = Int32.ofNat i := by rw [zm_ot _ _ _ _ (by omega)]; exact h3
    rw [e3, zi_s]
    have f1 : zFr (fun k i' j => (k = 20 ∧ i' = 58 ∧ j = i) ∨ (k = 2 ∧ i' = 0 ∧ j = 3)) m (z_sI (z_sI m 20 58 i (Int32.ofNat c)) 2 0 3 (Int32.ofNat (i + 1))) := zFr.sI (zFr.sI (zFr.refl m) _ (.inl ⟨rfl, rfl, rfl⟩)) _ (.inr ⟨rfl, rfl, rfl⟩)
    have g3 : (z_sI (z_sI m 20 58 i (Int32.ofNat c)) 2 0 3 (Int32.ofNat (i + 1))).1 2 0 3 = Int32.ofNat (i + 1) := by rw [zm_row, if_pos rfl]
    have g58 : (z_sI (z_sI m 20 58 i (Int32.ofNat c)) 2 0 3 (Int32.ofNat (i + 1))).1 20 58 i = Int32.ofNat c := by rw [zm_ot _ _ _ _ (by omega), zm_row, if_pos rfl]
    generalize z_sI (z_sI m 20 58 i (Int32.ofNat c)) 2 0 3 (Int32.ofNat (i + 1)) = m1 at f1 g3 g58
    have r1 := r.keep f1 fun k i j w => by unfold zGp at w; omega
    have fp : zFr zPpl m m1 := f1.mono fun k i j w => by unfold zPpl; omega
    have how1 : zOw a (H + 1) m1 := fun e w1 w2 => by rw [(f1 20 56 e (by omega)).1]; exact how e w1 w2
    have hv1 : zVl a h m1 := fun e w1 w2 => by rw [(f1 20 57 e (by omega)).1]; exact hv e w1 w2
    have g4 : m1.1 2 0 4 = Int32.ofNat q := by rw [(f1 2 0 4 (by omega)).1]; exact h4
    have low : ∀ t, t < i → m1.1 20 58 t = m.1 20 58 t := fun t ht => (f1 20 58 t (by omega)).1
    rw [s_outlet v r1 hc, Option.bind_some]
    cases ho : a.ou c with
    | true =>
      obtain ⟨v1, v2⟩ := zG.v0 v (h := h) hc ho
      rw [if_neg (by decide)]
      unfold f_X0_plan_127
      rw [if_pos rfl]
      unfold f_X0_plan_167
      rw [if_pos rfl]
      obtain ⟨j', rfl⟩ : ∃ j', j = j' + 1 := ⟨j - 1, by omega⟩
      have fin : f_X0_plan_70 g (j' + 1) (Int32.ofNat h) (-1) (Int32.ofNat i + 1) m1 = some m1 := by
        unfold f_X0_plan_70
        rw [if_pos (show (-1 : Int32) = -1 from rfl), ite_self]
      rw [fin]
      refine ⟨m1, rfl, fp, by rw [v2]; exact g3, by rw [v1]; exact g4, fun t ht => ?_, low⟩
      rw [show t = 0 by omega]
      exact g58
    | false =>
      obtain ⟨b1, b2, b3, b4, b5, b6, b7⟩ := zG.bf_at v (h := h) hc ho
      have hht := v.ht (a.bn h c)
      have c64 : a.bn h c < 64 := by omega
      rw [if_pos (by decide)]
      unfold f_X0_bestStep
      rw [show (0 : Int32) = Int32.ofNat 0 from rfl, s_bst_3 v hg hH hh hc hl ho r1 how1 hv1 zF 0 (Nat.zero_le _) (zF_lt (by omega)), Option.bind_some]
      unfold f_X0_plan_127
      rw [if_neg (zi_m1 (by omega)), s_at' 20 (3 * g) c64, Option.bind_some, r1.ht _ c64, zi_s]
      have tail : ∀ (m2 : zM) (h2 q2 : Nat), h2 = min h (a.ht (a.bn h c)) → q2 = q + (a.ht (a.bn h c) - h) → zFr (fun k i j => (k = 20 ∧ i = 57) ∨ (k = 2 ∧ i = 0 ∧ j = 4)) m1 m2 → zVl a h2 m2 → m2.1 2 0 4 = Int32.ofNat q2 → ∃ m', f_X0_plan_70 g j (Int32.ofNat h2) (Int32.ofNat (a.bn h c)) (Int32.ofNat (i + 1)) m2 = some m' ∧ zFr zPpl m m' ∧ m'.1 2 0 3 = Int32.ofNat (i + 1 + a.vk h c) ∧ m'.1 2 0 4 = Int32.ofNat (q + a.vq h c) ∧ (∀ t, t ≤ a.vk h c → m'.1 20 58 (i + t) = Int32.ofNat (a.cw t h c)) ∧ ∀ t, t < i → m'.1 20 58 t = m.1 20 58 t := fun m2 h2 q2 e1 e2 fr hv2 hc2 => by
        obtain ⟨m', p1, p2, p3, p4, p5, p6⟩ := ih h2 (a.bn h c) (i + 1) q2 m2 (by rw [e1]; omega) (by omega) b5 (by omega) (by rw [e1]; omega) (r1.keep fr fun k i j w => by unfold zGp at w; omega) (fun e w1 w2 => by rw [(fr 20 56 e (by omega)).1]; exact how1 e w1 w2) hv2 (by rw [(fr 2 0 3 (by omega)).1]; exact g3) hc2
        rw [e1] at p3 p4 p5
        refine ⟨m', p1, (fp.trans (fr.mono fun k i j w => by unfold zPpl; omega)).trans p2, by rw [p3]; congr 1; omega, by rw [p4]; congr 1; omega, fun t ht => ?_, fun t ht => ?_⟩
        · cases t with
          | zero => rw [p6 (i + 0) (by omega), (fr 20 58 (i + 0) (by omega)).1]; exact g58
          | succ t =>
            rw [show i + (t + 1) = i + 1 + t by omega]
            exact p5 t (by omega)
        · rw [p6 t (by omega), (fr 20 58 t (by omega)).1]
          exact low t ht
      by_cases w : a.ht (a.bn h c) < h
      · rw [if_neg (by rw [zi_le (by omega) (by omega)]; omega), Option.bind_some]
        obtain ⟨m2, u1, u2, u3⟩ := s_solve v hg (h := a.ht (a.bn h c)) (by omega) r1 fun e w1 w2 => how1 e w1 (by omega)
        rw [u1, Option.bind_some]
        exact tail m2 _ q (by rw [Nat.min_eq_right (by omega)]) (by omega) (u2.mono fun k i j w => by unfold zP57 at w; omega) u3 (by rw [(u2 2 0 4 (by unfold zP57; omega)).1]; exact g4)
      · rw [if_pos (by rw [zi_le (by omega) (by omega)]; omega)]
        unfold f_X0_plan_167
        rw [if_neg (zi_m1 (by omega)), s_at' 20 (3 * g) c64, Option.bind_some, r1.ht _ c64, zi_sub (by omega), g4, zi_add, zi_s]
        have f2 : zFr (fun k i j => (k = 20 ∧ i = 57) ∨ (k = 2 ∧ i = 0 ∧ j = 4)) m1 (z_sI m1 2 0 4 (Int32.ofNat (q + (a.ht (a.bn h c) - h)))) := zFr.sI (zFr.refl m1) _ (.inr ⟨rfl, rfl, rfl⟩)
        exact tail _ h _ (by rw [Nat.min_eq_left (by omega)]) rfl f2 (fun e w1 w2 => by rw [zm_ot _ _ _ _ (by omega)]; exact hv1 e w1 w2) (by rw [zm_row, if_pos rfl])
abbrev zPpn (k i j : Nat) : Prop := (k = 20 ∧ 56 ≤ i ∧ i ≤ 58) ∨ (k = 2 ∧ i = 0 ∧ (j = 3 ∨ j = 4))
def zPn (a : zG) (c : Nat) (m : zM) : Prop := m.1 2 0 4 = Int32.ofNat (a.vq (a.ht c) c) ∧ m.1 2 0 3 = Int32.ofNat (a.vk (a.ht c) c + 1) ∧ ∀ t, t ≤ a.vk (a.ht c) c → m.1 20 58 t = Int32.ofNat (a.cw t (a.ht c) c)
theorem s_pl_12 (v : zGV a) (hg : g < 11) {c : Nat} (hc : c < a.n) : ∀ (j h : Nat) (m : zM), h ≤ a.ht c + 1 → a.ht c + 1 - h < j → zGR m g a → zOw a h m → (h = a.ht c + 1 → zVl a (a.ht c) m) → ∃ m', f_X0_plan_12 g j (Int32.ofNat c) (Int32.ofNat (a.ht c)) (Int32.ofNat h) m = some m' ∧ zFr zPpn m m' ∧ zPn a c m'
  | 0, _, _, _, h, _, _, _ => absurd h (Nat.not_lt_zero _)
  | j + 1, h, m, hh, hj, r, how, hv => by
    have n64 := v.n64
    have hht := v.ht c
    unfold f_X0_plan_12
    by_cases he : h = a.ht c + 1
    · have hv2 := hv he
      subst he
      rw [if_pos (by rw [zi_lt (by omega) (by omega)]; omega)]
      unfold f_X0_plan_54
      have f1 : zFr (fun k i j => k = 2 ∧ i = 0 ∧ (j = 3 ∨ j = 4)) m (z_sI (z_sI m 2 0 3 0) 2 0 4 0) := zFr.sI (zFr.sI (zFr.refl m) _ ⟨rfl, rfl, .inl rfl⟩) _ ⟨rfl, rfl, .inr rfl⟩
      have k63 := zG.vk63 v (h := a.ht c) hc
      obtain ⟨m', p1, p2, p3, p4, p5, _⟩ := s_pl_70 v hg hht zF (a.ht c) c 0 0 (z_sI (z_sI m 2 0 3 0) 2 0 4 0) (zF_lt (by omega)) (Nat.le_refl _) hc (Nat.le_refl _) (by omega) (r.keep f1 fun k i j w => by unfold zGp at w; omega) (fun e w1 w2 => by rw [(f1 20 56 e (by omega)).1]; exact how e w1 w2) (fun e w1 w2 => by rw [(f1 20 57 e (by omega)).1]; exact hv2 e w1 w2) (by rw [zm_row, if_neg (by omega), zm_row, if_pos rfl]; rfl) (by rw [zm_row, if_pos rfl]; rfl)
      refine ⟨m', p1, (f1.mono fun k i j w => by unfold zPpn; omega).trans (p2.mono fun k i j w => by unfold zPpl at w; unfold zPpn; omega), by rw [p4]; congr 1; omega, by rw [p3]; congr 1; omega, fun t ht => by have := p5 t ht; rw [Nat.zero_add] at this; exact this⟩
    · have hle : h ≤ a.ht c := by omega
      have h99 : h ≤ 99 := by omega
      have hj2 : h + 1 ≤ a.ht c + 1 ∧ a.ht c + 1 - (h + 1) < j := by omega
      obtain ⟨b, b1, b2⟩ := s_hasHeight v r (h := h) h99
      rw [if_neg (by rw [zi_lt (by omega) (by omega)]; omega), show (99 : Int32) = Int32.ofNat 99 from rfl, if_neg (by rw [zi_lt (by omega) (by omega)]; omega), b1, Option.bind_some, zi_s]
      cases hb : b with
      | false =>
        rw [if_pos (by decide)]
        have no : ∀ d, d < a.n → a.ht d ≠ h := fun d h1 h2 => by
          have := b2.mpr ⟨d, h1, h2⟩
          rw [hb] at this
          cases this
        refine s_pl_12 v hg hc j (h + 1) m hj2.1 hj2.2 r (fun e w1 w2 => how e w1 ?_) fun w => ?_
        · have := no e w1
          omega
        · exact absurd (show a.ht c = h by omega) (no c hc)
      | true =>
        rw [if_neg (by decide)]
        obtain ⟨m1, p1, p2, p3⟩ := s_solve v hg h99 r how
        have r1 := r.keep p2 fun k i j w => by unfold zGp at w; unfold zP57; omega
        have how1 : zOw a h m1 := fun e w1 w2 => by rw [(p2 20 56 e (by unfold zP57; omega)).1]; exact how e w1 w2
        obtain ⟨m2, q1, q2, q3⟩ := s_keepOwn v hg h99 r1 p3 how1
        rw [p1, Option.bind_some, q1, Option.bind_some]
        have r2 := r1.keep q2 fun k i j w => by unfold zGp at w; unfold zP56; omega
        obtain ⟨m', t1, t2, t3⟩ := s_pl_12 v hg hc j (h + 1) m2 hj2.1 hj2.2 r2 q3 fun w => by
          have : a.ht c = h := by omega
          rw [this]
          exact fun e w1 w2 => by rw [(q2 20 57 e (by unfold zP56; omega)).1]; exact p3 e w1 w2
        exact ⟨m', t1, ((p2.mono fun k i j w => by unfold zP57 at w; unfold zPpn; omega).trans (q2.mono fun k i j w => by unfold zP56 at w; unfold zPpn; omega)).trans t2, t3⟩
theorem s_plan (v : zGV a) (hg : g < 11) {c : Nat} (hc : c < a.n) {m : zM} (r : zGR m g a) : ∃ m', f_X0_plan g (Int32.ofNat c) m = some m' ∧ zFr zPpn m m' ∧ zPn a c m' := by
  have n64 := v.n64
  unfold f_X0_plan
  rw [s_at' 20 (3 * g) (show c < 64 by omega), Option.bind_some, r.ht c (by omega)]
  exact s_pl_12 v hg hc zF 0 m (Nat.zero_le _) (zF_lt (by have := v.ht c; omega)) r (fun e _ w => absurd w (Nat.not_lt_zero _)) fun w => by omega
theorem zG.cw_n (v : zGV a) : ∀ (t h c : Nat), c < a.n → t ≤ a.vk h c → a.cw t h c < a.n
  | 0, _, _, hc, _ => hc
  | t + 1, h, c, hc, ht => by
    have ho : a.ou c = false := by
      cases w : a.ou c with
      | false => rfl
      | true => have := (zG.v0 v (h := h) hc w).2; omega
    obtain ⟨_, _, _, _, b5, _, b7⟩ := zG.bf_at v (h := h) hc ho
    exact zG.cw_n v t _ _ b5 (by omega)
/-! The lowest place of a set. -/
def zG.lp (a : zG) (S : Nat → Bool) (p : Nat) : Nat → Nat
  | 0 => p
  | c + 1 => if S c = true ∧ a.ht c < a.ht (a.lp S p c) then c else a.lp S p c
theorem zG.lp_n {S : Nat → Bool} {p : Nat} (hp : p < a.n) : ∀ c, c ≤ a.n → a.lp S p c < a.n
  | 0, _ => hp
  | c + 1, hc => by
    unfold zG.lp
    split
    · omega
    · exact zG.lp_n hp c (by omega)
theorem zG.lp_S {S : Nat → Bool} {p : Nat} (hp : S p = true) : ∀ c, S (a.lp S p c) = true
  | 0 => hp
  | c + 1 => by
    unfold zG.lp
    split
    · rename_i h; exact h.1
    · exact zG.lp_S hp c
theorem s_lp_14 (v : zGV a) {m : zM} (r : zGR m g a) {x : Int64} {p : Nat} (hp : p < a.n) : ∀ (j c : Nat), c ≤ a.n → a.n - c < j → f_X4_lowestPlace_14 g m j x (Int32.ofNat (a.lp (zb x) p c)) (Int32.ofNat a.n) (Int32.ofNat c) = some (Int32.ofNat (a.lp (zb x) p a.n))
  | 0, _, _, h => absurd h (Nat.not_lt_zero _)
  | j + 1, c, hc, hj => by
    have n64 := v.n64
    unfold f_X4_lowestPlace_14
    by_cases he : c = a.n
    · subst he
      rw [if_pos (by rw [zi_le (by omega) (by omega)]; omega)]
    · have hcn : c < a.n := by omega
      have ih := s_lp_14 v r hp (x := x) j (c + 1) hcn (by omega)
      have ln := zG.lp_n (S := zb x) hp c hc
      have h1 := v.ht c
      have h2 := v.ht (a.lp (zb x) p c)
      have e : a.lp (zb x) p (c + 1) = if zb x c = true ∧ a.ht c < a.ht (a.lp (zb x) p c) then c else a.lp (zb x) p c := rfl
      rw [if_neg (by rw [zi_le (by omega) (by omega)]; omega), s_has _ (show c < 64 by omega), Option.bind_some, zi_s]
      cases hb : zb x c with
      | false =>
        rw [if_pos (by decide)]
        rw [e, hb, if_neg (fun w => by cases w.1)] at ih
        exact ih
      | true =>
        rw [if_neg (by decide), s_at' 20 (3 * g) (show c < 64 by omega), Option.bind_some, r.ht c (by omega), s_at' 20 (3 * g) (show a.lp (zb x) p c < 64 by omega), Option.bind_some, r.ht _ (by omega)]
        by_cases w : a.ht c < a.ht (a.lp (zb x) p c)
        · rw [if_neg (by rw [zi_le (by omega) (by omega)]; omega)]
          rw [e, hb, if_pos ⟨rfl, w⟩] at ih
          exact ih
        · rw [if_pos (by rw [zi_le (by omega) (by omega)]; omega)]
          rw [e, hb, if_neg (fun y => w y.2)] at ih
          exact ih
theorem s_lowestPlace (v : zGV a) {m : zM} (r : zGR m g a) {x : Int64} {p : Nat} (hp : p < a.n) (h1 : zb x p = true) (h0 : ∀ c, c < p → zb x c = false) : f_X4_lowestPlace g x m = some (Int32.ofNat (a.lp (zb x) p a.n)) := by
  have n64 := v.n64
  unfold f_X4_lowestPlace
  rw [s_lowest x (show p < 64 by omega) h1 h0, Option.bind_some, s_size v r, Option.bind_some]
  exact s_lp_14 v r hp zF 0 (Nat.zero_le _) (zF_lt (by omega))
end
