/-! The reference's levels: over and over till nothing sinks any more. -/
abbrev zP59 (k i _j : Nat) : Prop := k = 20 ∧ i = 59
theorem zFr.row {P : Nat → Nat → Nat → Prop} {m m' : zM} (f : zFr P m m') {k i : Nat} (h : ∀ j, ¬ P k i j) : m'.1 k i = m.1 k i := by
  funext j
  exact (f k i j (h j)).1
theorem zG.lv_step {a : zG} (v : zGV a) {c d e : Nat} (h : c < a.n) (hn : a.nb c d = some e) : a.lv c ≤ max (a.ht c) (a.lv e) := by
  have he := zG.nb_n v h hn
  have h1 := v.ht c
  have h2 := zG.lv99 v he
  obtain ⟨d', _, hs⟩ := zG.nb_sym v h hn
  rw [← zG.lv_iff (by omega)]
  exact (((zG.lv_iff (by omega)).mpr (Nat.le_refl (a.lv e))).up (Nat.le_max_right _ _)).step hs (zG.lo_iff.mpr ⟨h, Nat.le_max_left _ _⟩)
theorem zG.lv_le {a : zG} (v : zGV a) {L : Nat → Nat} (ho : ∀ c, c < a.n → a.ou c = true → L c ≤ a.ht c) (hr : ∀ c, c < a.n → ∀ d e, d < 4 → a.nb c d = some e → L c ≤ max (a.ht c) (L e)) {c : Nat} (h : c < a.n) : L c ≤ a.lv c := by
  have h1 := (zG.lv_iff (a := a) (c := c) (t := a.lv c) (by have := zG.lv99 v h; omega)).mpr (Nat.le_refl _)
  refine (h1 (fun c' => c' < a.n ∧ L c' ≤ a.lv c) ?_ ?_).2
  · intro e he hw
    have hl := zG.lo_iff.mp hw
    exact ⟨hl.1, Nat.le_trans (ho e hl.1 he) hl.2⟩
  · intro e d f hp hn hw
    have hl := zG.lo_iff.mp hw
    obtain ⟨d', hd', hs⟩ := zG.nb_sym v hp.1 hn
    have := hr f hl.1 d' e hd' hs
    exact ⟨hl.1, by omega⟩
def zLs (a : zG) (m : zM) (L : Nat → Nat) : Prop := (∀ c, c < a.n → m.1 20 59 c = Int32.ofNat (L c)) ∧ (∀ c, c < a.n → L c ≤ 1000000) ∧ (∀ c, c < a.n → a.lv c ≤ L c) ∧ ∀ c, c < a.n → a.ou c = true → L c ≤ a.ht c
section
variable {a : zG}
theorem s_lev_60 (v : zGV a) (K1 : Int32 → zM → Option zM) (K : Int32 → Int32 → zM → Option zM) {c : Nat} (hc : c < a.n) : ∀ (j d : Nat) (x : Int32) (m : zM) (L : Nat → Nat), d ≤ 4 → 4 - d < j → zMR (m.1 23 0) a → zLs a m L →
    ∃ x' m' L', f_X12_levels_60 K1 K j x (Int32.ofNat c) (Int32.ofNat d) m = K x' (Int32.ofNat (c + 1)) m' ∧ zFr zP59 m m' ∧ zLs a m' L' ∧ (∀ e, e < a.n → L' e ≤ L e) ∧ ((x' = x ∧ L' = L ∧ ∀ d' e, d ≤ d' → d' < 4 → a.nb c d' = some e → L c ≤ max (a.ht c) (L e)) ∨ (x' = 1 ∧ z_tot L' a.n < z_tot L a.n))
  | 0, _, _, _, _, _, h, _, _ => absurd h (Nat.not_lt_zero _)
  | j + 1, d, x, m, L, hd, h, r, hL => by
    have n64 := v.n64
    have e1 : (1 : Int32) = Int32.ofNat 1 := rfl
    unfold f_X12_levels_60
    rw [show (4 : Int32) = Int32.ofNat 4 from rfl]
    by_cases he : d = 4
    · rw [if_pos (by rw [zi_le (by omega) (by omega)]; omega), show Int32.ofNat c + 1 = Int32.ofNat (c + 1) from zi_add c 1]
      exact ⟨x, m, L, rfl, zFr.refl m, hL, fun _ _ => Nat.le_refl _, .inl ⟨rfl, rfl, fun d' e q1 q2 => by omega⟩⟩
    · rw [if_neg (by rw [zi_le (by omega) (by omega)]; omega), s_next v r hc (by omega), Option.bind_some, show Int32.ofNat d + 1 = Int32.ofNat (d + 1) from zi_add d 1]
      cases hn : a.nb c d with
      | none =>
        rw [if_pos (show zo none < 0 by decide)]
        obtain ⟨x', m', L', q1, q2, q3, q4, q5⟩ := s_lev_60 v K1 K hc j (d + 1) x m L (by omega) (by omega) r hL
        refine ⟨x', m', L', q1, q2, q3, q4, ?_⟩
        rcases q5 with ⟨p1, p2, p3⟩ | p
        · refine .inl ⟨p1, p2, fun d' e w1 w2 w3 => ?_⟩
          by_cases hd' : d' = d
          · rw [hd', hn] at w3
            cases w3
          · exact p3 d' e (by omega) w2 w3
        · exact .inr p
      | some e =>
        have hen := zG.nb_n v hc hn
        have hht := v.ht c
        have b1 := hL.2.1 c hc
        have b2 := hL.2.1 e hen
        have g1 : z_inb (Int32.ofNat e) (z_alen 20) = true := by rw [zi_inb (by omega)]; simp [z_alen]; omega
        have g2 : z_inb (Int32.ofNat c) (z_alen 20) = true := by rw [zi_inb (by omega)]; simp [z_alen]; omega
        have hmx : max (a.ht c) (L e) ≤ 1000000 := by omega
        rw [show zo (some e) = Int32.ofNat e from rfl, if_neg (zi_nn (k := e) (by omega)), s_mheight r (by omega), Option.bind_some, z_gdt g1, zi_nat (by omega), hL.1 e hen, z_max (by omega) (by omega), Option.bind_some, z_gdt g2, zi_nat (by omega), hL.1 c hc]
        by_cases hq : max (a.ht c) (L e) < L c
        · rw [if_pos (by rw [zi_lt (by omega) (by omega)]; exact hq), Option.bind_some, z_gdt g1, z_max (x := a.ht c) (y := L e) (by omega) (by omega), Option.bind_some, z_gdt g2]
          have hL' : zLs a (z_sI m 20 59 c (Int32.ofNat (max (a.ht c) (L e)))) (fun f => if f = c then max (a.ht c) (L e) else L f) := by
            refine ⟨fun f hf => ?_, fun f hf => ?_, fun f hf => ?_, fun f hf ho => ?_⟩
            · rw [zm_I]
              by_cases hfc : f = c
              · rw [if_pos ⟨rfl, rfl, hfc⟩]
                simp only [hfc, if_true]
              · rw [if_neg (c := 20 = 20 ∧ 59 = 59 ∧ f = c) (fun q => hfc q.2.2)]
                simp only [hfc, if_false]
                exact hL.1 f hf
            · by_cases hfc : f = c
              · simp only [hfc, if_true]; omega
              · simp only [hfc, if_false]; exact hL.2.1 f hf
            · by_cases hfc : f = c
              · simp only [hfc, if_true]
                have h1 := zG.lv_step v hc hn
                have h2 := hL.2.2.1 e hen
                omega
              · simp only [hfc, if_false]; exact hL.2.2.1 f hf
            · by_cases hfc : f = c
              · simp only [hfc, if_true]
                have := hL.2.2.2 c hc (hfc ▸ ho)
                omega
              · simp only [hfc, if_false]; exact hL.2.2.2 f hf ho
          have f1 : zFr zP59 m (z_sI m 20 59 c (Int32.ofNat (max (a.ht c) (L e)))) := zFr.sI (zFr.refl m) _ ⟨rfl, rfl⟩
          have r' : zMR ((z_sI m 20 59 c (Int32.ofNat (max (a.ht c) (L e)))).1 23 0) a := by rw [f1.row (fun j => by unfold zP59; omega)]; exact r
          have hle : ∀ f, f < a.n → (fun f => if f = c then max (a.ht c) (L e) else L f) f ≤ L f := fun f hf => by
            by_cases hfc : f = c
            · simp only [hfc, if_true]; omega
            · simp only [hfc, if_false]; exact Nat.le_refl _
          obtain ⟨x', m', L', q1, q2, q3, q4, q5⟩ := s_lev_60 v K1 K hc j (d + 1) 1 _ _ (by omega) (by omega) r' hL'
          have hlt := z_tot_lt (L' := fun f => if f = c then max (a.ht c) (L e) else L f) hle hc (by simp only [if_true]; exact hq)
          refine ⟨x', m', L', q1, f1.trans q2, q3, fun f hf => Nat.le_trans (q4 f hf) (hle f hf), .inr ⟨?_, ?_⟩⟩
          · rcases q5 with ⟨p1, _⟩ | ⟨p1, _⟩ <;> exact p1
          · exact Nat.lt_of_le_of_lt (z_tot_le q4) hlt
        · rw [if_neg (by rw [zi_lt (by omega) (by omega)]; exact hq)]
          obtain ⟨x', m', L', q1, q2, q3, q4, q5⟩ := s_lev_60 v K1 K hc j (d + 1) x m L (by omega) (by omega) r hL
          refine ⟨x', m', L', q1, q2, q3, q4, ?_⟩
          rcases q5 with ⟨p1, p2, p3⟩ | p
          · refine .inl ⟨p1, p2, fun d' f w1 w2 w3 => ?_⟩
            by_cases hd' : d' = d
            · rw [hd', hn] at w3
              cases w3
              omega
            · exact p3 d' f (by omega) w2 w3
          · exact .inr p
theorem s_lev_50 (v : zGV a) (K : Int32 → zM → Option zM) : ∀ (j c : Nat) (x : Int32) (m : zM) (L : Nat → Nat), c ≤ a.n → a.n - c < j → zMR (m.1 23 0) a → zLs a m L →
    ∃ x' m' L', f_X12_levels_50 K j x (Int32.ofNat c) m = K x' m' ∧ zFr zP59 m m' ∧ zLs a m' L' ∧ (∀ e, e < a.n → L' e ≤ L e) ∧ ((x' = x ∧ L' = L ∧ ∀ c', c ≤ c' → c' < a.n → ∀ d' e, d' < 4 → a.nb c' d' = some e → L c' ≤ max (a.ht c') (L e)) ∨ (x' = 1 ∧ z_tot L' a.n < z_tot L a.n))
  | 0, _, _, _, _, _, h, _, _ => absurd h (Nat.not_lt_zero _)
  | j + 1, c, x, m, L, hc, h, r, hL => by
    have n64 := v.n64
    unfold f_X12_levels_50
    rw [s_mcells r, Option.bind_some]
    by_cases he : c = a.n
    · rw [if_pos (by rw [zi_le (by omega) (by omega)]; omega)]
      exact ⟨x, m, L, rfl, zFr.refl m, hL, fun _ _ => Nat.le_refl _, .inl ⟨rfl, rfl, fun c' q1 q2 => by omega⟩⟩
    · rw [if_neg (by rw [zi_le (by omega) (by omega)]; omega)]
      obtain ⟨x1, m1, L1, q1, q2, q3, q4, q5⟩ := s_lev_60 v K (f_X12_levels_50 K j) (show c < a.n by omega) zF 0 x m L (by omega) (Nat.lt_of_lt_of_le (by omega : 4 - 0 < 5) (zF_ge (by decide))) r hL
      rw [show (0 : Int32) = Int32.ofNat 0 from rfl, q1]
      have r1 : zMR (m1.1 23 0) a := by rw [q2.row (fun j => by unfold zP59; omega)]; exact r
      obtain ⟨x2, m2, L2, p1, p2, p3, p4, p5⟩ := s_lev_50 v K j (c + 1) x1 m1 L1 (by omega) (by omega) r1 q3
      refine ⟨x2, m2, L2, p1, q2.trans p2, p3, fun f hf => Nat.le_trans (p4 f hf) (q4 f hf), ?_⟩
      rcases q5 with ⟨u1, u2, u3⟩ | ⟨u1, u2⟩
      · subst u2
        rcases p5 with ⟨w1, w2, w3⟩ | w
        · refine .inl ⟨w1.trans u1, w2, fun c' y1 y2 d' e y3 y4 => ?_⟩
          by_cases hcc : c' = c
          · subst hcc
            exact u3 d' e (Nat.zero_le _) y3 y4
          · exact w3 c' (by omega) y2 d' e y3 y4
        · exact .inr w
      · refine .inr ⟨?_, Nat.lt_of_le_of_lt (z_tot_le p4) u2⟩
        rcases p5 with ⟨w1, _⟩ | ⟨w1, _⟩
        · exact w1.trans u1
        · exact w1
theorem s_lev_42 (v : zGV a) : ∀ (j : Nat) (m : zM) (L : Nat → Nat), z_tot L a.n + 1 < j → zMR (m.1 23 0) a → zLs a m L →
    ∃ m', f_X12_levels_42 j 1 m = some m' ∧ zFr zP59 m m' ∧ ∀ c, c < a.n → m'.1 20 59 c = Int32.ofNat (a.lv c)
  | 0, _, _, h, _, _ => absurd h (Nat.not_lt_zero _)
  | j + 1, m, L, h, r, hL => by
    have n64 := v.n64
    unfold f_X12_levels_42
    rw [if_neg (by decide)]
    obtain ⟨x1, m1, L1, q1, q2, q3, q4, q5⟩ := s_lev_50 v (f_X12_levels_42 j) zF 0 0 m L (Nat.zero_le _) (Nat.lt_of_lt_of_le (by omega : a.n - 0 < 65) (zF_ge (by decide))) r hL
    rw [show Int32.ofNat 0 = (0 : Int32) from rfl] at q1
    rw [q1]
    rcases q5 with ⟨u1, u2, u3⟩ | ⟨u1, u2⟩
    · subst u1 u2
      obtain ⟨j', rfl⟩ : ∃ j', j = j' + 1 := ⟨j - 1, by omega⟩
      unfold f_X12_levels_42
      rw [if_pos rfl]
      refine ⟨m1, rfl, q2, fun c hc => ?_⟩
      rw [q3.1 c hc, Nat.le_antisymm (zG.lv_le v q3.2.2.2 (fun c' hc' d e hd hn => u3 c' (Nat.zero_le _) hc' d e hd hn) hc) (q3.2.2.1 c hc)]
    · subst u1
      have r1 : zMR (m1.1 23 0) a := by rw [q2.row (fun j => by unfold zP59; omega)]; exact r
      obtain ⟨m2, p1, p2, p3⟩ := s_lev_42 v j m1 L1 (by omega) r1 q3
      exact ⟨m2, p1, q2.trans p2, p3⟩
theorem s_lev_2 (v : zGV a) : ∀ (j c : Nat) (m : zM), c ≤ a.n → a.n - c < j → zMR (m.1 23 0) a → (∀ d, d < c → m.1 20 59 d = Int32.ofNat (if a.ou d = true then a.ht d else 1000000)) →
    ∃ m', f_X12_levels_2 j (Int32.ofNat c) m = some m' ∧ zFr zP59 m m' ∧ ∀ c, c < a.n → m'.1 20 59 c = Int32.ofNat (a.lv c)
  | 0, _, _, _, h, _, _ => absurd h (Nat.not_lt_zero _)
  | j + 1, c, m, hc, h, r, hm => by
    have n64 := v.n64
    unfold f_X12_levels_2
    rw [s_mcells r, Option.bind_some]
    by_cases he : c = a.n
    · rw [if_pos (by rw [zi_le (by omega) (by omega)]; omega)]
      subst he
      have hb : ∀ c, c < a.n → (if a.ou c = true then a.ht c else 1000000) ≤ 1000000 := fun c _ => by
        have := v.ht c
        split <;> omega
      refine s_lev_42 v zF m (fun d => if a.ou d = true then a.ht d else 1000000) ?_ r ⟨hm, hb, fun c hc => ?_, fun c hc ho => ?_⟩
      · have h1 := z_tot_b hb
        have h2 : a.n * 1000000 ≤ 64 * 1000000 := Nat.mul_le_mul n64 (Nat.le_refl _)
        exact Nat.lt_of_lt_of_le (by omega : _ < 64000003) (zF_ge (by decide))
      · have h1 := zG.lv99 v hc
        show a.lv c ≤ if a.ou c = true then a.ht c else 1000000
        by_cases ho : a.ou c = true
        · rw [if_pos ho, ← zG.lv_iff (by have := v.ht c; omega)]
          exact zRch.base ho (zG.lo_iff.mpr ⟨hc, Nat.le_refl _⟩)
        · rw [if_neg ho]
          omega
      · show (if a.ou c = true then a.ht c else 1000000) ≤ a.ht c
        rw [if_pos ho]
        exact Nat.le_refl _
    · have hc' : c < 64 := by omega
      have g2 : z_inb (Int32.ofNat c) (z_alen 20) = true := by rw [zi_inb (by omega)]; simp [z_alen]; omega
      have nx : ∀ u : Nat, u = (if a.ou c = true then a.ht c else 1000000) → ∃ m', f_X12_levels_33 (f_X12_levels_2 j) (Int32.ofNat c) (Int32.ofNat c) (Int32.ofNat u) m = some m' ∧ zFr zP59 m m' ∧ ∀ c, c < a.n → m'.1 20 59 c = Int32.ofNat (a.lv c) := fun u hu => by
        unfold f_X12_levels_33
        rw [z_gdt g2, show Int32.ofNat c + 1 = Int32.ofNat (c + 1) from zi_add c 1, zi_nat (by omega)]
        have f1 : zFr zP59 m (z_sI m 20 59 c (Int32.ofNat u)) := zFr.sI (zFr.refl m) _ ⟨rfl, rfl⟩
        obtain ⟨m', p1, p2, p3⟩ := s_lev_2 v j (c + 1) (z_sI m 20 59 c (Int32.ofNat u)) (by omega) (by omega) (by rw [f1.row (fun j => by unfold zP59; omega)]; exact r) fun d hd => by
          rw [zm_I]
          by_cases hdc : d = c
          · rw [if_pos ⟨rfl, rfl, hdc⟩, hu, hdc]
          · rw [if_neg (c := 20 = 20 ∧ 59 = 59 ∧ d = c) (fun q => hdc q.2.2)]
            exact hm d (by omega)
        exact ⟨m', p1, f1.trans p2, p3⟩
      rw [if_neg (by rw [zi_le (by omega) (by omega)]; omega), s_mout r hc', Option.bind_some]
      by_cases ho : a.ou c = true
      · rw [ho, if_neg (by decide), s_mheight r hc', Option.bind_some]
        exact nx (a.ht c) (by rw [if_pos ho])
      · have : a.ou c = false := by cases q : a.ou c <;> simp_all
        rw [this, if_pos (by decide)]
        exact nx 1000000 (by rw [if_neg ho])
theorem s_mlevels (v : zGV a) {m : zM} (r : zMR (m.1 23 0) a) : ∃ m', f_X12_levels m = some m' ∧ zFr zP59 m m' ∧ ∀ c, c < a.n → m'.1 20 59 c = Int32.ofNat (a.lv c) :=
  s_lev_2 v zF 0 m (Nat.zero_le _) (Nat.lt_of_lt_of_le (by have := v.n64; omega : a.n - 0 < 65) (zF_ge (by decide))) r (fun d hd => absurd hd (Nat.not_lt_zero _))
end
