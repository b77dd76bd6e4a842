/-! Sloping and flat cells. -/
noncomputable def zG.la (a : zG) (c : Nat) : Nat → Nat
  | 0 => 99
  | k + 1 => match a.nb c k with
    | some e => min (a.la c k) (a.lv e)
    | none => a.la c k
noncomputable def zG.slo (a : zG) (c : Nat) : Bool := decide (a.la c 4 < a.lv c)
noncomputable def zG.fla (a : zG) (c : Nat) : Bool := decide (c < a.n) && !(a.slo c) && !(a.ou c)
section
variable {a : zG} {g : Nat}
theorem zG.la_99 (c : Nat) : ∀ k, a.la c k ≤ 99
  | 0 => Nat.le_refl _
  | k + 1 => by
    have := zG.la_99 c k
    unfold zG.la
    split <;> omega
theorem zG.la_lt {c t : Nat} (ht : t ≤ 99) : ∀ k, a.la c k < t ↔ ∃ d e, d < k ∧ a.nb c d = some e ∧ a.lv e < t
  | 0 => by
    constructor
    · intro h
      have : (99 : Nat) < t := h
      omega
    · rintro ⟨d, e, h, _⟩
      omega
  | k + 1 => by
    have ih := zG.la_lt (c := c) ht k
    unfold zG.la
    cases hn : a.nb c k with
    | none =>
      show a.la c k < t ↔ _
      rw [ih]
      constructor
      · rintro ⟨d, e, h1, h2, h3⟩
        exact ⟨d, e, by omega, h2, h3⟩
      · rintro ⟨d, e, h1, h2, h3⟩
        refine ⟨d, e, ?_, h2, h3⟩
        by_cases q : d = k
        · rw [q, hn] at h2
          cases h2
        · omega
    | some e0 =>
      show min (a.la c k) (a.lv e0) < t ↔ _
      constructor
      · intro h
        by_cases q : a.la c k < t
        · obtain ⟨d, e, h1, h2, h3⟩ := ih.mp q
          exact ⟨d, e, by omega, h2, h3⟩
        · exact ⟨k, e0, by omega, hn, by omega⟩
      · rintro ⟨d, e, h1, h2, h3⟩
        by_cases q : d = k
        · rw [q, hn] at h2
          cases h2
          omega
        · have := ih.mpr ⟨d, e, by omega, h2, h3⟩
          omega
theorem zG.slo_iff (v : zGV a) {c : Nat} (h : c < a.n) : a.slo c = true ↔ ∃ d e, d < 4 ∧ a.nb c d = some e ∧ a.lv e < a.lv c := by
  unfold zG.slo
  rw [decide_eq_true_eq]
  exact zG.la_lt (zG.lv99 v h) 4
theorem s_la_6 (v : zGV a) {m : zM} (r : zGR m g a) (hl : ∀ d, d < a.n → m.1 20 33 d = Int32.ofNat (a.lv d)) {c : Nat} (hc : c < a.n) : ∀ (j d : Nat), d ≤ 4 → 4 - d < j → f_X3_leastLevelAround_6 g m j (Int32.ofNat c) (Int32.ofNat (a.la c d)) (Int32.ofNat d) = some (Int32.ofNat (a.la c 4))
  | 0, _, _, h => absurd h (Nat.not_lt_zero _)
  | j + 1, d, hd, h => by
    have n64 := v.n64
    have h99 := zG.la_99 (a := a) c d
    unfold f_X3_leastLevelAround_6
    rw [show (4 : Int32) = Int32.ofNat 4 from rfl]
    by_cases he : d = 4
    · rw [if_pos (by rw [zi_le (by omega) (by omega)]; omega), he]
    · have ih := s_la_6 v r hl hc j (d + 1) (by omega) (by omega)
      rw [if_neg (by rw [zi_le (by omega) (by omega)]; omega), s_nb v r hc (by omega), Option.bind_some, show Int32.ofNat d + 1 = Int32.ofNat (d + 1) from zi_add d 1]
      unfold zG.la at ih
      cases hn : a.nb c d with
      | none =>
        rw [hn] at ih
        rw [if_pos (show zo none = -1 from rfl)]
        exact ih
      | some e =>
        have hen := zG.nb_n v hc hn
        have h2 := zG.lv99 v hen
        rw [hn] at ih
        rw [show zo (some e) = Int32.ofNat e from rfl, if_neg (zi_m1 (by omega)), s_at' 20 33 (show e < 64 by omega), Option.bind_some, hl e hen, z_min (by omega) (by omega), Option.bind_some]
        exact ih
theorem s_la (v : zGV a) {m : zM} (r : zGR m g a) (hl : ∀ d, d < a.n → m.1 20 33 d = Int32.ofNat (a.lv d)) {c : Nat} (hc : c < a.n) : f_X3_leastLevelAround g (Int32.ofNat c) m = some (Int32.ofNat (a.la c 4)) :=
  s_la_6 v r hl hc zF 0 (Nat.zero_le _) (Nat.lt_of_lt_of_le (by omega : 4 - 0 < 5) (zF_ge (by decide)))
theorem s_outlet (v : zGV a) {m : zM} (r : zGR m g a) {c : Nat} (hc : c < a.n) : f_X4_isOutlet g (Int32.ofNat c) m = some (a.ou c) := by
  have n64 := v.n64
  unfold f_X4_isOutlet
  rw [s_has _ (show c < 64 by omega), Option.bind_some, r.ou c (by omega)]
abbrev zPfl (k i j : Nat) : Prop := k = 5 ∧ i = 0 ∧ j = 1
theorem s_flat_7 (v : zGV a) (hg : g < 11) : ∀ (j c : Nat) (m : zM), c ≤ a.n → a.n - c < j → zGR m g a → m.1 5 0 0 = Int32.ofNat a.n → (∀ d, d < a.n → m.1 20 33 d = Int32.ofNat (a.lv d)) → (∀ d, d < 64 → zb (m.2.1 5 0 1) d = (decide (d < c) && a.fla d)) →
    ∃ m', f_X3_findFlat_7 g j (Int32.ofNat c) m = some m' ∧ zFr zPfl m m' ∧ ∀ d, d < 64 → zb (m'.2.1 5 0 1) d = a.fla d
  | 0, _, _, _, h, _, _, _, _ => absurd h (Nat.not_lt_zero _)
  | j + 1, c, m, hc, h, r, hs, hl, hf => by
    have n64 := v.n64
    unfold f_X3_findFlat_7
    rw [hs]
    by_cases he : c = a.n
    · rw [if_pos (by rw [zi_le (by omega) (by omega)]; omega)]
      refine ⟨m, rfl, zFr.refl m, fun d hd => ?_⟩
      rw [hf d hd, he]
      by_cases q : d < a.n
      · simp [q]
      · simp [zG.fla, q]
    · have hcn : c < a.n := by omega
      have hc' : c < 64 := by omega
      have h1 := zG.lv99 v hcn
      have h2 := zG.la_99 (a := a) c 4
      rw [if_neg (by rw [zi_le (by omega) (by omega)]; omega), s_la v r hl hcn, Option.bind_some, s_at' 20 33 hc', Option.bind_some, hl c hcn]
      have skip : a.fla c = false → ∃ m', f_X3_findFlat_7 g j (Int32.ofNat (c + 1)) m = some m' ∧ zFr zPfl m m' ∧ ∀ d, d < 64 → zb (m'.2.1 5 0 1) d = a.fla d := fun q =>
        s_flat_7 v hg j (c + 1) m (by omega) (by omega) r hs hl fun d hd => by
          rw [hf d hd]
          by_cases hdc : d = c
          · subst hdc
            simp [q]
          · have : d < c + 1 ↔ d < c := by omega
            simp [this]
      unfold f_X3_findFlat_37
      rw [show Int32.ofNat c + 1 = Int32.ofNat (c + 1) from zi_add c 1]
      by_cases hq : a.la c 4 < a.lv c
      · rw [if_neg (by rw [zi_le (by omega) (by omega)]; omega), if_neg (by decide)]
        exact skip (by unfold zG.fla zG.slo; simp [hq])
      · rw [if_pos (by rw [zi_le (by omega) (by omega)]; omega), if_pos rfl, s_outlet v r hcn, Option.bind_some]
        by_cases ho : a.ou c = true
        · rw [ho, if_neg (by decide)]
          exact skip (by unfold zG.fla; simp [ho])
        · have ho' : a.ou c = false := by cases q : a.ou c <;> simp_all
          rw [ho', if_pos (by decide)]
          have f1 : zFr zPfl m (z_sL m 5 0 1 (m.2.1 5 0 1 ||| z_shl 1 (Int32.ofNat c))) := zFr.sL (zFr.refl m) _ ⟨rfl, rfl, rfl⟩
          obtain ⟨m', p1, p2, p3⟩ := s_flat_7 v hg j (c + 1) _ (by omega) (by omega) (r.keep f1 fun k i j w => by unfold zGp at w; unfold zPfl; omega) hs hl fun d hd => by
            rw [zm_L, if_pos ⟨rfl, rfl, rfl⟩, zb_or, hf d hd, zb_one hc' hd]
            by_cases hdc : d = c
            · subst hdc
              simp [zG.fla, zG.slo, hq, ho', hcn]
            · have : d < c + 1 ↔ d < c := by omega
              simp [hdc, this]
          exact ⟨m', p1, f1.trans p2, p3⟩
theorem s_flat (v : zGV a) (hg : g < 11) {m : zM} (r : zGR m g a) (hs : m.1 5 0 0 = Int32.ofNat a.n) (hl : ∀ d, d < a.n → m.1 20 33 d = Int32.ofNat (a.lv d)) : ∃ m', f_X3_findFlat g m = some m' ∧ zFr zPfl m m' ∧ ∀ d, d < 64 → zb (m'.2.1 5 0 1) d = a.fla d := by
  unfold f_X3_findFlat
  have f1 : zFr zPfl m (z_sL m 5 0 1 0) := zFr.sL (zFr.refl m) _ ⟨rfl, rfl, rfl⟩
  obtain ⟨m', p1, p2, p3⟩ := s_flat_7 v hg zF 0 (z_sL m 5 0 1 0) (Nat.zero_le _) (Nat.lt_of_lt_of_le (by have := v.n64; omega : a.n - 0 < 65) (zF_ge (by decide))) (r.keep f1 fun k i j w => by unfold zGp at w; unfold zPfl; omega) hs hl fun d _ => by
    rw [zm_L, if_pos ⟨rfl, rfl, rfl⟩, zb_0]
    simp
  exact ⟨m', p1, f1.trans p2, p3⟩
/-- the reference's -/
theorem s_slo_12 (v : zGV a) {m : zM} (r : zMR (m.1 23 0) a) (hl : ∀ d, d < a.n → m.1 20 59 d = Int32.ofNat (a.lv d)) {c : Nat} (hc : c < a.n) : ∀ (j d : Nat), d ≤ 4 → 4 - d < j → (∀ d' e, d' < d → a.nb c d' = some e → a.lv c ≤ a.lv e) → f_X12_isSloping_12 m j (Int32.ofNat c) (Int32.ofNat d) = some (a.slo c)
  | 0, _, _, h, _ => absurd h (Nat.not_lt_zero _)
  | j + 1, d, hd, h, hp => by
    have n64 := v.n64
    have h1 := zG.lv99 v hc
    unfold f_X12_isSloping_12
    rw [show (4 : Int32) = Int32.ofNat 4 from rfl]
    by_cases he : d = 4
    · rw [if_pos (by rw [zi_le (by omega) (by omega)]; omega)]
      have : a.slo c = false := by
        cases q : a.slo c with
        | false => rfl
        | true =>
          obtain ⟨d', e, w1, w2, w3⟩ := (zG.slo_iff v hc).mp q
          have := hp d' e (by omega) w2
          omega
      rw [this]
    · rw [if_neg (by rw [zi_le (by omega) (by omega)]; omega), s_next v r hc (by omega), Option.bind_some, Option.bind_some, show Int32.ofNat d + 1 = Int32.ofNat (d + 1) from zi_add d 1]
      cases hn : a.nb c d with
      | none =>
        rw [if_pos (show zo none < 0 by decide)]
        exact s_slo_12 v r hl hc j (d + 1) (by omega) (by omega) fun d' e w1 w2 => by
          by_cases q : d' = d
          · rw [q, hn] at w2
            cases w2
          · exact hp d' e (by omega) w2
      | some e =>
        have hen := zG.nb_n v hc hn
        have h2 := zG.lv99 v hen
        have g1 : z_inb (Int32.ofNat e) (z_alen 20) = true := by rw [zi_inb (by omega)]; simp [z_alen]; omega
        have g2 : z_inb (Int32.ofNat c) (z_alen 20) = true := by rw [zi_inb (by omega)]; simp [z_alen]; omega
        rw [show zo (some e) = Int32.ofNat e from rfl, if_neg (zi_nn (k := e) (by omega)), z_gdt g1, z_gdt g2, zi_nat (by omega), zi_nat (by omega), hl e hen, hl c hc]
        by_cases q : a.lv c ≤ a.lv e
        · rw [if_pos (by rw [zi_le (by omega) (by omega)]; exact q)]
          exact s_slo_12 v r hl hc j (d + 1) (by omega) (by omega) fun d' f w1 w2 => by
            by_cases y : d' = d
            · rw [y, hn] at w2
              cases w2
              exact q
            · exact hp d' f (by omega) w2
        · rw [if_neg (by rw [zi_le (by omega) (by omega)]; exact q)]
          rw [(zG.slo_iff v hc).mpr ⟨d, e, by omega, hn, by omega⟩]
theorem s_slo (v : zGV a) {m : zM} (r : zMR (m.1 23 0) a) (hl : ∀ d, d < a.n → m.1 20 59 d = Int32.ofNat (a.lv d)) {c : Nat} (hc : c < a.n) : f_X12_isSloping (Int32.ofNat c) m = some (a.slo c && !(a.ou c)) := by
  have n64 := v.n64
  unfold f_X12_isSloping
  rw [s_mout r (by omega), Option.bind_some]
  by_cases ho : a.ou c = true
  · rw [ho, if_neg (by decide)]
    simp
  · have ho' : a.ou c = false := by cases q : a.ou c <;> simp_all
    rw [ho', if_pos (by decide), show (0 : Int32) = Int32.ofNat 0 from rfl, s_slo_12 v r hl hc zF 0 (Nat.zero_le _) (Nat.lt_of_lt_of_le (by omega : 4 - 0 < 5) (zF_ge (by decide))) fun d' e w => by omega]
    simp
end
