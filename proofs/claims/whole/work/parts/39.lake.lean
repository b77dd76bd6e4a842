/-! Lakes: wet cells of one level that are joined; each is known by its least cell. -/
noncomputable def zG.wet (a : zG) (d : Nat) : Bool := decide (d < a.n ∧ a.ht d < a.lv d)
theorem zG.wet_iff {a : zG} {d : Nat} : a.wet d = true ↔ d < a.n ∧ a.ht d < a.lv d := by
  unfold zG.wet
  rw [decide_eq_true_eq]
noncomputable def zG.wl (a : zG) (t d : Nat) : Bool := a.wet d && decide (a.lv d = t)
theorem zG.wl_iff {a : zG} {t d : Nat} : a.wl t d = true ↔ a.wet d = true ∧ a.lv d = t := by
  unfold zG.wl
  rw [Bool.and_eq_true, decide_eq_true_eq]
def z_one (c d : Nat) : Bool := decide (d = c)
theorem z_one_iff {c d : Nat} : z_one c d = true ↔ d = c := by
  unfold z_one
  rw [decide_eq_true_eq]
def zG.com (a : zG) (c d : Nat) : Prop := zRch a (a.wl (a.lv c)) (z_one c) d
theorem zRch.trans {a : zG} {W : Nat → Bool} {c d e : Nat} (h1 : zRch a W (z_one c) d) (h2 : zRch a W (z_one d) e) : zRch a W (z_one c) e :=
  h2.mono (fun _ h => h) fun f hf _ => by rw [z_one_iff.mp hf]; exact h1
theorem zRch.sym {a : zG} (v : zGV a) {W : Nat → Bool} (hW : ∀ c, W c = true → c < a.n) {c d : Nat} (h : zRch a W (z_one c) d) : zRch a W (z_one d) c := by
  refine (h (fun d => W d = true ∧ zRch a W (z_one d) c) ?_ ?_).2
  · intro e he hw
    rw [z_one_iff] at he
    subst he
    exact ⟨hw, zRch.base (z_one_iff.mpr rfl) hw⟩
  · intro e k f hp hn hw
    obtain ⟨k', _, hs⟩ := zG.nb_sym v (hW e hp.1) hn
    refine ⟨hw, ?_⟩
    have : zRch a W (z_one f) e := (zRch.base (S := z_one f) (z_one_iff.mpr rfl) hw).step hs hp.1
    exact this.trans hp.2
section
variable {a : zG}
theorem zG.wl_n {t d : Nat} (h : a.wl t d = true) : d < a.n := (zG.wet_iff.mp (zG.wl_iff.mp h).1).1
theorem zG.com_refl {c : Nat} (h : a.wet c = true) : a.com c c := zRch.base (z_one_iff.mpr rfl) (zG.wl_iff.mpr ⟨h, rfl⟩)
theorem zG.com_in {c d : Nat} (h : a.com c d) : a.wet d = true ∧ a.lv d = a.lv c := zG.wl_iff.mp (zRch.inW h)
theorem zG.com_sym (v : zGV a) {c d : Nat} (h : a.com c d) : a.com d c := by
  have := zRch.sym v (fun c => zG.wl_n) h
  unfold zG.com
  rw [(zG.com_in h).2]
  exact this
theorem zG.com_trans {c d e : Nat} (h1 : a.com c d) (h2 : a.com d e) : a.com c e := by
  unfold zG.com at h2
  rw [(zG.com_in h1).2] at h2
  exact zRch.trans h1 h2
/-- the least cell of a cell's lake -/
noncomputable def zG.fi (a : zG) (d : Nat) : Nat := z_cnt (fun e => @decide (∀ f, f ≤ e → ¬ a.com d f) (Classical.propDecidable _)) 64
theorem zG.fi_le (v : zGV a) {d e : Nat} (h : a.com d e) : a.fi d ≤ e := by
  have hn := v.n64
  have he := (zG.wet_iff.mp (zG.com_in h).1).1
  have := z_cnt_down (p := fun e => @decide (∀ f, f ≤ e → ¬ a.com d f) (Classical.propDecidable _)) (n := 64) (fun t q => z_dec.mpr fun f hf => z_dec.mp q f (by omega)) e (by omega)
  refine Nat.not_lt.mp fun w => ?_
  exact z_dec.mp (this.mpr w) e (Nat.le_refl _) h
theorem zG.fi_com (v : zGV a) {d : Nat} (h : a.wet d = true) : a.com d (a.fi d) := by
  have hn := v.n64
  have hd := (zG.wet_iff.mp h).1
  have h1 := zG.fi_le v (zG.com_refl h)
  refine Classical.byContradiction fun hno => ?_
  have key : ∀ e, e < 64 → ((∀ f, f ≤ e → ¬ a.com d f) ↔ e < a.fi d) := fun e he => z_dec.symm.trans (z_cnt_down (p := fun e => @decide (∀ f, f ≤ e → ¬ a.com d f) (Classical.propDecidable _)) (n := 64) (fun t q => z_dec.mpr fun f hf => z_dec.mp q f (by omega)) e he)
  have h2 := (key (a.fi d) (by omega)).mp fun f hf hc => by
    have h3 := zG.fi_le v hc
    have : f = a.fi d := by omega
    exact hno (this ▸ hc)
  omega
theorem zG.fi_eq (v : zGV a) {c d : Nat} (h : a.com c d) : a.fi d = a.fi c := by
  have h1 := zG.fi_le v (zG.com_trans h (zG.fi_com v (zG.com_in h).1))
  have hc : a.wet c = true := (zG.com_in (zG.com_sym v h)).1
  have h2 := zG.fi_le v (zG.com_trans (zG.com_sym v h) (zG.fi_com v hc))
  omega
/-- the first cells of lakes, and their numbers -/
noncomputable def zG.mnb (a : zG) (c : Nat) : Bool := a.wet c && decide (a.fi c = c)
noncomputable def zG.num (a : zG) (c : Nat) : Nat := z_cnt a.mnb c
noncomputable def zG.lk (a : zG) (d : Nat) : Nat := a.num (a.fi d)
theorem zG.mnb_fi (v : zGV a) {d : Nat} (h : a.wet d = true) : a.mnb (a.fi d) = true := by
  have h1 := zG.fi_com v h
  unfold zG.mnb
  rw [(zG.com_in h1).1, zG.fi_eq v h1]
  simp
theorem zG.num_succ (c : Nat) : a.num (c + 1) = a.num c + (if a.mnb c = true then 1 else 0) := rfl
/-- wetAtLevel -/
theorem s_wetAt_5 (v : zGV a) {t : Nat} (ht : t ≤ 99) {m : zM} (hw : ∀ d, d < 64 → zb (m.2.1 4 0 5) d = a.wet d) (hl : ∀ d, d < a.n → m.1 20 33 d = Int32.ofNat (a.lv d)) : ∀ (j c : Nat) (x : Int64), c ≤ 64 → 64 - c < j → (∀ d, d < 64 → zb x d = (decide (d < c) && a.wl t d)) →
    ∃ S, f_X2_wetAtLevel_5 m j (Int32.ofNat t) x (Int32.ofNat c) = some S ∧ ∀ d, d < 64 → zb S d = a.wl t d
  | 0, _, _, _, h, _ => absurd h (Nat.not_lt_zero _)
  | j + 1, c, x, hc, h, hx => by
    unfold f_X2_wetAtLevel_5
    rw [show (64 : Int32) = Int32.ofNat 64 from rfl]
    by_cases he : c = 64
    · rw [if_pos (by rw [zi_le (by omega) (by omega)]; omega)]
      refine ⟨x, rfl, fun d hd => ?_⟩
      rw [hx d hd, he]
      simp [hd]
    · have hc' : c < 64 := by omega
      rw [if_neg (by rw [zi_le (by omega) (by omega)]; omega), s_has _ hc', Option.bind_some, hw c hc', show Int32.ofNat c + 1 = Int32.ofNat (c + 1) from zi_add c 1]
      have skip : a.wl t c = false → ∃ S, f_X2_wetAtLevel_5 m j (Int32.ofNat t) x (Int32.ofNat (c + 1)) = some S ∧ ∀ d, d < 64 → zb S d = a.wl t d := fun q =>
        s_wetAt_5 v ht hw hl j (c + 1) x (by omega) (by omega) fun d hd => by
          rw [hx d hd]
          by_cases hdc : d = c
          · subst hdc
            simp [q]
          · have : d < c + 1 ↔ d < c := by omega
            simp [this]
      cases hq : a.wet c with
      | false =>
        rw [if_pos (by decide)]
        exact skip (by unfold zG.wl; rw [hq]; rfl)
      | true =>
        have hcn := (zG.wet_iff.mp hq).1
        have h99 := zG.lv99 v hcn
        rw [if_neg (by decide), s_at' 20 33 hc', Option.bind_some, hl c hcn]
        by_cases hlt : a.lv c = t
        · rw [if_pos (by rw [hlt])]
          refine s_wetAt_5 v ht hw hl j (c + 1) _ (by omega) (by omega) fun d hd => ?_
          rw [zb_or, hx d hd, zb_one hc' hd]
          by_cases hdc : d = c
          · subst hdc
            simp [zG.wl, hq, hlt]
          · have : d < c + 1 ↔ d < c := by omega
            simp [hdc, this]
        · rw [if_neg (by rw [zi_eq (by omega) (by omega)]; exact hlt)]
          exact skip (by unfold zG.wl; rw [hq]; simp [hlt])
theorem s_wetAt (v : zGV a) {t : Nat} (ht : t ≤ 99) {m : zM} (hw : ∀ d, d < 64 → zb (m.2.1 4 0 5) d = a.wet d) (hl : ∀ d, d < a.n → m.1 20 33 d = Int32.ofNat (a.lv d)) : ∃ S, f_X2_wetAtLevel (Int32.ofNat t) m = some S ∧ ∀ d, d < 64 → zb S d = a.wl t d :=
  s_wetAt_5 v ht hw hl zF 0 0 (Nat.zero_le _) (Nat.lt_of_lt_of_le (by omega : 64 - 0 < 65) (zF_ge (by decide))) fun d _ => by
    rw [zb_0]
    simp
abbrev zP35 (k i _j : Nat) : Prop := k = 20 ∧ i = 35
/-- numberLake -/
theorem s_number_2 {x : Int64} {u : Int32} : ∀ (j c : Nat) (m : zM), c ≤ 64 → 64 - c < j → m.1 4 0 4 = u →
    ∃ m', f_X2_numberLake_2 j x (Int32.ofNat c) m = some m' ∧ zFr zP35 m m' ∧ ∀ d, d < 64 → m'.1 20 35 d = if c ≤ d ∧ zb x d = true then u else m.1 20 35 d
  | 0, _, _, _, h, _ => absurd h (Nat.not_lt_zero _)
  | j + 1, c, m, hc, h, hu => by
    unfold f_X2_numberLake_2
    rw [show (64 : Int32) = Int32.ofNat 64 from rfl]
    by_cases he : c = 64
    · rw [if_pos (by rw [zi_le (by omega) (by omega)]; omega)]
      refine ⟨m, rfl, zFr.refl m, fun d hd => ?_⟩
      rw [if_neg (by omega)]
    · have hc' : c < 64 := by omega
      rw [if_neg (by rw [zi_le (by omega) (by omega)]; omega), s_has _ hc', Option.bind_some, show Int32.ofNat c + 1 = Int32.ofNat (c + 1) from zi_add c 1]
      cases hb : zb x c with
      | false =>
        rw [if_pos (by decide)]
        obtain ⟨m', q1, q2, q3⟩ := s_number_2 (x := x) (u := u) j (c + 1) m (by omega) (by omega) hu
        refine ⟨m', q1, q2, fun d hd => ?_⟩
        rw [q3 d hd]
        by_cases hdc : d = c
        · subst hdc
          rw [if_neg (by omega), if_neg (by rw [hb]; simp)]
        · have : (c + 1 ≤ d ∧ zb x d = true) ↔ (c ≤ d ∧ zb x d = true) := by
            constructor <;> (rintro ⟨w1, w2⟩; exact ⟨by omega, w2⟩)
          simp only [this]
      | true =>
        rw [if_neg (by decide), s_put 20 35 hc', Option.bind_some, hu]
        obtain ⟨m', q1, q2, q3⟩ := s_number_2 (x := x) (u := u) j (c + 1) (z_sI m 20 35 c u) (by omega) (by omega) (by rw [zm_I, if_neg (by omega)]; exact hu)
        refine ⟨m', q1, (zFr.sI (zFr.refl m) _ ⟨rfl, rfl⟩).trans q2, fun d hd => ?_⟩
        rw [q3 d hd, zm_I]
        by_cases hdc : d = c
        · subst hdc
          rw [if_neg (by omega), if_pos ⟨rfl, rfl, rfl⟩, if_pos ⟨Nat.le_refl _, hb⟩]
        · rw [if_neg (c := 20 = 20 ∧ 35 = 35 ∧ d = c) (fun q => hdc q.2.2)]
          have : (c + 1 ≤ d ∧ zb x d = true) ↔ (c ≤ d ∧ zb x d = true) := by
            constructor <;> (rintro ⟨w1, w2⟩; exact ⟨by omega, w2⟩)
          simp only [this]
theorem s_number (x : Int64) (m : zM) : ∃ m', f_X2_numberLake x m = some m' ∧ zFr zP35 m m' ∧ ∀ d, d < 64 → m'.1 20 35 d = if zb x d = true then m.1 4 0 4 else m.1 20 35 d := by
  obtain ⟨m', q1, q2, q3⟩ := s_number_2 (x := x) zF 0 m (Nat.zero_le _) (Nat.lt_of_lt_of_le (by omega : 64 - 0 < 65) (zF_ge (by decide))) rfl
  refine ⟨m', q1, q2, fun d hd => ?_⟩
  rw [q3 d hd]
  simp
end
