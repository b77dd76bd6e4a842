/-! Levels: a cell has the level at which a flood from the outlets meets it first. -/
def zG.lo (a : zG) (t : Nat) (d : Nat) : Bool := decide (d < a.n ∧ a.ht d ≤ t)
theorem zG.lo_iff {a : zG} {t d : Nat} : a.lo t d = true ↔ d < a.n ∧ a.ht d ≤ t := by
  unfold zG.lo
  rw [decide_eq_true_eq]
theorem zG.lo_mono {a : zG} {s t d : Nat} (h : s ≤ t) (hd : a.lo s d = true) : a.lo t d = true := by
  rw [zG.lo_iff] at hd ⊢
  omega
noncomputable def zG.lv (a : zG) (c : Nat) : Nat := z_cnt (fun t => @decide (¬ zRch a (a.lo t) a.ou c) (Classical.propDecidable _)) 100
theorem z_cnt_down {p : Nat → Bool} : ∀ {n : Nat}, (∀ t, p (t + 1) = true → p t = true) → ∀ t, t < n → (p t = true ↔ t < z_cnt p n)
  | 0, _, t, h => absurd h (Nat.not_lt_zero _)
  | n + 1, hp, t, h => by
    have mono : ∀ s k, p (s + k) = true → p s = true := fun s k => by
      induction k with
      | zero => exact id
      | succ k ih => exact fun q => ih (hp _ q)
    unfold z_cnt
    have hl := z_cnt_le p n
    by_cases he : t = n
    · subst he
      by_cases hq : p t = true
      · have : z_cnt p t = t := by
          have hall : ∀ u, u < t → p u = true := fun u hu => mono u (t - u) (by rw [show u + (t - u) = t by omega]; exact hq)
          have : ∀ k, k ≤ t → z_cnt p k = k := fun k => by
            induction k with
            | zero => exact fun _ => rfl
            | succ k ih =>
              intro hk
              unfold z_cnt
              rw [ih (by omega), if_pos (hall k (by omega))]
          exact this t (Nat.le_refl _)
        rw [if_pos hq, this]
        simp [hq]
      · rw [if_neg hq]
        simp only [hq]
        constructor
        · intro q; cases q
        · intro q; omega
    · have ih := z_cnt_down (n := n) hp t (by omega)
      rw [ih]
      by_cases hq : p n = true
      · rw [if_pos hq]
        have h2 : p t = true := mono t (n - t) (by rw [show t + (n - t) = n by omega]; exact hq)
        have h3 := ih.mp h2
        omega
      · rw [if_neg hq]
        omega
theorem zRch.up {a : zG} {s t c : Nat} {S : Nat → Bool} (h : zRch a (a.lo s) S c) (hs : s ≤ t) : zRch a (a.lo t) S c :=
  h.mono (fun _ q => zG.lo_mono hs q) fun _ q w => zRch.base q (zG.lo_mono hs w)
theorem z_dec {p : Prop} : @decide p (Classical.propDecidable p) = true ↔ p := @decide_eq_true_iff p (Classical.propDecidable p)
theorem zG.lv_iff {a : zG} {c t : Nat} (h : t < 100) : zRch a (a.lo t) a.ou c ↔ a.lv c ≤ t := by
  have this := z_cnt_down (p := fun t => @decide (¬ zRch a (a.lo t) a.ou c) (Classical.propDecidable _)) (n := 100) (fun t q => z_dec.mpr fun r => z_dec.mp q (r.up (Nat.le_succ t))) t h
  have h2 : (¬ zRch a (a.lo t) a.ou c) ↔ t < a.lv c := z_dec.symm.trans this
  constructor
  · intro q
    exact Nat.not_lt.mp fun w => h2.mpr w q
  · intro q
    exact Classical.byContradiction fun w => absurd (h2.mp w) (Nat.not_lt.mpr q)
/-- every cell is joined to every other -/
theorem zG.joined {a : zG} (v : zGV a) {P : Nat → Prop} {o : Nat} (ho : o < a.n) (h0 : P o) (hs : ∀ c d e, P c → a.nb c d = some e → e < a.n → P e) : ∀ c, c < a.n → P c := by
  have w0 := v.w0
  have toRow : ∀ k c, c < a.n → c % a.w = k → P c → P (c - k) := fun k => by
    induction k with
    | zero => exact fun c _ _ p => p
    | succ k ih =>
      intro c hc hm p
      have hdm := Nat.div_add_mod c a.w
      have h1 : P (c - 1) := hs c 3 (c - 1) p (by show (if 0 < c % a.w then some (c - 1) else none) = _; rw [if_pos (by omega)]) (by omega)
      have e : (c - 1) % a.w = k := by
        have : c - 1 = a.w * (c / a.w) + k := by omega
        rw [this, Nat.mul_add_mod, Nat.mod_eq_of_lt]
        have := Nat.mod_lt c w0
        omega
      have := ih (c - 1) (by omega) e h1
      rwa [show c - 1 - k = c - (k + 1) by omega] at this
  have toTop : ∀ k, a.w * k < a.n → P (a.w * k) → P 0 := fun k => by
    induction k with
    | zero => exact fun _ p => p
    | succ k ih =>
      intro hk p
      rw [Nat.mul_add, Nat.mul_one] at hk p
      refine ih (by omega) ?_
      have := hs _ 0 (a.w * k) p (by show (if a.w ≤ a.w * k + a.w then some (a.w * k + a.w - a.w) else none) = _; rw [if_pos (by omega)]; congr 1; omega) (by omega)
      exact this
  have hz : P 0 := by
    have h1 := toRow _ o ho rfl h0
    have hdm := Nat.div_add_mod o a.w
    refine toTop (o / a.w) (by omega) ?_
    rwa [show o - o % a.w = a.w * (o / a.w) by omega] at h1
  have down : ∀ k, a.w * k < a.n → P (a.w * k) := fun k => by
    induction k with
    | zero => exact fun _ => hz
    | succ k ih =>
      intro hk
      rw [Nat.mul_add, Nat.mul_one] at hk ⊢
      exact hs _ 2 _ (ih (by omega)) (by show (if a.w * k + a.w < a.n then some (a.w * k + a.w) else none) = _; rw [if_pos hk]) hk
  intro c hc
  have hdm := Nat.div_add_mod c a.w
  have hml := Nat.mod_lt c w0
  have along : ∀ k, k ≤ c % a.w → P (a.w * (c / a.w) + k) := fun k => by
    induction k with
    | zero => exact fun _ => down _ (by omega)
    | succ k ih =>
      intro hk
      refine hs _ 1 _ (ih (by omega)) ?_ (by omega)
      show (if (a.w * (c / a.w) + k) % a.w + 1 < a.w then some (a.w * (c / a.w) + k + 1) else none) = _
      rw [Nat.mul_add_mod, Nat.mod_eq_of_lt (by omega), if_pos (by omega)]
      rfl
  have := along _ (Nat.le_refl _)
  rwa [hdm] at this
theorem zG.lv99 {a : zG} (v : zGV a) {c : Nat} (h : c < a.n) : a.lv c ≤ 99 := by
  rw [← zG.lv_iff (by omega)]
  obtain ⟨o, ho, hoo⟩ := v.ou
  have hl : ∀ c, c < a.n → a.lo 99 c = true := fun c hc => zG.lo_iff.mpr ⟨hc, v.ht c⟩
  exact zG.joined v ho (zRch.base hoo (hl o ho)) (fun c d e p hn he => p.step hn (hl e he)) c h
theorem zG.lv_ht {a : zG} (v : zGV a) {c : Nat} (h : c < a.n) : a.ht c ≤ a.lv c := by
  have := (zG.lv_iff (a := a) (c := c) (t := a.lv c) (by have := zG.lv99 v h; omega)).mpr (Nat.le_refl _)
  exact (zG.lo_iff.mp this.inW).2
theorem zGR.sI {m : zM} {g : Nat} {a : zG} (r : zGR m g a) {k i j : Nat} (v : Int32) (h : ¬ zGp g k i j) : zGR (z_sI m k i j v) g a :=
  r.keep (P := fun a b c => a = k ∧ b = i ∧ c = j) (zFr.sI (zFr.refl m) v ⟨rfl, rfl, rfl⟩) (fun a b c p q => by obtain ⟨rfl, rfl, rfl⟩ := q; exact h p)
theorem zGR.sL {m : zM} {g : Nat} {a : zG} (r : zGR m g a) {k i j : Nat} (v : Int64) (h : ¬ zGp g k i j) : zGR (z_sL m k i j v) g a :=
  r.keep (P := fun a b c => a = k ∧ b = i ∧ c = j) (zFr.sL (zFr.refl m) v ⟨rfl, rfl, rfl⟩) (fun a b c p q => by obtain ⟨rfl, rfl, rfl⟩ := q; exact h p)
section
variable {g : Nat} {a : zG}
abbrev zP33 (k i _j : Nat) : Prop := k = 20 ∧ i = 33
theorem s_levels_40 (v : zGV a) (hg : g < 11) (K : Int32 → Int64 → Int32 → zM → Option zM) (X B : Int64) (t : Nat) : ∀ (j c : Nat) (m : zM), c ≤ a.n → a.n - c < j →
    ∃ m', f_X2_findLevels_40 g K j (Int32.ofNat a.n) X (Int32.ofNat t) B (Int32.ofNat c) m = K (Int32.ofNat a.n) X (Int32.ofNat (t + 1)) m' ∧ zFr zP33 m m' ∧ ∀ d, d < 64 → m'.1 20 33 d = if c ≤ d ∧ d < a.n ∧ zb X d = true ∧ zb B d = false then Int32.ofNat t else m.1 20 33 d
  | 0, _, _, _, h => absurd h (Nat.not_lt_zero _)
  | j + 1, c, m, hc, h => by
    have n64 := v.n64
    have e1 : (1 : Int32) = Int32.ofNat 1 := rfl
    unfold f_X2_findLevels_40
    rw [e1, zi_add, zi_add]
    by_cases he : c = a.n
    · rw [if_pos (by rw [zi_le (by omega) (by omega)]; omega)]
      refine ⟨m, rfl, zFr.refl m, fun d hd => ?_⟩
      rw [if_neg (by omega)]
    · rw [if_neg (by rw [zi_le (by omega) (by omega)]; omega)]
      have hc' : c < 64 := by omega
      by_cases hq : X = B
      · rw [if_pos (by rw [zb_lc]; exact hq)]
        refine ⟨m, rfl, zFr.refl m, fun d hd => ?_⟩
        rw [if_neg]
        rintro ⟨_, _, q1, q2⟩
        rw [hq, q2] at q1
        cases q1
      · rw [if_neg (by rw [zb_lc]; exact hq), s_has _ hc', Option.bind_some, zb_and, zb_not _ hc']
        by_cases hb : zb X c = true ∧ zb B c = false
        · rw [hb.1, hb.2, if_neg (by decide), s_put 20 33 hc', Option.bind_some]
          obtain ⟨m', q1, q2, q3⟩ := s_levels_40 v hg K X B t j (c + 1) (z_sI m 20 33 c (Int32.ofNat t)) (by omega) (by omega)
          refine ⟨m', q1, (zFr.sI (zFr.refl m) _ ⟨rfl, rfl⟩).trans q2, fun d hd => ?_⟩
          rw [q3 d hd, zm_I]
          by_cases hdc : d = c
          · subst hdc
            rw [if_neg (by omega), if_pos ⟨rfl, rfl, rfl⟩, if_pos ⟨Nat.le_refl _, by omega, hb.1, hb.2⟩]
          · rw [if_neg (c := 20 = 20 ∧ 33 = 33 ∧ d = c) (fun q => hdc q.2.2)]
            have : (c + 1 ≤ d ∧ d < a.n ∧ zb X d = true ∧ zb B d = false) ↔ (c ≤ d ∧ d < a.n ∧ zb X d = true ∧ zb B d = false) := by
              constructor
              · rintro ⟨p1, p2⟩; exact ⟨by omega, p2⟩
              · rintro ⟨p1, p2⟩; exact ⟨by omega, p2⟩
            simp only [this]
        · have hf : (zb X c && !zb B c) = false := by
            cases h1 : zb X c <;> cases h2 : zb B c <;> simp_all
          rw [hf, if_pos (by decide)]
          obtain ⟨m', q1, q2, q3⟩ := s_levels_40 v hg K X B t j (c + 1) m (by omega) (by omega)
          refine ⟨m', q1, q2, fun d hd => ?_⟩
          rw [q3 d hd]
          by_cases hdc : d = c
          · subst hdc
            rw [if_neg (by omega), if_neg (fun q => hb q.2.2)]
          · have : (c + 1 ≤ d ∧ d < a.n ∧ zb X d = true ∧ zb B d = false) ↔ (c ≤ d ∧ d < a.n ∧ zb X d = true ∧ zb B d = false) := by
              constructor
              · rintro ⟨p1, p2⟩; exact ⟨by omega, p2⟩
              · rintro ⟨p1, p2⟩; exact ⟨by omega, p2⟩
            simp only [this]
theorem zGp_33 {g : Nat} (hg : g < 11) {k i j : Nat} (h : zGp g k i j) : ¬ zP33 k i j := by
  unfold zGp at h
  unfold zP33
  omega
theorem s_levels_10 (v : zGV a) (hg : g < 11) : ∀ (j t : Nat) (F : Int64) (m : zM), t ≤ 100 → 100 - t < j → zGR m g a → (∀ c, c < 64 → (zb F c = true ↔ c < a.n ∧ a.lv c < t)) → (∀ c, c < a.n → a.lv c < t → m.1 20 33 c = Int32.ofNat (a.lv c)) →
    ∃ m', f_X2_findLevels_10 g j (Int32.ofNat a.n) F (Int32.ofNat t) m = some m' ∧ zFr zP33 m m' ∧ ∀ c, c < a.n → m'.1 20 33 c = Int32.ofNat (a.lv c)
  | 0, _, _, _, _, h, _, _, _ => absurd h (Nat.not_lt_zero _)
  | j + 1, t, F, m, ht, h, r, hF, hm => by
    have n64 := v.n64
    unfold f_X2_findLevels_10
    rw [show (99 : Int32) = Int32.ofNat 99 from rfl]
    by_cases he : t = 100
    · rw [if_pos (by rw [zi_lt (by omega) (by omega)]; omega)]
      exact ⟨m, rfl, zFr.refl m, fun c hc => hm c hc (by have := zG.lv99 v hc; omega)⟩
    · rw [if_neg (by rw [zi_lt (by omega) (by omega)]; omega)]
      obtain ⟨W, hW, hW2⟩ := s_atMost v r (t := t) (by omega)
      have hWn : ∀ c, c < 64 → zb W c = true → c < a.n := fun c hc q => by
        rw [hW2 c hc, decide_eq_true_eq] at q
        exact q.1
      obtain ⟨Z, hZ, hZ2⟩ := s_reachable v r (S := F ||| m.2.1 6 g 3) hWn
      rw [hW, Option.bind_some, hZ, Option.bind_some]
      have lt : ∀ (y : Int64) (c : Nat), zb y c = true → c < 64 := fun y c hy => by
        by_cases q : c < 64
        · exact q
        · rw [zb_big _ (by omega)] at hy
          cases hy
      have toLo : ∀ c, zb W c = true → a.lo t c = true := fun c q => by
        have := lt _ _ q
        rw [hW2 c this] at q
        exact q
      have ofLo : ∀ c, a.lo t c = true → zb W c = true := fun c q => by
        have := (zG.lo_iff.mp q).1
        rw [hW2 c (by omega)]
        exact q
      have key : ∀ c, c < 64 → (zb Z c = true ↔ c < a.n ∧ a.lv c < t + 1) := fun c hc => by
        rw [hZ2 c]
        constructor
        · intro q
          have h1 : zRch a (a.lo t) a.ou c := q.mono toLo fun e he hw => by
            have hel := lt _ _ hw
            rw [zb_or, Bool.or_eq_true] at he
            rcases he with he | he
            · have := (hF e hel).mp he
              exact ((zG.lv_iff (by omega)).mpr (Nat.le_refl (a.lv e))).up (by omega)
            · rw [r.ou e hel] at he
              exact zRch.base he (toLo e hw)
          have h2 := (zG.lo_iff.mp h1.inW).1
          have h3 := (zG.lv_iff (by omega)).mp h1
          exact ⟨h2, by omega⟩
        · rintro ⟨q1, q2⟩
          have h1 := (zG.lv_iff (a := a) (c := c) (t := t) (by omega)).mpr (by omega)
          exact h1.mono ofLo fun e he hw => by
            have := (zG.lo_iff.mp hw).1
            refine zRch.base ?_ (ofLo e hw)
            rw [zb_or, r.ou e (by omega), he]
            simp
      obtain ⟨m1, q1, q2, q3⟩ := s_levels_40 v hg (f_X2_findLevels_10 g j) Z F t zF 0 m (Nat.zero_le _) (Nat.lt_of_lt_of_le (by omega : a.n - 0 < 65) (zF_ge (by decide)))
      rw [show (0 : Int32) = Int32.ofNat 0 from rfl, q1]
      have r1 : zGR m1 g a := r.keep q2 fun k i j => zGp_33 hg
      obtain ⟨m2, p1, p2, p3⟩ := s_levels_10 v hg j (t + 1) Z m1 (by omega) (by omega) r1 key fun c hc hl => by
        rw [q3 c (by omega)]
        by_cases hlt : a.lv c < t
        · have : zb F c = true := (hF c (by omega)).mpr ⟨hc, hlt⟩
          rw [if_neg (by rintro ⟨_, _, _, w⟩; rw [this] at w; cases w)]
          exact hm c hc hlt
        · have e : a.lv c = t := by omega
          have f1 : zb F c = false := by
            cases w : zb F c with
            | false => rfl
            | true => exact absurd ((hF c (by omega)).mp w).2 hlt
          rw [if_pos ⟨Nat.zero_le _, hc, (key c (by omega)).mpr ⟨hc, hl⟩, f1⟩, e]
      exact ⟨m2, p1, q2.trans p2, p3⟩
theorem s_levels (v : zGV a) (hg : g < 11) {m : zM} (r : zGR m g a) : ∃ m', f_X2_findLevels g m = some m' ∧ zFr zP33 m m' ∧ ∀ c, c < a.n → m'.1 20 33 c = Int32.ofNat (a.lv c) := by
  unfold f_X2_findLevels
  rw [s_size v r, Option.bind_some]
  exact s_levels_10 v hg zF 0 0 m (by omega) (Nat.lt_of_lt_of_le (by omega : 100 - 0 < 101) (zF_ge (by decide))) r (fun c _ => by rw [zb_0]; simp) (fun c _ q => absurd q (Nat.not_lt_zero _))
end
