/-! Counting; the class's sequence of cells. -/
def zin (s : Nat → Nat) : Nat → Nat → Bool
  | 0, _ => false
  | k + 1, x => zin s k x || decide (s k = x)
theorem zin_iff {s : Nat → Nat} {x : Nat} : ∀ {k : Nat}, zin s k x = true ↔ ∃ i, i < k ∧ s i = x
  | 0 => ⟨fun h => (by cases h), fun ⟨i, h, _⟩ => absurd h (Nat.not_lt_zero _)⟩
  | k + 1 => by
    unfold zin
    rw [Bool.or_eq_true, decide_eq_true_eq, zin_iff (k := k)]
    constructor
    · rintro (⟨i, h1, h2⟩ | h)
      · exact ⟨i, by omega, h2⟩
      · exact ⟨k, by omega, h⟩
    · rintro ⟨i, h1, h2⟩
      by_cases q : i = k
      · exact .inr (q ▸ h2)
      · exact .inl ⟨i, by omega, h2⟩
theorem zin_congr {s s' : Nat → Nat} {x k : Nat} (h : ∀ i, i < k → s i = s' i) : zin s k x = zin s' k x := by
  rw [Bool.eq_iff_iff, zin_iff, zin_iff]
  constructor
  · rintro ⟨i, h1, h2⟩
    exact ⟨i, h1, by rw [← h i h1]; exact h2⟩
  · rintro ⟨i, h1, h2⟩
    exact ⟨i, h1, by rw [h i h1]; exact h2⟩
theorem z_cnt_ext {p q : Nat → Bool} : ∀ {n : Nat}, (∀ c, c < n → p c = q c) → z_cnt p n = z_cnt q n
  | 0, _ => rfl
  | n + 1, h => by
    unfold z_cnt
    rw [z_cnt_ext (n := n) fun c hc => h c (by omega), h n (by omega)]
theorem z_cnt_one {p q : Nat → Bool} {x : Nat} : ∀ {n : Nat}, x < n → (∀ c, c < n → c ≠ x → p c = q c) → p x = false → q x = true → z_cnt q n = z_cnt p n + 1
  | 0, h, _, _, _ => absurd h (Nat.not_lt_zero _)
  | n + 1, h, he, h1, h2 => by
    unfold z_cnt
    by_cases w : n = x
    · subst w
      rw [z_cnt_ext (p := q) (q := p) (n := n) fun c hc => (he c (by omega) (by omega)).symm, h1, h2]
      simp
    · rw [z_cnt_one (n := n) (by omega) (fun c hc => he c (by omega)) h1 h2, he n (by omega) w]
      omega
theorem z_cnt_0 {p : Nat → Bool} : ∀ {n : Nat}, z_cnt p n = 0 ↔ ∀ c, c < n → p c = false
  | 0 => ⟨fun _ c h => absurd h (Nat.not_lt_zero _), fun _ => rfl⟩
  | n + 1 => by
    have ih := z_cnt_0 (p := p) (n := n)
    unfold z_cnt
    cases hp : p n with
    | true =>
      rw [if_pos rfl]
      refine ⟨fun h => by omega, fun h => ?_⟩
      have := h n (Nat.lt_succ_self _)
      rw [hp] at this
      cases this
    | false =>
      rw [if_neg (by decide), Nat.add_zero, ih]
      refine ⟨fun h c hc => ?_, fun h c hc => h c (by omega)⟩
      by_cases w : c = n
      · rw [w]; exact hp
      · exact h c (by omega)
theorem z_cnt_n {p : Nat → Bool} : ∀ {n : Nat}, (∀ c, c < n → p c = true) → z_cnt p n = n
  | 0, _ => rfl
  | n + 1, h => by
    unfold z_cnt
    rw [z_cnt_n (n := n) fun c hc => h c (by omega), if_pos (h n (by omega))]
section
variable {a : zG}
noncomputable def zG.pe (a : zG) (s : Nat → Nat) (k x : Nat) : Nat := z_cnt (fun e => decide (a.to e = some x) && !(zin s k e)) a.n
/-- the sequence as it grows: p placed, k of them looked at -/
def zSi (a : zG) (s : Nat → Nat) (p k : Nat) (m : zM) : Prop :=
  (∀ i, i < p → m.1 20 40 i = Int32.ofNat (s i) ∧ s i < a.n) ∧ z_cnt (zin s p) a.n = p ∧ (∀ i j, i < p → j < p → s i = s j → i = j) ∧ (∀ i, i < p → ∀ e, e < a.n → a.to e = some (s i) → ∃ j, j < i ∧ s j = e) ∧ (∀ x, x < a.n → m.1 20 41 x = Int32.ofNat (a.pe s k x))
def zTg (a : zG) (m : zM) : Prop := m.1 5 0 0 = Int32.ofNat a.n ∧ ∀ d, d < a.n → m.1 20 39 d = zo (a.to d)
abbrev zPs (k i _j : Nat) : Prop := k = 20 ∧ (i = 40 ∨ i = 41)
theorem zTg.keep {m m' : zM} (h : zTg a m) (f : zFr zPs m m') : zTg a m' :=
  ⟨by rw [(f 5 0 0 (by unfold zPs; omega)).1]; exact h.1, fun d hd => by rw [(f 20 39 d (by unfold zPs; omega)).1]; exact h.2 d hd⟩
/-- the finished sequence -/
def zSq (a : zG) (m : zM) (s : Nat → Nat) : Prop := (∀ i, i < a.n → m.1 20 40 i = Int32.ofNat (s i) ∧ s i < a.n) ∧ (∀ x, x < a.n → ∃ i, i < a.n ∧ s i = x) ∧ (∀ i j, i < a.n → j < a.n → s i = s j → i = j) ∧ ∀ i, i < a.n → ∀ e, e < a.n → a.to e = some (s i) → ∃ j, j < i ∧ s j = e
theorem zSi.p_n {s : Nat → Nat} {p k : Nat} {m : zM} (h : zSi a s p k m) : p ≤ a.n := by
  have := z_cnt_le (zin s p) a.n
  rw [h.2.1] at this
  exact this
/-- upward: what holds of a cell where it holds of all that flow to it holds of all -/
theorem zG.up (v : zGV a) {P : Nat → Prop} (h : ∀ c, c < a.n → (∀ e, e < a.n → a.to e = some c → P e) → P c) : ∀ c, c < a.n → P c := by
  have : ∀ k c, 6400 - a.mu c < k → c < a.n → P c := fun k => by
    induction k with
    | zero => exact fun c q => absurd q (Nat.not_lt_zero _)
    | succ k ih => exact fun c q hc => h c hc fun e he ht => ih e (by have h1 := zG.to_mu v he ht; have h2 := zG.mu_b v he; have h3 := zG.mu_b v hc; clear ih h; omega) he
  exact fun c hc => this _ c (Nat.lt_succ_self _) hc
theorem zSi.put {s : Nat → Nat} {p k x : Nat} {m : zM} (h : zSi a s p k m) (hk : k ≤ p) (hx : x < a.n) (hn : zin s p x = false) (ho : ∀ e, e < a.n → a.to e = some x → zin s p e = true) : zSi a (fun i => if i = p then x else s i) (p + 1) k (z_sI m 20 40 p (Int32.ofNat x)) ∧ (∀ y, zin (fun i => if i = p then x else s i) (p + 1) y = (zin s p y || decide (x = y))) ∧ ∀ q y, q ≤ p → zin (fun i => if i = p then x else s i) q y = zin s q y := by
  obtain ⟨h1, h2, h3, h4, h5⟩ := h
  have c1 : ∀ q y, q ≤ p → zin (fun i => if i = p then x else s i) q y = zin s q y := fun q y hq => zin_congr fun i hi => by
    show (if i = p then x else s i) = s i
    rw [if_neg (by omega)]
  have c2 : ∀ y, zin (fun i => if i = p then x else s i) (p + 1) y = (zin s p y || decide (x = y)) := fun y => by
    show (zin (fun i => if i = p then x else s i) p y || decide ((if p = p then x else s p) = y)) = _
    rw [c1 p y (Nat.le_refl _), if_pos rfl]
  have nx : ∀ i, i < p → s i ≠ x := fun i hi w => by
    have := zin_iff.mpr ⟨i, hi, w⟩
    rw [hn] at this
    cases this
  refine ⟨⟨fun i hi => ?_, ?_, fun i j hi hj => ?_, fun i hi e he ht => ?_, fun y hy => ?_⟩, c2, c1⟩
  · rw [zm_row]
    by_cases w : i = p
    · simp [w, hx]
    · simp only [w, if_false]
      exact h1 i (by omega)
  · rw [z_cnt_one (p := zin s p) (q := zin (fun i => if i = p then x else s i) (p + 1)) hx (fun c _ w => by rw [c2]; simp [Ne.symm w]) hn (by rw [c2]; simp), h2]
  · by_cases w1 : i = p
    · by_cases w2 : j = p
      · exact fun _ => w1.trans w2.symm
      · simp only [w1, w2, if_true, if_false]
        exact fun q => absurd q.symm (nx j (by omega))
    · by_cases w2 : j = p
      · simp only [w1, w2, if_true, if_false]
        exact fun q => absurd q (nx i (by omega))
      · simp only [w1, w2, if_false]
        exact h3 i j (by omega) (by omega)
  · by_cases w : i = p
    · simp only [w, if_true] at ht ⊢
      obtain ⟨j, q1, q2⟩ := zin_iff.mp (ho e he ht)
      exact ⟨j, q1, by simp only [show j ≠ p by omega, if_false]; exact q2⟩
    · simp only [w, if_false] at ht
      obtain ⟨j, q1, q2⟩ := h4 i (by omega) e he ht
      exact ⟨j, q1, by simp only [show j ≠ p by omega, if_false]; exact q2⟩
  · rw [zm_ot _ _ _ _ (by omega), h5 y hy]
    unfold zG.pe
    congr 1
    exact z_cnt_ext fun e _ => by rw [c1 k e hk]
theorem s_seq_83 (v : zGV a) : ∀ (j p k : Nat) (s : Nat → Nat) (m : zM), k ≤ p → k ≤ a.n → a.n - k < j → zTg a m → zSi a s p k m → (∀ x, x < a.n → (zin s p x = true ↔ ∀ e, e < a.n → a.to e = some x → zin s k e = true)) →
    ∃ m' s', f_X3_findSequence_83 j (Int32.ofNat p) (Int32.ofNat k) m = some m' ∧ zFr zPs m m' ∧ zSq a m' s'
  | 0, _, _, _, _, _, _, h, _, _, _ => absurd h (Nat.not_lt_zero _)
  | j + 1, p, k, s, m, hkp, hkn, h, ht, hs, hi => by
    have n64 := v.n64
    have hpn := hs.p_n
    unfold f_X3_findSequence_83
    rw [ht.1]
    by_cases he : k = a.n
    · rw [if_pos (by rw [zi_le (by omega) (by omega)]; clear hi; omega)]
      have hp : p = a.n := by clear hi; omega
      refine ⟨m, s, rfl, zFr.refl m, ?_⟩
      rw [hp] at hs
      refine ⟨hs.1, fun x hx => ?_, hs.2.2.1, hs.2.2.2.1⟩
      exact zin_iff.mp (z_cnt_all (by rw [hs.2.1]; exact Nat.le_refl _) x hx)
    · have hk : k < a.n := by clear hi; omega
      have hj : a.n - (k + 1) < j := by clear hi; omega
      have hkp' : k < p := by
        refine Nat.lt_of_le_of_ne hkp fun w => ?_
        have : ∀ x, x < a.n → zin s p x = true := zG.up v fun c hc q => (hi c hc).mpr fun e he' h' => by rw [w]; exact q e he' h'
        have h2 := z_cnt_n this
        rw [hs.2.1] at h2
        omega
      clear hkp
      obtain ⟨b1, b2⟩ := hs.1 k hkp'
      have b3 : zin s k (s k) = false := by
        cases w : zin s k (s k) with
        | false => rfl
        | true =>
          obtain ⟨i, q1, q2⟩ := zin_iff.mp w
          have := hs.2.2.1 i k (by omega) hkp' q2
          omega
      rw [if_neg (by rw [zi_le (by omega) (by omega)]; clear hi; omega), s_at' 20 40 (show k < 64 by omega), Option.bind_some, b1, s_at' 20 39 (show s k < 64 by omega), Option.bind_some, ht.2 _ b2, zi_s, zi_s]
      have zk : ∀ y, zin s (k + 1) y = (zin s k y || decide (s k = y)) := fun y => rfl
      cases hto : a.to (s k) with
      | none =>
        rw [zo_none, s_addn 20 41 (by decide), Option.bind_some, if_pos rfl]
        have same : ∀ x e, a.to e = some x → zin s (k + 1) e = zin s k e := fun x e w => by
          rw [zk]
          have : s k ≠ e := fun y => by rw [y, w] at hto; cases hto
          simp [this]
        refine s_seq_83 v j p (k + 1) s m hkp' hk hj ht ⟨hs.1, hs.2.1, hs.2.2.1, hs.2.2.2.1, fun x hx => ?_⟩ fun x hx => ?_
        · rw [hs.2.2.2.2 x hx]
          unfold zG.pe
          congr 1
          refine z_cnt_ext fun e _ => ?_
          by_cases w : a.to e = some x
          · rw [same x e w]
          · simp [w]
        · rw [hi x hx]
          constructor
          · exact fun q e q1 q2 => by rw [same x e q2]; exact q e q1 q2
          · exact fun q e q1 q2 => by rw [← same x e q2]; exact q e q1 q2
      | some y =>
        have hy := zG.to_n v b2 hto
        have pe1 : a.pe s k y = a.pe s (k + 1) y + 1 := by
          unfold zG.pe
          refine z_cnt_one (x := s k) b2 (fun c _ w => ?_) ?_ ?_
          · rw [zk]; simp [Ne.symm w]
          · rw [zk]; simp
          · rw [b3]; simp [hto]
        have pe2 : ∀ x, x ≠ y → a.pe s (k + 1) x = a.pe s k x := fun x w => by
          unfold zG.pe
          refine z_cnt_ext fun e _ => ?_
          rw [zk]
          by_cases q : s k = e
          · have : ¬ a.to e = some x := fun z => by rw [← q, hto] at z; cases z; exact w rfl
            simp [this]
          · simp [q]
        have f1 : zFr zPs m (z_sI m 20 41 y (m.1 20 41 y + -1)) := zFr.sI (zFr.refl m) _ ⟨rfl, .inr rfl⟩
        have hpb : a.pe s (k + 1) y ≤ 64 := Nat.le_trans (z_cnt_le _ _) n64
        have hs1 : zSi a s p (k + 1) (z_sI m 20 41 y (m.1 20 41 y + -1)) := by
          refine ⟨fun i hip => by rw [zm_ot _ _ _ _ (by omega)]; exact hs.1 i hip, hs.2.1, hs.2.2.1, hs.2.2.2.1, fun x hx => ?_⟩
          rw [zm_row]
          by_cases w : x = y
          · rw [if_pos w, hs.2.2.2.2 y hy, pe1, zi_p (by omega), w]
            rfl
          · rw [if_neg w, hs.2.2.2.2 x hx, pe2 x w]
        have hi1 : ∀ x, x < a.n → x ≠ y → (zin s p x = true ↔ ∀ e, e < a.n → a.to e = some x → zin s (k + 1) e = true) := fun x hx w => by
          have : ∀ e, a.to e = some x → zin s (k + 1) e = zin s k e := fun e q => by
            rw [zk]
            have : s k ≠ e := fun z => by rw [← z, hto] at q; cases q; exact w rfl
            simp [this]
          rw [hi x hx]
          constructor
          · exact fun q e q1 q2 => by rw [this e q2]; exact q e q1 q2
          · exact fun q e q1 q2 => by rw [← this e q2]; exact q e q1 q2
        have ny : zin s p y = false := by
          cases w : zin s p y with
          | false => rfl
          | true =>
            have := (hi y hy).mp w (s k) b2 hto
            rw [b3] at this
            cases this
        have r1 : (z_sI m 20 41 y (m.1 20 41 y + -1)).1 20 41 y = Int32.ofNat (a.pe s (k + 1) y) := hs1.2.2.2.2 y hy
        have ht1 := ht.keep f1
        rw [zo_some, s_add 20 41 (show y < 64 by omega), Option.bind_some, if_neg (zi_m1 (by omega)), s_at' 20 41 (show y < 64 by omega), Option.bind_some, r1]
        generalize z_sI m 20 41 y (m.1 20 41 y + -1) = m1 at f1 hs1 ht1
        clear hi
        by_cases w0 : a.pe s (k + 1) y = 0
        · rw [if_pos (by rw [w0]; rfl)]
          have all : ∀ e, e < a.n → a.to e = some y → zin s (k + 1) e = true := fun e q1 q2 => by
            have := z_cnt_0.mp w0 e q1
            simpa [q2] using this
          have hlt : p < a.n := by
            have := z_cnt_lt (p := zin s p) (q := fun _ => true) (n := a.n) (c := y) (fun _ _ _ => rfl) hy ny rfl
            have := z_cnt_le (fun _ => true) a.n
            rw [hs.2.1] at *
            omega
          have mono : ∀ e, zin s (k + 1) e = true → zin s p e = true := fun e q => by
            obtain ⟨i, q1, q2⟩ := zin_iff.mp q
            exact zin_iff.mpr ⟨i, by omega, q2⟩
          obtain ⟨g1, g2, g3⟩ := hs1.put hkp' hy ny fun e q1 q2 => mono e (all e q1 q2)
          have f2 : zFr zPs m (z_sI m1 20 40 p (Int32.ofNat y)) := zFr.sI f1 _ ⟨rfl, .inl rfl⟩
          rw [s_put 20 40 (show p < 64 by omega), Option.bind_some]
          obtain ⟨m', s', q1, q2, q3⟩ := s_seq_83 v j (p + 1) (k + 1) _ _ (by omega) hk hj (ht.keep f2) g1 fun x hx => by
            rw [g2]
            have : (∀ e, e < a.n → a.to e = some x → zin (fun i => if i = p then y else s i) (k + 1) e = true) ↔ ∀ e, e < a.n → a.to e = some x → zin s (k + 1) e = true := by
              constructor
              · exact fun q e q1 q2 => by rw [← g3 (k + 1) e hkp']; exact q e q1 q2
              · exact fun q e q1 q2 => by rw [g3 (k + 1) e hkp']; exact q e q1 q2
            rw [this]
            by_cases w : x = y
            · subst w
              simp only [ny, Bool.false_or, decide_true, true_iff]
              exact all
            · rw [← hi1 x hx w]
              simp [Ne.symm w]
          exact ⟨m', s', q1, f2.trans q2, q3⟩
        · rw [if_neg (by rw [zi_0 (by omega)]; exact w0)]
          obtain ⟨m', s', q1, q2, q3⟩ := s_seq_83 v j p (k + 1) s m1 hkp' hk hj ht1 hs1 fun x hx => by
            by_cases w : x = y
            · subst w
              rw [ny]
              refine ⟨fun q => (by cases q), fun q => absurd (z_cnt_0.mpr fun e he' => ?_) w0⟩
              by_cases z : a.to e = some x
              · rw [q e he' z]; simp
              · simp [z]
            · exact hi1 x hx w
          exact ⟨m', s', q1, f1.trans q2, q3⟩
theorem s_seq_44 (v : zGV a) : ∀ (j p c : Nat) (s : Nat → Nat) (m : zM), p ≤ c → c ≤ a.n → a.n - c < j → zTg a m → zSi a s p 0 m → (∀ x, x < a.n → (zin s p x = true ↔ x < c ∧ ∀ e, e < a.n → ¬ a.to e = some x)) →
    ∃ m' s', f_X3_findSequence_44 j (Int32.ofNat p) (Int32.ofNat c) m = some m' ∧ zFr zPs m m' ∧ zSq a m' s'
  | 0, _, _, _, _, _, _, h, _, _, _ => absurd h (Nat.not_lt_zero _)
  | j + 1, p, c, s, m, hpc, hc, h, ht, hs, hi => by
    have n64 := v.n64
    unfold f_X3_findSequence_44
    rw [ht.1]
    by_cases he : c = a.n
    · rw [if_pos (by rw [zi_le (by omega) (by omega)]; clear hi; omega)]
      refine s_seq_83 v zF p 0 s m (Nat.zero_le _) (Nat.zero_le _) (zF_lt (by clear hi; omega)) ht hs fun x hx => ?_
      rw [hi x hx]
      exact ⟨fun q e q1 q2 => absurd q2 (q.2 e q1), fun q => ⟨by omega, fun e q1 q2 => by have := q e q1 q2; cases this⟩⟩
    · have hcn : c < a.n := by clear hi; omega
      have hj : a.n - (c + 1) < j := by clear hi; omega
      have pb : a.pe s 0 c ≤ 64 := Nat.le_trans (z_cnt_le _ _) n64
      rw [if_neg (by rw [zi_le (by omega) (by omega)]; clear hi; omega), s_at' 20 41 (show c < 64 by omega), Option.bind_some, hs.2.2.2.2 c hcn, zi_s, zi_s]
      have hz : a.pe s 0 c = 0 ↔ ∀ e, e < a.n → ¬ a.to e = some c := by
        unfold zG.pe
        rw [z_cnt_0]
        constructor
        · exact fun q e q1 q2 => by have := q e q1; simp [q2, zin] at this
        · exact fun q e q1 => by simp [q e q1]
      by_cases w0 : a.pe s 0 c = 0
      · rw [if_pos (by rw [w0]; rfl), s_put 20 40 (show p < 64 by clear hi; omega), Option.bind_some]
        have nc : zin s p c = false := by
          cases w : zin s p c with
          | false => rfl
          | true => exact absurd ((hi c hcn).mp w).1 (Nat.lt_irrefl _)
        obtain ⟨g1, g2, g3⟩ := hs.put (Nat.zero_le _) hcn nc fun e q1 q2 => absurd q2 (hz.mp w0 e q1)
        have f2 : zFr zPs m (z_sI m 20 40 p (Int32.ofNat c)) := zFr.sI (zFr.refl m) _ ⟨rfl, .inl rfl⟩
        obtain ⟨m', s', q1, q2, q3⟩ := s_seq_44 v j (p + 1) (c + 1) _ _ (by clear hi; omega) hcn hj (ht.keep f2) g1 fun x hx => by
          rw [g2, Bool.or_eq_true, hi x hx, decide_eq_true_eq]
          constructor
          · rintro (⟨q1, q2⟩ | q)
            · exact ⟨by omega, q2⟩
            · subst q
              exact ⟨by omega, hz.mp w0⟩
          · rintro ⟨q1, q2⟩
            by_cases y : x = c
            · exact .inr y.symm
            · exact .inl ⟨by omega, q2⟩
        exact ⟨m', s', q1, f2.trans q2, q3⟩
      · rw [if_neg (by rw [zi_0 (by omega)]; exact w0)]
        refine s_seq_44 v j p (c + 1) s m (by clear hi; omega) hcn hj ht hs fun x hx => ?_
        rw [hi x hx]
        refine ⟨fun q => ⟨by omega, q.2⟩, fun q => ⟨?_, q.2⟩⟩
        by_cases y : x = c
        · subst y
          exact absurd (hz.mpr q.2) w0
        · omega
theorem s_seq_10 (v : zGV a) : ∀ (j c : Nat) (m : zM), c ≤ a.n → a.n - c < j → zTg a m → (∀ x, x < a.n → m.1 20 41 x = Int32.ofNat (z_cnt (fun e => decide (a.to e = some x)) c)) →
    ∃ m' s', f_X3_findSequence_10 j (Int32.ofNat c) m = some m' ∧ zFr zPs m m' ∧ zSq a m' s'
  | 0, _, _, _, h, _, _ => absurd h (Nat.not_lt_zero _)
  | j + 1, c, m, hc, h, ht, hp => by
    have n64 := v.n64
    unfold f_X3_findSequence_10
    rw [ht.1]
    by_cases he : c = a.n
    · rw [if_pos (by rw [zi_le (by omega) (by omega)]; omega)]
      refine s_seq_44 v zF 0 0 (fun _ => 0) m (Nat.zero_le _) (Nat.zero_le _) (zF_lt (by omega)) ht ⟨fun i q => absurd q (Nat.not_lt_zero _), z_cnt_0.mpr fun _ _ => rfl, fun i j q => absurd q (Nat.not_lt_zero _), fun i q => absurd q (Nat.not_lt_zero _), fun x hx => ?_⟩ fun x hx => ⟨fun q => (by cases q), fun q => absurd q.1 (Nat.not_lt_zero _)⟩
      rw [hp x hx, he]
      unfold zG.pe
      congr 1
      exact z_cnt_ext fun e _ => by simp [zin]
    · have hcn : c < a.n := by omega
      have hj : a.n - (c + 1) < j := by omega
      rw [if_neg (by rw [zi_le (by omega) (by omega)]; omega), s_at' 20 39 (show c < 64 by omega), Option.bind_some, ht.2 c hcn, zi_s]
      have nx : ∀ x, z_cnt (fun e => decide (a.to e = some x)) (c + 1) = z_cnt (fun e => decide (a.to e = some x)) c + if a.to c = some x then 1 else 0 := fun x => by
        show _ + (if decide (a.to c = some x) = true then 1 else 0) = _
        simp
      cases hto : a.to c with
      | none =>
        rw [zo_none, s_addn 20 41 (by decide), Option.bind_some]
        refine s_seq_10 v j (c + 1) m hcn hj ht fun x hx => ?_
        rw [hp x hx, nx, hto]
        simp
      | some y =>
        have hy := zG.to_n v hcn hto
        rw [zo_some, s_add 20 41 (show y < 64 by omega), Option.bind_some]
        have f1 : zFr zPs m (z_sI m 20 41 y (m.1 20 41 y + 1)) := zFr.sI (zFr.refl m) _ ⟨rfl, .inr rfl⟩
        obtain ⟨m', s', q1, q2, q3⟩ := s_seq_10 v j (c + 1) _ hcn hj (ht.keep f1) fun x hx => by
          rw [zm_row, nx, hto]
          by_cases w : x = y
          · rw [if_pos w, hp y hy, zi_s, w]; simp
          · rw [if_neg w, hp x hx]
            have : ¬ y = x := fun z => w z.symm
            simp [this]
        exact ⟨m', s', q1, f1.trans q2, q3⟩
theorem s_sequence (v : zGV a) {m : zM} (ht : zTg a m) : ∃ m' s', f_X3_findSequence m = some m' ∧ zFr zPs m m' ∧ zSq a m' s' := by
  unfold f_X3_findSequence
  rw [s_fill, Option.bind_some]
  have n64 := v.n64
  have f1 : zFr zPs m (zm_fill m 20 41 (z_alen 20) 0) := fun k i j w => ⟨by
    show (if k = 20 ∧ i = 41 ∧ j < z_alen 20 then 0 else m.1 k i j) = _
    rw [if_neg fun y => w ⟨y.1, .inr y.2.1⟩], rfl, rfl⟩
  obtain ⟨m', s', q1, q2, q3⟩ := s_seq_10 v zF 0 _ (Nat.zero_le _) (zF_lt (by omega)) (ht.keep f1) fun x hx => by
    show (if 20 = 20 ∧ 41 = 41 ∧ x < z_alen 20 then 0 else m.1 20 41 x) = _
    rw [if_pos ⟨rfl, rfl, by show x < 64; omega⟩]
    rfl
  exact ⟨m', s', q1, f1.trans q2, q3⟩
end
