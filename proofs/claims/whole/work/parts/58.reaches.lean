/-! Reaches; the reference's streams. -/
def zfst (p : Nat → Bool) : Nat → Nat
  | 0 => 0
  | n + 1 => if p n = true then n else zfst p n
theorem zfst_eq {p : Nat → Bool} : ∀ {n e : Nat}, z_cnt p n = 1 → e < n → p e = true → zfst p n = e
  | 0, _, _, h, _ => absurd h (Nat.not_lt_zero _)
  | n + 1, e, h, he, hp => by
    unfold zfst
    unfold z_cnt at h
    by_cases w : p n = true
    · rw [if_pos w] at h ⊢
      have h0 := z_cnt_0.mp (show z_cnt p n = 0 by omega)
      by_cases q : e = n
      · exact q.symm
      · have := h0 e (by omega)
        rw [hp] at this
        cases this
    · rw [if_neg w] at h ⊢
      have : e ≠ n := fun q => w (q ▸ hp)
      exact zfst_eq (by omega) (by omega) hp
noncomputable def zG.hdf (a : zG) : Nat → Nat → Nat
  | 0, c => c
  | j + 1, c => if a.fn c = 1 then a.hdf j (zfst (a.fe c) a.n) else c
noncomputable def zG.hd (a : zG) (c : Nat) : Nat := a.hdf (6400 - a.mu c + 1) c
noncomputable def zG.beg (a : zG) (c : Nat) : Bool := a.str c && !(decide (a.fn c = 1))
noncomputable def zG.rno (a : zG) (c : Nat) : Nat := z_cnt a.beg c
noncomputable def zG.rl (a : zG) (c : Nat) : Nat := a.rno (a.hd c)
section
variable {a : zG}
theorem zG.hd0 {c : Nat} (h : a.fn c ≠ 1) : a.hd c = c := by
  show (if a.fn c = 1 then a.hdf (6400 - a.mu c) (zfst (a.fe c) a.n) else c) = c
  rw [if_neg h]
theorem zG.fe_n {c e : Nat} (h : a.fe c e = true) : e < a.n := (zG.str_iff.mp (zG.fe_iff.mp h).2).1
theorem zG.one_fe {c : Nat} (h : a.fn c = 1) : ∃ e, a.fe c e = true := by
  obtain ⟨e, _, h2⟩ := z_cnt_pos.mp (show 0 < z_cnt (a.fe c) a.n by show 0 < a.fn c; omega)
  exact ⟨e, h2⟩
theorem zG.hdf_eq (v : zGV a) : ∀ (j k c : Nat), c < a.n → 6400 - a.mu c < j → 6400 - a.mu c < k → a.hdf j c = a.hdf k c := by
  intro j
  induction j with
  | zero => intro k c _ h; exact absurd h (Nat.not_lt_zero _)
  | succ j ih =>
    intro k c hc h1 h2
    obtain ⟨k, rfl⟩ : ∃ k', k = k' + 1 := ⟨k - 1, by omega⟩
    unfold zG.hdf
    by_cases w : a.fn c = 1
    · rw [if_pos w, if_pos w]
      obtain ⟨e, he⟩ := zG.one_fe w
      have hn := zG.fe_n he
      have q1 := zG.to_mu v hn (zG.fe_iff.mp he).1
      have q2 := zG.mu_b v hn
      rw [zfst_eq w hn he]
      exact ih k e hn (by omega) (by omega)
    · rw [if_neg w, if_neg w]
theorem zG.hd1 (v : zGV a) {c e : Nat} (h : a.fn c = 1) (he : a.fe c e = true) : a.hd c = a.hd e := by
  have hn := zG.fe_n he
  have q1 := zG.to_mu v hn (zG.fe_iff.mp he).1
  have q2 := zG.mu_b v hn
  show (if a.fn c = 1 then a.hdf (6400 - a.mu c) (zfst (a.fe c) a.n) else c) = _
  rw [if_pos h, zfst_eq h hn he]
  exact zG.hdf_eq v _ _ e hn (by omega) (by omega)
theorem zG.beg_iff {c : Nat} : a.beg c = true ↔ a.str c = true ∧ a.fn c ≠ 1 := by
  unfold zG.beg
  simp
theorem zG.hd_beg (v : zGV a) : ∀ c, c < a.n → a.str c = true → a.beg (a.hd c) = true :=
  zG.up v fun c hc ih hs => by
    by_cases w : a.fn c = 1
    · obtain ⟨e, he⟩ := zG.one_fe w
      rw [zG.hd1 v w he]
      exact ih e (zG.fe_n he) (zG.fe_iff.mp he).1 (zG.fe_iff.mp he).2
    · rw [zG.hd0 w]
      exact zG.beg_iff.mpr ⟨hs, w⟩
theorem zG.beg_n {c : Nat} (h : a.beg c = true) : c < a.n := (zG.str_iff.mp (zG.beg_iff.mp h).1).1
theorem zG.beg_hd {c : Nat} (h : a.beg c = true) : a.hd c = c := zG.hd0 (zG.beg_iff.mp h).2
theorem zG.rno_s (c : Nat) : a.rno (c + 1) = a.rno c + if a.beg c = true then 1 else 0 := rfl
theorem zG.rno_le (c : Nat) : a.rno c ≤ c := z_cnt_le _ _
theorem zG.rno_lt {c d : Nat} (h : c < d) (hb : a.beg c = true) : a.rno c < a.rno d := by
  have : ∀ k, a.rno (c + 1) ≤ a.rno (c + 1 + k) := fun k => by
    induction k with
    | zero => exact Nat.le_refl _
    | succ k ih => exact Nat.le_trans ih (Nat.le_add_right _ _)
  have h1 := this (d - (c + 1))
  rw [show c + 1 + (d - (c + 1)) = d by omega, zG.rno_s, if_pos hb] at h1
  omega
theorem zG.rno_inj {c d : Nat} (hc : a.beg c = true) (hd : a.beg d = true) (h : a.rno c = a.rno d) : c = d := by
  by_cases w : c < d
  · have := zG.rno_lt w hc; omega
  · by_cases w2 : d < c
    · have := zG.rno_lt w2 hd; omega
    · omega
theorem zG.str_fn (v : zGV a) {e y : Nat} (hs : a.str e = true) (ht : a.to e = some y) : 1 ≤ a.fn y :=
  z_cnt_pos.mpr ⟨e, (zG.str_iff.mp hs).1, zG.fe_iff.mpr ⟨ht, hs⟩⟩
theorem zG.next_hd (v : zGV a) {e y : Nat} (hs : a.str e = true) (ht : a.to e = some y) (hf : a.fn y = 1) : a.hd y = a.hd e :=
  zG.hd1 v hf (zG.fe_iff.mpr ⟨ht, hs⟩)
variable {m : zM}
abbrev zPsr (k i j : Nat) : Prop := (k = 20 ∧ (i = 64 ∨ i = 65)) ∨ (k = 13 ∧ i = 0 ∧ j = 18)
theorem zMW.keep {m m' : zM} (h : zMW a m) {P : Nat → Nat → Nat → Prop} (f : zFr P m m') (hp : ∀ k i j, (k = 23 ∧ i = 0) ∨ (k = 20 ∧ (i = 61 ∨ i = 63)) → ¬ P k i j) : zMW a m' :=
  ⟨by rw [f.row (fun j => hp 23 0 j (by omega))]; exact h.1, fun d hd => by rw [(f 20 61 d (hp _ _ _ (by omega))).1]; exact h.2.1 d hd, fun d hd => by rw [(f 20 63 d (hp _ _ _ (by omega))).1]; exact h.2.2 d hd⟩
def zOr (a : zG) (T c : Nat) (m : zM) : Prop := ∀ x, x < a.n → m.1 20 64 x = if a.str x = true ∧ (T < a.st x ∨ (a.st x = T ∧ x < c)) then Int32.ofNat (a.or x) else 0
theorem s_str_45 (v : zGV a) (K : Int32 → zM → Option zM) {T : Nat} (hT : T ≤ 64) : ∀ (j c : Nat) (m : zM), c ≤ a.n → a.n - c < j → zMW a m → zOr a T c m → (∀ x, x < a.n → m.1 20 65 x = -1) →
    ∃ m', f_X12_streams_45 K j (Int32.ofNat T) (Int32.ofNat c) m = K (zy T) m' ∧ zFr zPsr m m' ∧ zOr a T a.n m' ∧ ∀ x, x < a.n → m'.1 20 65 x = -1
  | 0, _, _, _, h, _, _, _ => absurd h (Nat.not_lt_zero _)
  | j + 1, c, m, hc, hj, r, ho, hl => by
    have n64 := v.n64
    unfold f_X12_streams_45
    rw [s_mcells r.1, Option.bind_some]
    by_cases he : c = a.n
    · subst he
      rw [if_pos (by rw [zi_le (by omega) (by omega)]; omega), zy_t]
      exact ⟨m, rfl, zFr.refl m, ho, hl⟩
    · have hcn : c < a.n := by omega
      have hj2 : a.n - (c + 1) < j := by omega
      have st := zG.st_lt v hcn
      rw [if_neg (by rw [zi_le (by omega) (by omega)]; omega), s_isStream v r hcn, Option.bind_some, zi_s]
      have skip : ¬ (a.str c = true ∧ a.st c = T) → ∃ m', f_X12_streams_45 K j (Int32.ofNat T) (Int32.ofNat (c + 1)) m = K (zy T) m' ∧ zFr zPsr m m' ∧ zOr a T a.n m' ∧ ∀ x, x < a.n → m'.1 20 65 x = -1 := fun w => by
        refine s_str_45 v K hT j (c + 1) m hcn hj2 r (fun x hx => ?_) hl
        rw [ho x hx]
        have : (a.str x = true ∧ (T < a.st x ∨ (a.st x = T ∧ x < c))) ↔ (a.str x = true ∧ (T < a.st x ∨ (a.st x = T ∧ x < c + 1))) := by
          by_cases z : x = c
          · subst z
            constructor
            · rintro ⟨q1, q2⟩; exact ⟨q1, by omega⟩
            · rintro ⟨q1, q2⟩
              refine ⟨q1, ?_⟩
              have : a.st x ≠ T := fun y => w ⟨q1, y⟩
              omega
          · constructor
            · rintro ⟨q1, q2⟩; exact ⟨q1, by omega⟩
            · rintro ⟨q1, q2⟩; exact ⟨q1, by omega⟩
        simp only [this]
      cases hs : a.str c with
      | false =>
        rw [if_pos (by decide)]
        exact skip fun w => by rw [hs] at w; cases w.1
      | true =>
        rw [if_neg (by decide), s_stepsOf v r.1 r.2.1 hcn, Option.bind_some]
        by_cases w : a.st c = T
        · rw [if_pos (by rw [w]), s_orderBy v r hcn fun e he hfe => by
            obtain ⟨q1, q2⟩ := zG.fe_iff.mp hfe
            have := zG.st1 v he q1
            rw [ho e he, if_pos ⟨q2, by omega⟩], Option.bind_some, z_gdt (z_in64 (by omega)), zi_nat (by omega)]
          have f1 : zFr zPsr m (z_sI m 20 64 c (Int32.ofNat (a.or c))) := zFr.sI (zFr.refl m) _ (.inl ⟨rfl, .inl rfl⟩)
          obtain ⟨m', p1, p2, p3⟩ := s_str_45 v K hT j (c + 1) _ hcn hj2 (r.keep f1 fun k i j w => by unfold zPsr; omega) (fun x hx => by
            rw [zm_row]
            by_cases z : x = c
            · rw [if_pos z, z, if_pos ⟨hs, by omega⟩]
            · rw [if_neg z, ho x hx]
              have : (T < a.st x ∨ (a.st x = T ∧ x < c)) ↔ (T < a.st x ∨ (a.st x = T ∧ x < c + 1)) := by omega
              simp only [this]) fun x hx => by rw [zm_ot _ _ _ _ (by omega)]; exact hl x hx
          exact ⟨m', p1, f1.trans p2, p3⟩
        · rw [if_neg (by rw [zi_eq (by omega) (by omega)]; exact w)]
          exact skip fun y => w y.2
/-- the reference's reaches, of the heads before c -/
def zRl (a : zG) (c : Nat) (T : Nat → Bool) (m : zM) : Prop := m.1 13 0 18 = Int32.ofNat (a.rno c) ∧ ∀ x, x < a.n → m.1 20 65 x = if a.str x = true ∧ a.hd x < c then Int32.ofNat (a.rl x) else if T x = true then Int32.ofNat (a.rno c) else -1
abbrev zPlb (k i j : Nat) : Prop := (k = 20 ∧ i = 65) ∨ (k = 13 ∧ i = 0 ∧ j = 18)
theorem s_str_132 (v : zGV a) (K : Int32 → zM → Option zM) {c : Nat} (hb : a.beg c = true) : ∀ (j e : Nat) (T : Nat → Bool) (m : zM), e < a.n → a.st e + 1 < j → a.str e = true → a.hd e = c → zMW a m → zRl a c T m → (∀ x, T x = true → a.str x = true ∧ a.hd x = c) → (∀ x y, T x = true → a.to x = some y → a.str y = true → a.fn y = 1 → T y = true ∨ y = e) → (c = e ∨ T c = true) →
    ∃ m', f_X12_streams_132 K j (Int32.ofNat c) (Int32.ofNat e) 1 m = K (Int32.ofNat (c + 1)) m' ∧ zFr zPlb m m' ∧ zRl a (c + 1) (fun _ => false) m' := by
  intro j
  induction j with
  | zero => intro e T m _ h; exact absurd h (Nat.not_lt_zero _)
  | succ j ih =>
    intro e T m he hj hs hh r hr hT hcl hst
    have n64 := v.n64
    have hcn := zG.beg_n hb
    unfold f_X12_streams_132
    rw [if_neg (by decide), z_gdt (z_in64 (by omega)), hr.1, zi_nat (by omega)]
    have f1 : zFr zPlb m (z_sI m 20 65 e (Int32.ofNat (a.rno c))) := zFr.sI (zFr.refl m) _ (.inl ⟨rfl, rfl⟩)
    have r1 : zMW a (z_sI m 20 65 e (Int32.ofNat (a.rno c))) := r.keep f1 fun k i j w => by unfold zPlb; omega
    have hr1 : zRl a c (fun x => T x || decide (x = e)) (z_sI m 20 65 e (Int32.ofNat (a.rno c))) := by
      refine ⟨by rw [zm_ot _ _ _ _ (by omega)]; exact hr.1, fun x hx => ?_⟩
      rw [zm_row]
      by_cases z : x = e
      · rw [if_pos z, if_neg (by rw [z, hh]; omega), if_pos (by simp [z])]
      · rw [if_neg z, hr.2 x hx]
        simp [z]
    have hT1 : ∀ x, (T x || decide (x = e)) = true → a.str x = true ∧ a.hd x = c := fun x hx => by
      rw [Bool.or_eq_true, decide_eq_true_eq] at hx
      rcases hx with w | w
      · exact hT x w
      · rw [w]; exact ⟨hs, hh⟩
    generalize z_sI m 20 65 e (Int32.ofNat (a.rno c)) = m1 at f1 r1 hr1
    rw [s_onward v r1.1 r1.2.1 he, Option.bind_some]
    have stop : ∀ u : Int32, (∀ y, a.to e = some y → a.str y = true → a.fn y ≠ 1) → ∃ m', f_X12_streams_176 K (f_X12_streams_132 K j) (Int32.ofNat c) u m1 = K (Int32.ofNat (c + 1)) m' ∧ zFr zPlb m m' ∧ zRl a (c + 1) (fun _ => false) m' := fun u hno => by
      unfold f_X12_streams_176
      obtain ⟨j', rfl⟩ : ∃ j', j = j' + 1 := ⟨j - 1, by omega⟩
      unfold f_X12_streams_132
      rw [if_pos rfl, zi_s, hr1.1, zi_s]
      have f2 : zFr zPlb m1 (z_sI m1 13 0 18 (Int32.ofNat (a.rno c + 1))) := zFr.sI (zFr.refl m1) _ (.inr ⟨rfl, rfl, rfl⟩)
      refine ⟨_, rfl, f1.trans f2, ?_, fun x hx => ?_⟩
      · rw [zm_row, if_pos rfl, zG.rno_s, if_pos hb]
      · rw [zm_ot _ _ _ _ (by omega), hr1.2 x hx]
        have all : ∀ x, x < a.n → a.str x = true → a.hd x = c → (T x || decide (x = e)) = true := zG.up v fun x hx ihx h1 h2 => by
          by_cases w : a.fn x = 1
          · obtain ⟨z, hz⟩ := zG.one_fe w
            obtain ⟨z1, z2⟩ := zG.fe_iff.mp hz
            have h3 := zG.hd1 v w hz
            have h4 := ihx z (zG.fe_n hz) z1 z2 (by rw [← h3]; exact h2)
            rw [Bool.or_eq_true, decide_eq_true_eq] at h4 ⊢
            rcases h4 with h4 | h4
            · exact hcl z x h4 z1 h1 w
            · rw [h4] at z1
              exact absurd w (hno x z1 h1)
          · rw [zG.hd0 w] at h2
            rw [h2, Bool.or_eq_true, decide_eq_true_eq]
            exact hst.symm
        by_cases w1 : a.str x = true ∧ a.hd x < c
        · rw [if_pos w1, if_pos ⟨w1.1, by omega⟩]
        · rw [if_neg w1]
          by_cases w2 : (T x || decide (x = e)) = true
          · obtain ⟨q1, q2⟩ := hT1 x w2
            rw [if_pos w2, if_pos ⟨q1, by omega⟩]
            unfold zG.rl
            rw [q2]
          · rw [if_neg w2]
            have : ¬ (a.str x = true ∧ a.hd x < c + 1) := fun ⟨q1, q2⟩ => by
              have : ¬ a.hd x < c := fun y => w1 ⟨q1, y⟩
              exact w2 (all x hx q1 (by omega))
            rw [if_neg this]
            rfl
    cases hto : a.to e with
    | none =>
      rw [zo_none, if_pos (by decide)]
      exact stop _ fun y w => by rw [hto] at w; cases w
    | some y =>
      have hy := zG.to_n v he hto
      rw [zo_some, if_neg (zi_z (by omega)), s_isStream v r1 hy, Option.bind_some]
      have fb := zG.fn_b v y
      have fp := zG.str_fn v hs hto
      cases hsy : a.str y with
      | false =>
        rw [if_pos (by decide)]
        exact stop _ fun z w1 w2 => by rw [hto] at w1; cases w1; rw [hsy] at w2; cases w2
      | true =>
        rw [if_neg (by decide)]
        unfold f_X12_isJunction
        rw [s_isStream v r1 hy, Option.bind_some, hsy, if_neg (by decide), s_feeders v r1 hy, Option.bind_some]
        by_cases w : a.fn y = 1
        · rw [if_pos (by rw [w]; decide), Option.bind_some, if_pos (by decide)]
          have h1 := zG.next_hd v hs hto w
          have h2 := zG.st1 v he hto
          obtain ⟨m', p1, p2, p3⟩ := ih y _ m1 hy (by omega) hsy (h1.trans hh) r1 hr1 hT1 (fun x z q1 q2 q3 q4 => by
            rw [Bool.or_eq_true, decide_eq_true_eq] at q1
            rcases q1 with q1 | q1
            · left
              rw [Bool.or_eq_true, decide_eq_true_eq]
              exact hcl x z q1 q2 q3 q4
            · rw [q1, hto] at q2
              cases q2
              exact .inr rfl) (by
            right
            rw [Bool.or_eq_true, decide_eq_true_eq]
            exact hst.symm)
          exact ⟨m', p1, f1.trans p2, p3⟩
        · rw [if_neg (by rw [show (1 : Int32) = Int32.ofNat 1 from rfl, zi_le (by omega) (by omega)]; omega), Option.bind_some, if_neg (by decide)]
          exact stop _ fun z w1 w2 => by rw [hto] at w1; cases w1; exact w
theorem s_str_100 (v : zGV a) : ∀ (j c : Nat) (m : zM), c ≤ a.n → a.n - c < j → zMW a m → zRl a c (fun _ => false) m → ∃ m', f_X12_streams_100 j (Int32.ofNat c) m = some m' ∧ zFr zPlb m m' ∧ zRl a a.n (fun _ => false) m'
  | 0, _, _, _, h, _, _ => absurd h (Nat.not_lt_zero _)
  | j + 1, c, m, hc, hj, r, hr => by
    have n64 := v.n64
    unfold f_X12_streams_100
    rw [s_mcells r.1, Option.bind_some]
    by_cases he : c = a.n
    · subst he
      rw [if_pos (by rw [zi_le (by omega) (by omega)]; omega)]
      exact ⟨m, rfl, zFr.refl m, hr⟩
    · have hcn : c < a.n := by omega
      have hj2 : a.n - (c + 1) < j := by omega
      have fb := zG.fn_b v c
      rw [if_neg (by rw [zi_le (by omega) (by omega)]; omega), s_isStream v r hcn, Option.bind_some, zi_s]
      have skip : a.beg c = false → ∃ m', f_X12_streams_100 j (Int32.ofNat (c + 1)) m = some m' ∧ zFr zPlb m m' ∧ zRl a a.n (fun _ => false) m' := fun w => by
        refine s_str_100 v j (c + 1) m hcn hj2 r ⟨?_, fun x hx => ?_⟩
        · rw [hr.1, zG.rno_s, w]; rfl
        · rw [hr.2 x hx]
          have : (a.str x = true ∧ a.hd x < c) ↔ (a.str x = true ∧ a.hd x < c + 1) := by
            constructor
            · exact fun q => ⟨q.1, by omega⟩
            · rintro ⟨q1, q2⟩
              refine ⟨q1, ?_⟩
              by_cases z : a.hd x = c
              · have := zG.hd_beg v x hx q1
                rw [z, w] at this
                cases this
              · omega
          simp [this]
      cases hs : a.str c with
      | false =>
        rw [if_pos (by decide)]
        exact skip (by unfold zG.beg; rw [hs]; rfl)
      | true =>
        rw [if_neg (by decide), s_feeders v r hcn, Option.bind_some]
        by_cases w : a.fn c = 1
        · rw [if_pos (by rw [w]; rfl)]
          exact skip (by unfold zG.beg; rw [w]; simp)
        · rw [if_neg (by rw [show (1 : Int32) = Int32.ofNat 1 from rfl, zi_eq (by omega) (by omega)]; exact w)]
          have hb : a.beg c = true := zG.beg_iff.mpr ⟨hs, w⟩
          have st := zG.st_lt v hcn
          obtain ⟨m1, p1, p2, p3⟩ := s_str_132 v (f_X12_streams_100 j) hb zF c (fun _ => false) m hcn (zF_lt (by omega)) hs (zG.beg_hd hb) r hr (fun x w => by cases w) (fun x y w => by cases w) (.inl rfl)
          rw [p1]
          obtain ⟨m', q1, q2, q3⟩ := s_str_100 v j (c + 1) m1 hcn hj2 (r.keep p2 fun k i j w => by unfold zPlb; omega) p3
          exact ⟨m', q1, p2.trans q2, q3⟩
/-- the reference's streams -/
def zMs (a : zG) (m : zM) : Prop := m.1 13 0 18 = Int32.ofNat (a.rno a.n) ∧ ∀ x, x < a.n → m.1 20 65 x = (if a.str x = true then Int32.ofNat (a.rl x) else -1) ∧ m.1 20 64 x = if a.str x = true then Int32.ofNat (a.or x) else 0
theorem s_str_39 (v : zGV a) : ∀ (j q : Nat) (m : zM), q ≤ a.n + 1 → q < j → zMW a m → (∀ x, x < a.n → m.1 20 64 x = if a.str x = true ∧ q ≤ a.st x then Int32.ofNat (a.or x) else 0) → (∀ x, x < a.n → m.1 20 65 x = -1) → ∃ m', f_X12_streams_39 j (zy q) m = some m' ∧ zFr zPsr m m' ∧ zMs a m'
  | 0, _, _, _, h, _, _, _ => absurd h (Nat.not_lt_zero _)
  | j + 1, q, m, hq, hj, r, ho, hl => by
    have n64 := v.n64
    unfold f_X12_streams_39
    cases q with
    | zero =>
      rw [if_pos (show zy 0 < 0 by decide)]
      have f1 : zFr zPlb m (z_sI m 13 0 18 0) := zFr.sI (zFr.refl m) _ (.inr ⟨rfl, rfl, rfl⟩)
      obtain ⟨m', p1, p2, p3⟩ := s_str_100 v zF 0 (z_sI m 13 0 18 0) (Nat.zero_le _) (zF_lt (by omega)) (r.keep f1 fun k i j w => by unfold zPlb; omega) ⟨by rw [zm_row, if_pos rfl]; rfl, fun x hx => by rw [zm_ot _ _ _ _ (by omega), hl x hx, if_neg (fun w => Nat.not_lt_zero _ w.2), if_neg Bool.false_ne_true]⟩
      have f2 := f1.trans p2
      refine ⟨m', p1, f2.mono fun k i j w => by unfold zPlb at w; unfold zPsr; omega, p3.1, fun x hx => ⟨?_, ?_⟩⟩
      · rw [p3.2 x hx]
        by_cases w : a.str x = true
        · have := zG.beg_n (zG.hd_beg v x hx w)
          rw [if_pos ⟨w, this⟩, if_pos w]
        · rw [if_neg (fun z => w z.1), if_neg w, if_neg Bool.false_ne_true]
      · rw [(f2 20 64 x (by unfold zPlb; omega)).1, ho x hx]
        simp
    | succ q =>
      rw [show zy (q + 1) = Int32.ofNat q from rfl, if_neg (zi_z (by omega))]
      obtain ⟨m1, p1, p2, p3, p4⟩ := s_str_45 v (f_X12_streams_39 j) (show q ≤ 64 by omega) zF 0 m (Nat.zero_le _) (zF_lt (by omega)) r (fun x hx => by
        rw [ho x hx]
        have : (q + 1 ≤ a.st x) ↔ (q < a.st x ∨ (a.st x = q ∧ x < 0)) := by omega
        simp only [this]) hl
      rw [show (0 : Int32) = Int32.ofNat 0 from rfl, p1]
      obtain ⟨m', q1, q2, q3⟩ := s_str_39 v j q m1 (by omega) (by omega) (r.keep p2 fun k i j w => by unfold zPsr; omega) (fun x hx => by
        rw [p3 x hx]
        have : (q < a.st x ∨ (a.st x = q ∧ x < a.n)) ↔ q ≤ a.st x := by omega
        simp only [this]) p4
      exact ⟨m', q1, p2.trans q2, q3⟩
theorem s_str_6 (v : zGV a) : ∀ (j c : Nat) (m : zM), c ≤ a.n → a.n - c < j → zMW a m → (∀ x, x < c → m.1 20 64 x = 0 ∧ m.1 20 65 x = -1) → ∃ m', f_X12_streams_6 j (Int32.ofNat c) m = some m' ∧ zFr zPsr m m' ∧ zMs a m'
  | 0, _, _, _, h, _, _ => absurd h (Nat.not_lt_zero _)
  | j + 1, c, m, hc, hj, r, ho => by
    have n64 := v.n64
    unfold f_X12_streams_6
    rw [s_mcells r.1, Option.bind_some]
    by_cases he : c = a.n
    · subst he
      rw [if_pos (by rw [zi_le (by omega) (by omega)]; omega), Option.bind_some]
      exact s_str_39 v zF (a.n + 1) m (Nat.le_refl _) (zF_lt (by omega)) r (fun x hx => by
        have := zG.st_lt v hx
        rw [(ho x hx).1, if_neg (by omega)]) fun x hx => (ho x hx).2
    · have hcn : c < a.n := by omega
      have hj2 : a.n - (c + 1) < j := by omega
      rw [if_neg (by rw [zi_le (by omega) (by omega)]; omega), z_gdt (z_in64 (by omega)), zi_nat (by omega), zi_s]
      have f1 : zFr zPsr m (z_sI (z_sI m 20 64 c 0) 20 65 c (-1)) := zFr.sI (zFr.sI (zFr.refl m) _ (.inl ⟨rfl, .inl rfl⟩)) _ (.inl ⟨rfl, .inr rfl⟩)
      obtain ⟨m', p1, p2, p3⟩ := s_str_6 v j (c + 1) _ hcn hj2 (r.keep f1 fun k i j w => by unfold zPsr; omega) fun x hx => by
        rw [zm_ot _ _ _ _ (by omega), zm_row, zm_row, zm_ot _ _ _ _ (by omega)]
        by_cases z : x = c
        · rw [if_pos z, if_pos z]; exact ⟨rfl, rfl⟩
        · rw [if_neg z, if_neg z]; exact ho x (by omega)
      exact ⟨m', p1, f1.trans p2, p3⟩
abbrev zPst (k i j : Nat) : Prop := (k = 20 ∧ 59 ≤ i ∧ i ≤ 65) ∨ (k = 13 ∧ i = 0 ∧ j = 18)
theorem s_mstreams (v : zGV a) {m : zM} (r : zMR (m.1 23 0) a) : ∃ m', f_X12_streams m = some m' ∧ zFr zPst m m' ∧ zML a m' ∧ zMW a m' ∧ zMs a m' := by
  have n64 := v.n64
  unfold f_X12_streams
  obtain ⟨m1, p1, p2, p3, p4⟩ := s_mwaters v r
  rw [p1, Option.bind_some]
  have r1 : zMW a m1 := ⟨by rw [p2.row (fun j => by unfold zPwa; omega)]; exact r, p3.f, p4⟩
  obtain ⟨m', q1, q2, q3⟩ := s_str_6 v zF 0 m1 (Nat.zero_le _) (zF_lt (by omega)) r1 fun x w => absurd w (Nat.not_lt_zero _)
  refine ⟨m', q1, (p2.mono fun k i j w => by unfold zPwa at w; unfold zPst; omega).trans (q2.mono fun k i j w => by unfold zPsr at w; unfold zPst; omega), ⟨⟨fun d hd => ?_, fun d hd => ?_⟩, fun d hd => ⟨?_, ?_⟩⟩, r1.keep q2 fun k i j w => by unfold zPsr; omega, q3⟩
  · rw [(q2 20 59 d (by unfold zPsr; omega)).1]; exact p3.1.1 d hd
  · rw [(q2 20 60 d (by unfold zPsr; omega)).1]; exact p3.1.2 d hd
  · rw [(q2 20 61 d (by unfold zPsr; omega)).1]; exact (p3.2 d hd).1
  · rw [(q2 20 62 d (by unfold zPsr; omega)).1]; exact (p3.2 d hd).2
end
