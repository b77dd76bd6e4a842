/-! Streams: orders. -/
theorem z_grt_ub {f : Nat → Nat} {S : Nat → Bool} : ∀ {n e : Nat}, e < n → S e = true → f e ≤ z_grt f S n
  | 0, _, h, _ => absurd h (Nat.not_lt_zero _)
  | n + 1, e, h, hs => by
    unfold z_grt
    by_cases q : e = n
    · subst q
      rw [if_pos hs]
      exact Nat.le_max_right _ _
    · have := z_grt_ub (f := f) (n := n) (e := e) (by omega) hs
      split <;> omega
theorem z_grt_at {f : Nat → Nat} {S : Nat → Bool} : ∀ {n : Nat}, z_grt f S n = 0 ∨ ∃ e, e < n ∧ S e = true ∧ f e = z_grt f S n
  | 0 => .inl rfl
  | n + 1 => by
    have ih := z_grt_at (f := f) (S := S) (n := n)
    unfold z_grt
    by_cases hs : S n = true
    · rw [if_pos hs]
      by_cases q : z_grt f S n ≤ f n
      · exact .inr ⟨n, by omega, hs, by omega⟩
      · rcases ih with h | ⟨e, h1, h2, h3⟩
        · omega
        · exact .inr ⟨e, by omega, h2, by omega⟩
    · rw [if_neg hs]
      rcases ih with h | ⟨e, h1, h2, h3⟩
      · exact .inl h
      · exact .inr ⟨e, by omega, h2, h3⟩
theorem z_grt_ext {f g : Nat → Nat} {S T : Nat → Bool} : ∀ {n : Nat}, (∀ e, e < n → S e = T e) → (∀ e, e < n → S e = true → f e = g e) → z_grt f S n = z_grt g T n
  | 0, _, _ => rfl
  | n + 1, h1, h2 => by
    unfold z_grt
    rw [z_grt_ext (n := n) (fun e he => h1 e (by omega)) fun e he => h2 e (by omega), ← h1 n (by omega)]
    cases hs : S n with
    | false => rfl
    | true => rw [h2 n (by omega) hs]
/-- g is the greatest of a set's values, q of its members have it -/
def zMx (o : Nat → Nat) (S : Nat → Bool) (n g q : Nat) : Prop := (∀ e, e < n → S e = true → o e ≤ g) ∧ q = z_cnt (fun e => S e && decide (o e = g)) n ∧ (g = 0 ∨ 0 < q)
theorem z_cnt_pos {p : Nat → Bool} {n : Nat} : 0 < z_cnt p n ↔ ∃ e, e < n ∧ p e = true := by
  constructor
  · intro h
    refine Classical.byContradiction fun q => ?_
    have : z_cnt p n = 0 := z_cnt_0.mpr fun c hc => by
      cases w : p c with
      | false => rfl
      | true => exact absurd ⟨c, hc, w⟩ q
    omega
  · rintro ⟨e, h1, h2⟩
    refine Nat.pos_of_ne_zero fun q => ?_
    have := z_cnt_0.mp q e h1
    rw [h2] at this
    cases this
theorem zMx.uniq {o : Nat → Nat} {S : Nat → Bool} {n g q g' q' : Nat} (h : zMx o S n g q) (h' : zMx o S n g' q') : g = g' ∧ q = q' := by
  have key : ∀ {g q g' q'}, zMx o S n g q → zMx o S n g' q' → g' ≤ g := fun {g q g' q'} h h' => by
    rcases h'.2.2 with w | w
    · omega
    · rw [h'.2.1] at w
      obtain ⟨e, h1, h2⟩ := z_cnt_pos.mp w
      rw [Bool.and_eq_true, decide_eq_true_eq] at h2
      have := h.1 e h1 h2.1
      omega
  have e := Nat.le_antisymm (key h' h) (key h h')
  subst e
  exact ⟨rfl, h.2.1.trans h'.2.1.symm⟩
theorem zMx.grt {o : Nat → Nat} {S : Nat → Bool} {n : Nat} : zMx o S n (z_grt o S n) (z_cnt (fun e => S e && decide (o e = z_grt o S n)) n) :=
  ⟨fun e h1 h2 => z_grt_ub h1 h2, rfl, (z_grt_at (f := o) (S := S) (n := n)).imp id fun ⟨e, h1, h2, h3⟩ => z_cnt_pos.mpr ⟨e, h1, by simp [h2, h3]⟩⟩
theorem zMx.ext {o : Nat → Nat} {S T : Nat → Bool} {n g q : Nat} (h : zMx o S n g q) (e : ∀ x, x < n → S x = T x) : zMx o T n g q :=
  ⟨fun x h1 h2 => h.1 x h1 (by rw [e x h1]; exact h2), h.2.1.trans (z_cnt_ext fun x hx => by rw [e x hx]), h.2.2⟩
theorem zMx.nil {o : Nat → Nat} {S : Nat → Bool} {n : Nat} (h : ∀ x, x < n → S x = false) : zMx o S n 0 0 :=
  ⟨fun x h1 h2 => (by rw [h x h1] at h2; cases h2), (z_cnt_0.mpr fun x hx => by rw [h x hx]; rfl).symm, .inl rfl⟩
theorem zMx.ins {o : Nat → Nat} {S T : Nat → Bool} {n g q e : Nat} (h : zMx o S n g q) (he : e < n) (h0 : S e = false) (h1 : T e = true) (hx : ∀ x, x < n → x ≠ e → S x = T x) :
    zMx o T n (max g (o e)) (if g < o e then 1 else if o e = g then q + 1 else q) := by
  have mem : ∀ x, x < n → T x = true → x = e ∨ S x = true := fun x h2 h3 => by
    by_cases w : x = e
    · exact .inl w
    · exact .inr (by rw [hx x h2 w]; exact h3)
  by_cases w1 : g < o e
  · rw [if_pos w1, Nat.max_eq_right (by omega)]
    refine ⟨fun x h2 h3 => ?_, ?_, .inr (by omega)⟩
    · rcases mem x h2 h3 with w | w
      · rw [w]; exact Nat.le_refl _
      · have := h.1 x h2 w; omega
    · rw [z_cnt_one (p := fun _ => false) (q := fun x => T x && decide (o x = o e)) he (fun x h2 h3 => ?_) rfl (by simp [h1]), z_cnt_0.mpr fun _ _ => rfl]
      cases w : T x with
      | false => rfl
      | true =>
        have := h.1 x h2 (by rw [hx x h2 h3]; exact w)
        simp
        omega
  · rw [if_neg w1, Nat.max_eq_left (by omega)]
    refine ⟨fun x h2 h3 => ?_, ?_, ?_⟩
    · rcases mem x h2 h3 with w | w
      · rw [w]; omega
      · exact h.1 x h2 w
    · by_cases w2 : o e = g
      · rw [if_pos w2, z_cnt_one (p := fun x => S x && decide (o x = g)) (q := fun x => T x && decide (o x = g)) he (fun x h2 h3 => by rw [hx x h2 h3]) (by simp [h0]) (by simp [h1, w2]), h.2.1]
      · rw [if_neg w2, h.2.1]
        refine z_cnt_ext fun x h2 => ?_
        by_cases w3 : x = e
        · simp [w3, w2]
        · rw [hx x h2 w3]
    · rcases h.2.2 with w | w
      · exact .inl w
      · right
        split <;> omega
noncomputable def zG.str (a : zG) (c : Nat) : Bool := decide (c < a.n ∧ a.thr ≤ a.wa c)
/-- stream cells that flow to a cell -/
noncomputable def zG.fe (a : zG) (c e : Nat) : Bool := decide (a.to e = some c) && a.str e
noncomputable def zG.orf (a : zG) : Nat → Nat → Nat
  | 0, _ => 0
  | j + 1, c => if z_cnt (fun e => a.fe c e && decide (a.orf j e = z_grt (a.orf j) (a.fe c) a.n)) a.n = 1 then z_grt (a.orf j) (a.fe c) a.n else z_grt (a.orf j) (a.fe c) a.n + 1
noncomputable def zG.or (a : zG) (c : Nat) : Nat := a.orf (6400 - a.mu c + 1) c
noncomputable def zG.gr (a : zG) (c : Nat) : Nat := z_grt a.or (a.fe c) a.n
noncomputable def zG.gn (a : zG) (c : Nat) : Nat := z_cnt (fun e => a.fe c e && decide (a.or e = a.gr c)) a.n
noncomputable def zG.fn (a : zG) (c : Nat) : Nat := z_cnt (a.fe c) a.n
section
variable {a : zG}
theorem zG.str_iff {c : Nat} : a.str c = true ↔ c < a.n ∧ a.thr ≤ a.wa c := by
  unfold zG.str
  rw [decide_eq_true_eq]
theorem zG.fe_iff {c e : Nat} : a.fe c e = true ↔ a.to e = some c ∧ a.str e = true := by
  unfold zG.fe
  rw [Bool.and_eq_true, decide_eq_true_eq]
theorem zG.orf_eq (v : zGV a) : ∀ (j k c : Nat), c < a.n → 6400 - a.mu c < j → 6400 - a.mu c < k → a.orf j c = a.orf k c := by
  intro j
  induction j with
  | zero => intro k c _ h; exact absurd h (Nat.not_lt_zero _)
  | succ j ih =>
    intro k c hc h1 h2
    obtain ⟨k, rfl⟩ : ∃ k', k = k' + 1 := ⟨k - 1, by omega⟩
    have key : ∀ e, a.fe c e = true → a.orf j e = a.orf k e := fun e he => by
      obtain ⟨w1, w2⟩ := zG.fe_iff.mp he
      have he' := (zG.str_iff.mp w2).1
      have q1 := zG.to_mu v he' w1
      have q2 := zG.mu_b v he'
      exact ih k e he' (by omega) (by omega)
    have e1 : z_grt (a.orf j) (a.fe c) a.n = z_grt (a.orf k) (a.fe c) a.n := z_grt_ext (fun _ _ => rfl) fun e _ he => key e he
    have e2 : z_cnt (fun e => a.fe c e && decide (a.orf j e = z_grt (a.orf k) (a.fe c) a.n)) a.n = z_cnt (fun e => a.fe c e && decide (a.orf k e = z_grt (a.orf k) (a.fe c) a.n)) a.n := z_cnt_ext fun e _ => by
      cases w : a.fe c e with
      | false => rfl
      | true => rw [key e w]
    unfold zG.orf
    rw [e1, e2]
theorem zG.or_eq (v : zGV a) {c : Nat} (hc : c < a.n) : a.or c = if a.gn c = 1 then a.gr c else a.gr c + 1 := by
  have key : ∀ e, a.fe c e = true → a.orf (6400 - a.mu c) e = a.or e := fun e he => by
    obtain ⟨w1, w2⟩ := zG.fe_iff.mp he
    have he' := (zG.str_iff.mp w2).1
    have q1 := zG.to_mu v he' w1
    have q2 := zG.mu_b v he'
    exact zG.orf_eq v _ _ e he' (by omega) (by omega)
  have e1 : z_grt (a.orf (6400 - a.mu c)) (a.fe c) a.n = a.gr c := z_grt_ext (fun _ _ => rfl) fun e _ he => key e he
  have e2 : z_cnt (fun e => a.fe c e && decide (a.orf (6400 - a.mu c) e = a.gr c)) a.n = a.gn c := z_cnt_ext fun e _ => by
    cases w : a.fe c e with
    | false => rfl
    | true => rw [key e w]
  show (if z_cnt (fun e => a.fe c e && decide (a.orf (6400 - a.mu c) e = z_grt (a.orf (6400 - a.mu c)) (a.fe c) a.n)) a.n = 1 then z_grt (a.orf (6400 - a.mu c)) (a.fe c) a.n else z_grt (a.orf (6400 - a.mu c)) (a.fe c) a.n + 1) = _
  rw [e1, e2]
theorem zG.mx (c : Nat) : zMx a.or (a.fe c) a.n (a.gr c) (a.gn c) := zMx.grt
theorem zG.or_pos (v : zGV a) : ∀ c, c < a.n → 1 ≤ a.or c :=
  zG.up v fun c hc ih => by
    rw [zG.or_eq v hc]
    by_cases w : a.gn c = 1
    · rw [if_pos w]
      obtain ⟨e, h1, h2⟩ := z_cnt_pos.mp (show 0 < a.gn c by omega)
      rw [Bool.and_eq_true, decide_eq_true_eq] at h2
      have := ih e h1 (zG.fe_iff.mp h2.1).1
      omega
    · rw [if_neg w]
      omega
theorem zG.or_hi (v : zGV a) : ∀ c, c < a.n → a.or c ≤ a.hi c + 1 :=
  zG.up v fun c hc ih => by
    have : a.gr c ≤ a.hi c := by
      rcases (zG.mx (a := a) c).2.2 with w | w
      · omega
      · rw [(zG.mx (a := a) c).2.1] at w
        obtain ⟨e, h1, h2⟩ := z_cnt_pos.mp w
        rw [Bool.and_eq_true, decide_eq_true_eq] at h2
        have ht := (zG.fe_iff.mp h2.1).1
        have h3 := ih e h1 ht
        have h4 := zG.hi_to v h1 ht
        omega
    rw [zG.or_eq v hc]
    split <;> omega
theorem zG.or_b (v : zGV a) {c : Nat} (hc : c < a.n) : a.or c ≤ 64 := by
  have h1 := zG.or_hi v c hc
  have h2 := zG.hi_lt hc
  have := v.n64
  omega
theorem zG.fn_b (v : zGV a) (c : Nat) : a.fn c ≤ 64 := Nat.le_trans (z_cnt_le _ _) v.n64
theorem zG.fe_some {c e : Nat} (h : a.to e = some c) : a.fe c e = a.str e := by
  unfold zG.fe
  rw [h]
  simp
/-! The reference's orders. -/
variable {m : zM}
def zMW (a : zG) (m : zM) : Prop := zMR (m.1 23 0) a ∧ zMF a m ∧ ∀ d, d < a.n → m.1 20 63 d = Int32.ofNat (a.wa d)
theorem s_isStream (v : zGV a) (h : zMW a m) {c : Nat} (hc : c < a.n) : f_X12_isStream (Int32.ofNat c) m = some (a.str c) := by
  have n64 := v.n64
  have h1 := zG.wa_b v hc
  have h2 := v.t99
  unfold f_X12_isStream
  rw [z_gdt (z_in64 (by omega)), z_gdt z_i2, z_c2n, h.1.thr, zi_nat (by omega), h.2.2 c hc]
  by_cases w : a.wa c < a.thr
  · rw [if_pos (by rw [zi_lt (by omega) (by omega)]; exact w)]
    have : a.str c = false := by
      cases q : a.str c with
      | false => rfl
      | true => have := (zG.str_iff.mp q).2; omega
    rw [this]
  · rw [if_neg (by rw [zi_lt (by omega) (by omega)]; exact w), zG.str_iff.mpr ⟨hc, by omega⟩]
theorem s_feeders_4 (v : zGV a) (h : zMW a m) {c : Nat} (hc : c < a.n) : ∀ (j d : Nat), d ≤ 4 → 4 - d < j → f_X12_feeders_4 m j (Int32.ofNat c) (Int32.ofNat (z_cnt (fun e => a.fs c d e && a.str e) a.n)) (Int32.ofNat d) = some (Int32.ofNat (a.fn c))
  | 0, _, _, h => absurd h (Nat.not_lt_zero _)
  | j + 1, d, hd, hj => by
    have n64 := v.n64
    unfold f_X12_feeders_4
    rw [show (4 : Int32) = Int32.ofNat 4 from rfl]
    by_cases he : d = 4
    · subst he
      rw [if_pos (by rw [zi_le (by omega) (by omega)]; omega)]
      congr 2
      exact z_cnt_ext fun e he => by rw [zG.fs4 v he]; rfl
    · have ih := s_feeders_4 v h hc j (d + 1) (by omega) (by omega)
      rw [if_neg (by rw [zi_le (by omega) (by omega)]; omega), s_next v h.1 hc (by omega), Option.bind_some, zi_s]
      cases hn : a.nb c d with
      | none =>
        rw [if_pos (show zo none < 0 by decide), ← ih, z_cnt_ext (q := fun e => a.fs c (d + 1) e && a.str e) fun e _ => by rw [zG.fs_none hn]]
      | some e =>
        have hen := zG.nb_n v hc hn
        have heq := zo_eq (zG.to_b v hen) (show c < 2147483648 by omega)
        rw [zo_some, if_neg (zi_z (by omega)), Option.bind_some, s_isStream v h hen, Option.bind_some, Option.bind_some, s_onward v h.1 h.2.1 hen, Option.bind_some]
        by_cases ht : a.to e = some c
        · obtain ⟨g1, g2, g3⟩ := zG.fs_yes v hc (by omega) hn ht
          rw [if_pos (heq.mpr ht)]
          cases hs : a.str e with
          | false =>
            rw [if_pos (by decide), ← ih, z_cnt_ext (q := fun e => a.fs c (d + 1) e && a.str e) fun x _ => ?_]
            by_cases q : x = e
            · rw [q, hs]; simp
            · rw [g1 x q]
          | true =>
            rw [if_neg (by decide), zi_s, ← ih, z_cnt_one (p := fun e => a.fs c d e && a.str e) (q := fun e => a.fs c (d + 1) e && a.str e) hen (fun x _ q => by rw [g1 x q]) (by simp [g2]) (by simp [g3, hs])]
        · rw [if_neg (mt heq.mp ht), ite_self, ← ih, z_cnt_ext (q := fun e => a.fs c (d + 1) e && a.str e) fun x _ => by rw [zG.fs_no hn ht]]
theorem s_feeders (v : zGV a) (h : zMW a m) {c : Nat} (hc : c < a.n) : f_X12_feeders (Int32.ofNat c) m = some (Int32.ofNat (a.fn c)) := by
  have := s_feeders_4 v h hc zF 0 (by omega) (zF_lt (by omega))
  rw [z_cnt_0.mpr fun e _ => by simp [zG.fs, zG.nbs]] at this
  exact this
theorem s_orderBy_7 (v : zGV a) (h : zMW a m) {c : Nat} (hc : c < a.n) (ho : ∀ e, e < a.n → a.fe c e = true → m.1 20 64 e = Int32.ofNat (a.or e)) : ∀ (j d g q : Nat), d ≤ 4 → 4 - d < j → g ≤ 64 → q ≤ d → zMx a.or (fun e => a.fs c d e && a.str e) a.n g q → f_X12_orderBy_7 m j (Int32.ofNat c) (Int32.ofNat g) (Int32.ofNat q) (Int32.ofNat d) = some (Int32.ofNat (a.or c))
  | 0, _, _, _, _, h, _, _, _ => absurd h (Nat.not_lt_zero _)
  | j + 1, d, g, q, hd, hj, hg, hq, hm => by
    have n64 := v.n64
    unfold f_X12_orderBy_7
    rw [show (4 : Int32) = Int32.ofNat 4 from rfl]
    by_cases he : d = 4
    · subst he
      rw [if_pos (by rw [zi_le (by omega) (by omega)]; omega)]
      obtain ⟨e1, e2⟩ := (hm.ext (T := a.fe c) fun e he => by rw [zG.fs4 v he]; rfl).uniq (zG.mx c)
      have h1 := zG.or_eq v hc
      have h2 := zG.or_pos v c hc
      rw [← e1, ← e2] at h1
      rw [h1]
      by_cases w : g = 0
      · rw [if_pos (by rw [w]; rfl)]
        rw [w] at h1 ⊢
        by_cases w2 : q = 1
        · rw [if_pos w2] at h1
          omega
        · rw [if_neg w2]
          rfl
      · rw [if_neg (by rw [zi_0 (by omega)]; exact w)]
        have := hm.2.2.resolve_left w
        by_cases w2 : q = 1
        · rw [if_pos (by rw [show (1 : Int32) = Int32.ofNat 1 from rfl, zi_le (by omega) (by omega)]; omega), if_pos w2, Int32.add_zero]
        · rw [if_neg (by rw [show (1 : Int32) = Int32.ofNat 1 from rfl, zi_le (by omega) (by omega)]; omega), if_neg w2, zi_s]
    · have hj2 : d + 1 ≤ 4 ∧ 4 - (d + 1) < j := by omega
      rw [if_neg (by rw [zi_le (by omega) (by omega)]; omega), s_next v h.1 hc (by omega), Option.bind_some, zi_s]
      have skip : (∀ e, e < a.n → (a.fs c d e && a.str e) = (a.fs c (d + 1) e && a.str e)) → f_X12_orderBy_7 m j (Int32.ofNat c) (Int32.ofNat g) (Int32.ofNat q) (Int32.ofNat (d + 1)) = some (Int32.ofNat (a.or c)) := fun w =>
        s_orderBy_7 v h hc ho j (d + 1) g q hj2.1 hj2.2 hg (by omega) (hm.ext w)
      cases hn : a.nb c d with
      | none =>
        rw [if_pos (show zo none < 0 by decide)]
        exact skip fun e _ => by rw [zG.fs_none hn]
      | some e =>
        have hen := zG.nb_n v hc hn
        have heq := zo_eq (zG.to_b v hen) (show c < 2147483648 by omega)
        rw [zo_some, if_neg (zi_z (by omega)), s_isStream v h hen, Option.bind_some, s_onward v h.1 h.2.1 hen, Option.bind_some]
        by_cases ht : a.to e = some c
        · obtain ⟨g1, g2, g3⟩ := zG.fs_yes v hc (by omega) hn ht
          rw [if_pos (heq.mpr ht)]
          cases hs : a.str e with
          | false =>
            rw [if_pos (by decide)]
            refine skip fun x _ => ?_
            by_cases y : x = e
            · rw [y, hs]; simp
            · rw [g1 x y]
          | true =>
            have ob := zG.or_b v hen
            have hm2 := hm.ins (T := fun e => a.fs c (d + 1) e && a.str e) hen (by simp [g2]) (by simp [g3, hs]) fun x _ y => by rw [g1 x y]
            rw [if_neg (by decide), z_gdt (z_in64 (by omega)), zi_nat (by omega), ho e hen (zG.fe_iff.mpr ⟨ht, hs⟩)]
            have fin : ∀ q', q' = (if g < a.or e then 1 else if a.or e = g then q + 1 else q) → f_X12_orderBy_76 m (f_X12_orderBy_7 m j) (Int32.ofNat c) (Int32.ofNat g) (Int32.ofNat q') (Int32.ofNat d) (Int32.ofNat e) = some (Int32.ofNat (a.or c)) := fun q' hq' => by
              unfold f_X12_orderBy_76
              rw [z_gdt (z_in64 (by omega)), zi_nat (by omega), ho e hen (zG.fe_iff.mpr ⟨ht, hs⟩), z_max (by omega) (by omega), Option.bind_some, zi_s]
              refine s_orderBy_7 v h hc ho j (d + 1) _ _ hj2.1 hj2.2 (by omega) ?_ (hq' ▸ hm2)
              rw [hq']
              split
              · omega
              · split <;> omega
            have f63 : ∀ q', q' = (if a.or e = g then q + 1 else q) → f_X12_orderBy_63 m (f_X12_orderBy_7 m j) (Int32.ofNat c) (Int32.ofNat g) (Int32.ofNat q') (Int32.ofNat d) (Int32.ofNat e) = some (Int32.ofNat (a.or c)) := fun q' hq' => by
              unfold f_X12_orderBy_63
              rw [z_gdt (z_in64 (by omega)), zi_nat (by omega), ho e hen (zG.fe_iff.mpr ⟨ht, hs⟩)]
              by_cases w : g < a.or e
              · rw [if_neg (by rw [zi_le (by omega) (by omega)]; omega)]
                exact fin 1 (by rw [if_pos w])
              · rw [if_pos (by rw [zi_le (by omega) (by omega)]; omega)]
                exact fin q' (by rw [if_neg w]; exact hq')
            by_cases w : a.or e = g
            · rw [if_pos (by rw [w]), zi_s]
              exact f63 _ (by rw [if_pos w])
            · rw [if_neg (by rw [zi_eq (by omega) (by omega)]; exact w)]
              exact f63 _ (by rw [if_neg w])
        · rw [if_neg (mt heq.mp ht), ite_self]
          exact skip fun x _ => by rw [zG.fs_no hn ht]
theorem s_orderBy (v : zGV a) (h : zMW a m) {c : Nat} (hc : c < a.n) (ho : ∀ e, e < a.n → a.fe c e = true → m.1 20 64 e = Int32.ofNat (a.or e)) : f_X12_orderBy (Int32.ofNat c) m = some (Int32.ofNat (a.or c)) :=
  s_orderBy_7 v h hc ho zF 0 0 0 (by omega) (zF_lt (by omega)) (by omega) (by omega) (zMx.nil fun e _ => by simp [zG.fs, zG.nbs])
end
