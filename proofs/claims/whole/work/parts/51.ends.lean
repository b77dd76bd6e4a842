/-! Where flows end: they go down, so they end. -/
noncomputable def zG.mu (a : zG) (c : Nat) : Nat := 64 * a.lv c + a.rk c
noncomputable def zG.stf (a : zG) : Nat → Nat → Nat
  | 0, _ => 0
  | j + 1, c => match a.to c with
    | none => 0
    | some e => a.stf j e + 1
noncomputable def zG.mof (a : zG) : Nat → Nat → Nat
  | 0, c => c
  | j + 1, c => match a.to c with
    | none => c
    | some e => a.mof j e
noncomputable def zG.st (a : zG) (c : Nat) : Nat := a.stf (a.mu c + 1) c
noncomputable def zG.mo (a : zG) (c : Nat) : Nat := a.mof (a.mu c + 1) c
noncomputable def zG.go (a : zG) : Nat → Nat → Option Nat
  | 0, c => some c
  | k + 1, c => (a.to c).bind (a.go k)
section
variable {a : zG}
theorem zG.dr_ch {c d : Nat} : ∀ i, i ≤ 4 → a.dr c i = some d → d < 4 ∧ a.ch c d = true
  | 0, _, h => by cases h
  | i + 1, hi, h => by
    unfold zG.dr at h
    by_cases q : a.ch c (3 - i) = true
    · rw [if_pos q] at h
      cases h
      exact ⟨by omega, q⟩
    · rw [if_neg q] at h
      exact zG.dr_ch i (by omega) h
theorem zG.dr_some {c d : Nat} (hd : d < 4) (h : a.ch c d = true) : ∀ i, 3 - d < i → a.dr c i ≠ none
  | 0, q => absurd q (Nat.not_lt_zero _)
  | i + 1, q => by
    unfold zG.dr
    by_cases w : a.ch c (3 - i) = true
    · rw [if_pos w]
      intro y; cases y
    · rw [if_neg w]
      refine zG.dr_some hd h i ?_
      by_cases y : d = 3 - i
      · exact absurd (y ▸ h) w
      · omega
theorem zG.ch_nb {c d : Nat} (h : a.ch c d = true) : ∃ e, a.nb c d = some e ∧ ((a.fla c = true ∧ a.rk e = a.rk c - 1 ∧ a.lv e = a.lv c) ∨ (a.fla c = false ∧ a.lv e = a.la c 4)) := by
  unfold zG.ch at h
  cases hn : a.nb c d with
  | none => rw [hn] at h; cases h
  | some e =>
    rw [hn] at h
    refine ⟨e, rfl, ?_⟩
    by_cases q : a.fla c = true
    · simp only [q, if_true, decide_eq_true_eq] at h
      exact .inl ⟨q, h⟩
    · have q' : a.fla c = false := by cases w : a.fla c <;> simp_all
      simp only [q', Bool.false_eq_true, if_false, decide_eq_true_eq] at h
      exact .inr ⟨q', h⟩
theorem zG.fd_lt {c d : Nat} (h : a.fd c = some d) : d < 4 ∧ a.ou c = false ∧ ∃ e, a.nb c d = some e ∧ a.to c = some e := by
  have h0 := h
  unfold zG.fd at h
  by_cases ho : a.ou c = true
  · rw [if_pos ho] at h; cases h
  · rw [if_neg ho] at h
    have h1 := zG.dr_ch 4 (Nat.le_refl _) h
    obtain ⟨e, h2, _⟩ := zG.ch_nb h1.2
    refine ⟨h1.1, by cases w : a.ou c <;> simp_all, e, h2, ?_⟩
    unfold zG.to
    rw [h0]
    exact h2
theorem zG.to_fd {c e : Nat} (h : a.to c = some e) : ∃ d, a.fd c = some d ∧ d < 4 ∧ a.nb c d = some e := by
  unfold zG.to at h
  cases hf : a.fd c with
  | none => rw [hf] at h; cases h
  | some d =>
    rw [hf] at h
    exact ⟨d, rfl, (zG.fd_lt hf).1, h⟩
theorem zG.to_n (v : zGV a) {c e : Nat} (hc : c < a.n) (h : a.to c = some e) : e < a.n := by
  obtain ⟨d, _, _, q⟩ := zG.to_fd h
  exact zG.nb_n v hc q
theorem zG.to_mu (v : zGV a) {c e : Nat} (hc : c < a.n) (h : a.to c = some e) : a.mu e < a.mu c := by
  have he := zG.to_n v hc h
  have e63 := zG.rk63 v he
  obtain ⟨d, h1, h2, h3⟩ := zG.to_fd h
  have ho := (zG.fd_lt h1).2.1
  unfold zG.fd at h1
  rw [ho, if_neg (by decide)] at h1
  obtain ⟨f, q1, q2⟩ := zG.ch_nb (zG.dr_ch 4 (Nat.le_refl _) h1).2
  rw [h3] at q1
  cases q1
  unfold zG.mu
  rcases q2 with ⟨w1, w2, w3⟩ | ⟨w1, w2⟩
  · have : a.rk c ≠ 0 := fun y => by
      have := (zG.rk0 hc).mp y
      rw [w1] at this
      cases this
    omega
  · have hs : a.slo c = true := by
      unfold zG.fla at w1
      rw [ho] at w1
      simpa [hc] using w1
    unfold zG.slo at hs
    rw [decide_eq_true_eq] at hs
    omega
theorem zG.fd_none (v : zGV a) {c : Nat} (hc : c < a.n) : a.fd c = none ↔ a.ou c = true := by
  unfold zG.fd
  by_cases ho : a.ou c = true
  · rw [if_pos ho]
    simp [ho]
  · rw [if_neg ho]
    have ho' : a.ou c = false := by cases w : a.ou c <;> simp_all
    refine ⟨fun h => ?_, fun h => absurd h ho⟩
    exfalso
    have key : ∃ d e, d < 4 ∧ a.nb c d = some e ∧ a.ch c d = true := by
      by_cases hf : a.fla c = true
      · have : a.rk c ≠ 0 := fun y => by
          have := (zG.rk0 hc).mp y
          rw [hf] at this
          cases this
        obtain ⟨d, e, q1, q2, q3, q4⟩ := zG.rk_pred v hc (k := a.rk c - 1) (by omega)
        refine ⟨d, e, q1, q2, ?_⟩
        unfold zG.ch
        rw [q2]
        simp [hf, q3, q4]
      · have hf' : a.fla c = false := by cases w : a.fla c <;> simp_all
        have hs : a.slo c = true := by
          unfold zG.fla at hf'
          rw [ho'] at hf'
          simpa [hc] using hf'
        obtain ⟨d, e, q1, q2, q3⟩ := (zG.la_lt (a := a) (c := c) (t := a.la c 4 + 1) (by have := zG.lv99 v hc; unfold zG.slo at hs; rw [decide_eq_true_eq] at hs; omega) 4).mp (by omega)
        have q5 : a.la c 4 ≤ a.lv e := Nat.not_lt.mp fun w => by
          have := (zG.la_lt (a := a) (c := c) (t := a.la c 4) (zG.la_99 c 4) 4).mpr
          exact absurd ((zG.la_lt (a := a) (c := c) (t := a.la c 4) (zG.la_99 c 4) 4).mpr ⟨d, e, q1, q2, w⟩) (Nat.lt_irrefl _)
        refine ⟨d, e, q1, q2, ?_⟩
        unfold zG.ch
        rw [q2]
        simp [hf']
        omega
    obtain ⟨d, e, q1, _, q3⟩ := key
    exact zG.dr_some q1 q3 4 (by omega) h
theorem zG.to_none (v : zGV a) {c : Nat} (hc : c < a.n) : a.to c = none ↔ a.ou c = true := by
  rw [← zG.fd_none v hc]
  constructor
  · intro h
    cases hf : a.fd c with
    | none => rfl
    | some d =>
      obtain ⟨_, _, e, _, q⟩ := zG.fd_lt hf
      rw [h] at q
      cases q
  · intro h
    unfold zG.to
    rw [h]
    rfl
theorem zG.mu_b (v : zGV a) {c : Nat} (hc : c < a.n) : a.mu c < 6400 := by
  have h1 := zG.lv99 v hc
  have h2 := zG.rk63 v hc
  unfold zG.mu
  omega
theorem zG.stf_eq (v : zGV a) : ∀ (j k c : Nat), c < a.n → a.mu c < j → a.mu c < k → a.stf j c = a.stf k c := by
  intro j
  induction j with
  | zero => intro k c _ h; exact absurd h (Nat.not_lt_zero _)
  | succ j ih =>
    intro k c hc h1 h2
    obtain ⟨k, rfl⟩ : ∃ k', k = k' + 1 := ⟨k - 1, by omega⟩
    unfold zG.stf
    cases ht : a.to c with
    | none => rfl
    | some e =>
      have := zG.to_mu v hc ht
      show a.stf j e + 1 = a.stf k e + 1
      rw [ih k e (zG.to_n v hc ht) (by omega) (by omega)]
theorem zG.mof_eq (v : zGV a) : ∀ (j k c : Nat), c < a.n → a.mu c < j → a.mu c < k → a.mof j c = a.mof k c := by
  intro j
  induction j with
  | zero => intro k c _ h; exact absurd h (Nat.not_lt_zero _)
  | succ j ih =>
    intro k c hc h1 h2
    obtain ⟨k, rfl⟩ : ∃ k', k = k' + 1 := ⟨k - 1, by omega⟩
    unfold zG.mof
    cases ht : a.to c with
    | none => rfl
    | some e =>
      have := zG.to_mu v hc ht
      show a.mof j e = a.mof k e
      rw [ih k e (zG.to_n v hc ht) (by omega) (by omega)]
theorem zG.st0 {c : Nat} (h : a.to c = none) : a.st c = 0 := by
  show a.stf (a.mu c + 1) c = 0
  unfold zG.stf
  rw [h]
theorem zG.mo0 {c : Nat} (h : a.to c = none) : a.mo c = c := by
  show a.mof (a.mu c + 1) c = c
  unfold zG.mof
  rw [h]
theorem zG.st1 (v : zGV a) {c e : Nat} (hc : c < a.n) (h : a.to c = some e) : a.st c = a.st e + 1 := by
  have h1 := zG.to_mu v hc h
  have h2 := zG.mu_b v hc
  show a.stf (a.mu c + 1) c = a.stf (a.mu e + 1) e + 1
  rw [← zG.stf_eq v (a.mu c) (a.mu e + 1) e (zG.to_n v hc h) (by omega) (by omega)]
  show (match a.to c with | none => 0 | some e => a.stf (a.mu c) e + 1) = _
  rw [h]
theorem zG.mo1 (v : zGV a) {c e : Nat} (hc : c < a.n) (h : a.to c = some e) : a.mo c = a.mo e := by
  have h1 := zG.to_mu v hc h
  have h2 := zG.mu_b v hc
  show a.mof (a.mu c + 1) c = a.mof (a.mu e + 1) e
  rw [← zG.mof_eq v (a.mu c) (a.mu e + 1) e (zG.to_n v hc h) (by omega) (by omega)]
  show (match a.to c with | none => c | some e => a.mof (a.mu c) e) = _
  rw [h]
/-- what holds of a cell where it holds of that to which the cell flows holds of all -/
theorem zG.down (v : zGV a) {P : Nat → Prop} (h : ∀ c, c < a.n → (∀ e, a.to c = some e → P e) → P c) : ∀ c, c < a.n → P c := by
  have : ∀ k c, a.mu c < k → c < a.n → P c := fun k => by
    induction k with
    | zero => exact fun c q => absurd q (Nat.not_lt_zero _)
    | succ k ih => exact fun c q hc => h c hc fun e he => ih e (by have := zG.to_mu v hc he; omega) (zG.to_n v hc he)
  exact fun c hc => this _ c (Nat.lt_succ_self _) hc
theorem zG.st_cnt (v : zGV a) : ∀ c, c < a.n → a.st c ≤ z_cnt (fun e => decide (a.mu e < a.mu c)) a.n :=
  zG.down v fun c hc ih => by
    cases ht : a.to c with
    | none => rw [zG.st0 ht]; exact Nat.zero_le _
    | some e =>
      have h1 := ih e ht
      have h2 := zG.to_mu v hc ht
      have h3 := zG.to_n v hc ht
      have h4 := z_cnt_lt (p := fun f => decide (a.mu f < a.mu e)) (q := fun f => decide (a.mu f < a.mu c)) (n := a.n) (c := e) (fun f _ w => by simp at w ⊢; omega) h3 (by simp) (by simpa using h2)
      rw [zG.st1 v hc ht]
      omega
theorem zG.st_lt (v : zGV a) {c : Nat} (hc : c < a.n) : a.st c < a.n := by
  have h1 := zG.st_cnt v c hc
  have h4 := z_cnt_lt (p := fun f => decide (a.mu f < a.mu c)) (q := fun _ => true) (n := a.n) (c := c) (fun f _ w => rfl) hc (by simp) rfl
  have := z_cnt_le (fun _ => true) a.n
  omega
theorem zG.mo_ou (v : zGV a) : ∀ c, c < a.n → a.ou (a.mo c) = true ∧ a.mo c < a.n :=
  zG.down v fun c hc ih => by
    cases ht : a.to c with
    | none => rw [zG.mo0 ht]; exact ⟨(zG.to_none v hc).mp ht, hc⟩
    | some e => rw [zG.mo1 v hc ht]; exact ih e ht
theorem zG.go_s (a : zG) : ∀ k c, a.go (k + 1) c = (a.go k c).bind a.to
  | 0, c => by
    show (a.to c).bind (fun e => some e) = a.to c
    cases a.to c <;> rfl
  | k + 1, c => by
    show (a.to c).bind (a.go (k + 1)) = ((a.to c).bind (a.go k)).bind a.to
    cases ht : a.to c with
    | none => rfl
    | some e => exact zG.go_s a k e
theorem zG.go_ex (v : zGV a) : ∀ k c, c < a.n → k ≤ a.st c → ∃ e, e < a.n ∧ a.go k c = some e ∧ a.st e + k = a.st c
  | 0, c, hc, _ => ⟨c, hc, rfl, rfl⟩
  | k + 1, c, hc, h => by
    cases ht : a.to c with
    | none => rw [zG.st0 ht] at h; omega
    | some e =>
      have h1 := zG.st1 v hc ht
      obtain ⟨f, q1, q2, q3⟩ := zG.go_ex v k e (zG.to_n v hc ht) (by omega)
      refine ⟨f, q1, ?_, by omega⟩
      show (a.to c).bind (a.go k) = _
      rw [ht]
      exact q2
/-! The reference's ways. -/
variable {m : zM}
def zMF (a : zG) (m : zM) : Prop := ∀ d, d < a.n → m.1 20 61 d = zo (a.fd d)
theorem zML.f (h : zML a m) : zMF a m := fun d hd => (h.2 d hd).1
theorem z_fdn {c : Nat} (h : zMF a m) (hc : c < a.n) (v : zGV a) : m.1 20 61 c < 0 ↔ a.to c = none := by
  rw [h c hc, zG.to_none v hc, ← zG.fd_none v hc]
  cases hf : a.fd c with
  | none => exact ⟨fun _ => rfl, fun _ => by decide⟩
  | some d =>
    have := (zG.fd_lt hf).1
    exact ⟨fun w => absurd w (zi_z (c := d) (by omega)), fun w => by cases w⟩
theorem s_onward (v : zGV a) (r : zMR (m.1 23 0) a) (h : zMF a m) {c : Nat} (hc : c < a.n) : f_X12_onward (Int32.ofNat c) m = some (zo (a.to c)) := by
  have n64 := v.n64
  unfold f_X12_onward
  rw [z_gdt (z_in64 (by omega)), zi_nat (by omega), h c hc, z_gdt (z_in64 (by omega))]
  cases hf : a.fd c with
  | none =>
    rw [if_neg (by decide)]
    unfold zG.to
    rw [hf]
    rfl
  | some d =>
    have h4 := (zG.fd_lt hf).1
    rw [zo_some, if_pos (zi_zl (by omega)), s_next v r hc h4, Option.bind_some]
    unfold zG.to
    rw [hf]
    rfl
theorem s_mouth_2 (v : zGV a) (r : zMR (m.1 23 0) a) (h : zMF a m) : ∀ (j c : Nat), c < a.n → a.st c < j → f_X12_mouth_2 m j (Int32.ofNat c) = some (Int32.ofNat (a.mo c)) := by
  intro j
  induction j with
  | zero => intro c _ q; exact absurd q (Nat.not_lt_zero _)
  | succ j ih =>
    intro c hc q
    have n64 := v.n64
    have h1 := z_fdn h hc v
    unfold f_X12_mouth_2
    rw [z_gdt (z_in64 (by omega)), zi_nat (by omega)]
    cases ht : a.to c with
    | none => rw [if_pos (h1.mpr ht), zG.mo0 ht]
    | some e =>
      have h2 := zG.st1 v hc ht
      have h3 := zG.to_n v hc ht
      rw [if_neg (fun w => by rw [h1.mp w] at ht; cases ht), s_onward v r h hc, Option.bind_some, ht, zo_some, zG.mo1 v hc ht]
      exact ih e h3 (by omega)
theorem s_mouth (v : zGV a) (r : zMR (m.1 23 0) a) (h : zMF a m) {c : Nat} (hc : c < a.n) : f_X12_mouth (Int32.ofNat c) m = some (Int32.ofNat (a.mo c)) :=
  s_mouth_2 v r h zF c hc (zF_lt (by have := zG.st_lt v hc; have := v.n64; omega))
theorem s_stepsOf_4 (v : zGV a) (r : zMR (m.1 23 0) a) (h : zMF a m) : ∀ (j k c : Nat), c < a.n → a.st c < j → f_X12_stepsOf_4 m j (Int32.ofNat k) (Int32.ofNat c) = some (Int32.ofNat (k + a.st c)) := by
  intro j
  induction j with
  | zero => intro k c _ q; exact absurd q (Nat.not_lt_zero _)
  | succ j ih =>
    intro k c hc q
    have n64 := v.n64
    have h1 := z_fdn h hc v
    unfold f_X12_stepsOf_4
    rw [z_gdt (z_in64 (by omega)), zi_nat (by omega)]
    cases ht : a.to c with
    | none => rw [if_pos (h1.mpr ht), zG.st0 ht]; rfl
    | some e =>
      have h2 := zG.st1 v hc ht
      have h3 := zG.to_n v hc ht
      rw [if_neg (fun w => by rw [h1.mp w] at ht; cases ht), s_onward v r h hc, Option.bind_some, ht, zo_some, zi_s, ih (k + 1) e h3 (by omega), h2]
      congr 2
      omega
theorem s_stepsOf (v : zGV a) (r : zMR (m.1 23 0) a) (h : zMF a m) {c : Nat} (hc : c < a.n) : f_X12_stepsOf (Int32.ofNat c) m = some (Int32.ofNat (a.st c)) := by
  have := s_stepsOf_4 v r h zF 0 c hc (zF_lt (by have := zG.st_lt v hc; have := v.n64; omega))
  rw [Nat.zero_add] at this
  exact this
/-- a cell lies on the way of another -/
noncomputable def zG.onf (a : zG) (g : Nat) : Nat → Nat → Bool
  | 0, c => decide (c = g)
  | j + 1, c => decide (c = g) || match a.to c with
    | none => false
    | some e => a.onf g j e
noncomputable def zG.on (a : zG) (g c : Nat) : Bool := a.onf g (a.mu c + 1) c
theorem zG.onf_eq (v : zGV a) (g : Nat) : ∀ (j k c : Nat), c < a.n → a.mu c < j → a.mu c < k → a.onf g j c = a.onf g k c := by
  intro j
  induction j with
  | zero => intro k c _ h; exact absurd h (Nat.not_lt_zero _)
  | succ j ih =>
    intro k c hc h1 h2
    obtain ⟨k, rfl⟩ : ∃ k', k = k' + 1 := ⟨k - 1, by omega⟩
    unfold zG.onf
    cases ht : a.to c with
    | none => rfl
    | some e =>
      have := zG.to_mu v hc ht
      show (decide (c = g) || a.onf g j e) = (decide (c = g) || a.onf g k e)
      rw [ih k e (zG.to_n v hc ht) (by omega) (by omega)]
theorem zG.on0 {g c : Nat} (h : a.to c = none) : a.on g c = decide (c = g) := by
  show a.onf g (a.mu c + 1) c = _
  unfold zG.onf
  rw [h]
  simp
theorem zG.on1 (v : zGV a) {g c e : Nat} (hc : c < a.n) (h : a.to c = some e) : a.on g c = (decide (c = g) || a.on g e) := by
  have h1 := zG.to_mu v hc h
  have h2 := zG.mu_b v hc
  show a.onf g (a.mu c + 1) c = (decide (c = g) || a.onf g (a.mu e + 1) e)
  rw [← zG.onf_eq v g (a.mu c) (a.mu e + 1) e (zG.to_n v hc h) (by omega) (by omega)]
  show (decide (c = g) || match a.to c with | none => false | some e => a.onf g (a.mu c) e) = _
  rw [h]
theorem s_leadsTo_2 (v : zGV a) (r : zMR (m.1 23 0) a) (h : zMF a m) {g : Nat} (hg : g < a.n) : ∀ (j c : Nat), c < a.n → a.st c < j → f_X12_leadsTo_2 m j (Int32.ofNat g) (Int32.ofNat c) = some (a.on g c) := by
  intro j
  induction j with
  | zero => intro c _ q; exact absurd q (Nat.not_lt_zero _)
  | succ j ih =>
    intro c hc q
    have n64 := v.n64
    have h1 := z_fdn h hc v
    have hcg : Int32.ofNat c = Int32.ofNat g ↔ c = g := zi_eq (by omega) (by omega)
    have h25 : f_X12_leadsTo_25 m (Int32.ofNat g) (Int32.ofNat c) = some (decide (c = g)) := by
      unfold f_X12_leadsTo_25
      by_cases w : c = g
      · rw [if_pos (hcg.mpr w)]; simp [w]
      · rw [if_neg (mt hcg.mp w)]; simp [w]
    unfold f_X12_leadsTo_2
    rw [h25]
    cases ht : a.to c with
    | none => rw [z_gdt (z_in64 (by omega)), zi_nat (by omega), if_pos (h1.mpr ht), zG.on0 ht, ite_self]
    | some e =>
      have h2 := zG.st1 v hc ht
      have h3 := zG.to_n v hc ht
      rw [zG.on1 v hc ht, z_gdt (z_in64 (by omega)), zi_nat (by omega)]
      by_cases w : c = g
      · rw [if_pos (hcg.mpr w)]; simp [w]
      · rw [if_neg (mt hcg.mp w), if_neg (fun w => by rw [h1.mp w] at ht; cases ht), s_onward v r h hc, Option.bind_some, ht, zo_some, ih e h3 (by omega)]
        simp [w]
theorem s_leadsTo (v : zGV a) (r : zMR (m.1 23 0) a) (h : zMF a m) {g c : Nat} (hg : g < a.n) (hc : c < a.n) : f_X12_leadsTo (Int32.ofNat c) (Int32.ofNat g) m = some (a.on g c) :=
  s_leadsTo_2 v r h hg zF c hc (zF_lt (by have := zG.st_lt v hc; have := v.n64; omega))
end
