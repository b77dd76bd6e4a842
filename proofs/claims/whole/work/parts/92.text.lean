/-! Texts: what is read at a place; the class's readers. -/
def zsg (l : Nat) (c : Nat → Nat) (t : Nat) : Nat := if t < l then c t else 0
def zdg (l : Nat) (c : Nat → Nat) (t : Nat) : Bool := decide (48 ≤ zsg l c t) && decide (zsg l c t ≤ 57)
def znu (l : Nat) (c : Nat → Nat) (p : Nat) : Nat × Nat := if zsg l c p = 48 then (0, p + 1) else if zdg l c (p + 1) = true then ((zsg l c p - 48) * 10 + (zsg l c (p + 1) - 48), p + 2) else (zsg l c p - 48, p + 1)
def zce (l : Nat) (c : Nat → Nat) (k d q : Nat) : Nat ⊕ (Nat × Nat × Nat × Nat) :=
  if k = 111 then (if zsg l c q = 43 then .inr (111, d, 1, q + 1) else if zsg l c q = 45 then .inr (111, d, 0, q + 1) else .inl q)
  else if zsg l c q = 61 then (if zdg l c (q + 1) = true then (if k = 104 then .inr (104, d, (znu l c (q + 1)).1, (znu l c (q + 1)).2) else .inr (k, d, zsg l c (q + 1) - 48, q + 2)) else .inl (q + 1)) else .inl q
def zkn (k : Nat) : Bool := decide (k = 104) || decide (k = 114) || decide (k = 115) || decide (k = 111)
/-- a command at p: where it errs, or what it is, its cell, its number, the place behind it -/
def zcd (l : Nat) (c : Nat → Nat) (n p : Nat) : Nat ⊕ (Nat × Nat × Nat × Nat) :=
  if zkn (zsg l c p) = true then (if zdg l c (p + 1) = true then (if (znu l c (p + 1)).1 < n then zce l c (zsg l c p) (znu l c (p + 1)).1 (znu l c (p + 1)).2 else .inl (p + 1)) else .inl (p + 1)) else .inl p
theorem zsg_le {l : Nat} {c : Nat → Nat} (h : ∀ t, t < l → c t ≤ 126) (t : Nat) : zsg l c t ≤ 126 := by
  unfold zsg
  by_cases w : t < l
  · rw [if_pos w]; exact h t w
  · rw [if_neg w]; omega
theorem zsg_lt {l : Nat} {c : Nat → Nat} {t : Nat} (h : 0 < zsg l c t) : t < l := by
  unfold zsg at h
  by_cases w : t < l
  · exact w
  · rw [if_neg w] at h; omega
theorem zdg_iff {l : Nat} {c : Nat → Nat} {t : Nat} : zdg l c t = true ↔ 48 ≤ zsg l c t ∧ zsg l c t ≤ 57 := by
  unfold zdg
  rw [Bool.and_eq_true, decide_eq_true_eq, decide_eq_true_eq]
theorem zdg_lt {l : Nat} {c : Nat → Nat} {t : Nat} (h : zdg l c t = true) : t < l ∧ 48 ≤ zsg l c t ∧ zsg l c t ≤ 57 := by
  have h := zdg_iff.mp h
  exact ⟨zsg_lt (c := c) (by omega), h⟩
theorem znu_b {l : Nat} {c : Nat → Nat} {p : Nat} (h : zdg l c p = true) : (znu l c p).1 ≤ 99 ∧ p + 1 ≤ (znu l c p).2 ∧ (znu l c p).2 ≤ p + 2 ∧ (znu l c p).2 ≤ l := by
  obtain ⟨h1, h2, h3⟩ := zdg_lt h
  unfold znu
  by_cases w : zsg l c p = 48
  · rw [if_pos w]
    show 0 ≤ 99 ∧ p + 1 ≤ p + 1 ∧ p + 1 ≤ p + 2 ∧ p + 1 ≤ l
    omega
  · rw [if_neg w]
    by_cases w2 : zdg l c (p + 1) = true
    · obtain ⟨g1, g2, g3⟩ := zdg_lt w2
      rw [if_pos w2]
      show (zsg l c p - 48) * 10 + (zsg l c (p + 1) - 48) ≤ 99 ∧ p + 1 ≤ p + 2 ∧ p + 2 ≤ p + 2 ∧ p + 2 ≤ l
      omega
    · rw [if_neg w2]
      show zsg l c p - 48 ≤ 99 ∧ p + 1 ≤ p + 1 ∧ p + 1 ≤ p + 2 ∧ p + 1 ≤ l
      omega
theorem zkn_iff {k : Nat} : zkn k = true ↔ k = 104 ∨ k = 114 ∨ k = 115 ∨ k = 111 := by
  unfold zkn
  simp only [Bool.or_eq_true, decide_eq_true_eq, or_assoc]
/-- what always holds of a command that is read -/
def zcOk (l n p : Nat) (x : Nat ⊕ (Nat × Nat × Nat × Nat)) : Prop := match x with
  | .inl e => e ≤ l
  | .inr y => zkn y.1 = true ∧ y.2.1 < n ∧ y.2.2.1 ≤ 99 ∧ (y.1 = 114 ∨ y.1 = 115 → y.2.2.1 ≤ 9) ∧ (y.1 = 111 → y.2.2.1 ≤ 1) ∧ p + 3 ≤ y.2.2.2 ∧ y.2.2.2 ≤ l
theorem zcd_b {l n p : Nat} {c : Nat → Nat} (hp : p ≤ l) : zcOk l n p (zcd l c n p) := by
  unfold zcd
  by_cases hk : zkn (zsg l c p) = true
  · have k4 := zkn_iff.mp hk
    have pl : p < l := zsg_lt (c := c) (by omega)
    rw [if_pos hk]
    by_cases hd : zdg l c (p + 1) = true
    · rw [if_pos hd]
      obtain ⟨n1, n2, n3, n4⟩ := znu_b hd
      by_cases hn : (znu l c (p + 1)).1 < n
      · rw [if_pos hn]
        generalize (znu l c (p + 1)).1 = d at hn n1 ⊢
        generalize (znu l c (p + 1)).2 = q at n2 n3 n4 ⊢
        unfold zce
        by_cases w1 : zsg l c p = 111
        · rw [if_pos w1]
          by_cases w2 : zsg l c q = 43
          · have := zsg_lt (l := l) (c := c) (t := q) (by omega)
            rw [if_pos w2]
            exact ⟨(by decide : zkn 111 = true), hn, show 1 ≤ 99 by omega, fun h => by omega, fun _ => Nat.le_refl _, show p + 3 ≤ q + 1 by omega, show q + 1 ≤ l by omega⟩
          · rw [if_neg w2]
            by_cases w3 : zsg l c q = 45
            · have := zsg_lt (l := l) (c := c) (t := q) (by omega)
              rw [if_pos w3]
              exact ⟨(by decide : zkn 111 = true), hn, show 0 ≤ 99 by omega, fun h => by omega, fun _ => Nat.zero_le _, show p + 3 ≤ q + 1 by omega, show q + 1 ≤ l by omega⟩
            · rw [if_neg w3]
              exact n4
        · rw [if_neg w1]
          by_cases w2 : zsg l c q = 61
          · have := zsg_lt (l := l) (c := c) (t := q) (by omega)
            rw [if_pos w2]
            by_cases w3 : zdg l c (q + 1) = true
            · rw [if_pos w3]
              obtain ⟨m1, m2, m3, m4⟩ := znu_b w3
              obtain ⟨o1, o2, o3⟩ := zdg_lt w3
              by_cases w4 : zsg l c p = 104
              · rw [if_pos w4]
                exact ⟨(by decide : zkn 104 = true), hn, m1, fun h => by have : (104 : Nat) = 114 ∨ (104 : Nat) = 115 := h; omega, fun h => absurd (show (104 : Nat) = 111 from h) (by decide), show p + 3 ≤ (znu l c (q + 1)).2 by omega, m4⟩
              · rw [if_neg w4]
                exact ⟨hk, hn, show zsg l c (q + 1) - 48 ≤ 99 by omega, fun _ => show zsg l c (q + 1) - 48 ≤ 9 by omega, fun h => absurd h w1, show p + 3 ≤ q + 2 by omega, show q + 2 ≤ l by omega⟩
            · rw [if_neg w3]
              show q + 1 ≤ l
              omega
          · rw [if_neg w2]
            exact n4
      · rw [if_neg hn]
        show p + 1 ≤ l
        omega
    · rw [if_neg hd]
      show p + 1 ≤ l
      omega
  · rw [if_neg hk]
    exact hp
theorem z_bCn : ∀ k, k < 127 → z_bC (Int32.ofNat k) = true := by decide +kernel
theorem z_kn4 {α : Type} {k : Nat} (A B : α) (h : k < 2147483648) : (if Int32.ofNat k = (104 : Int32) then A else if Int32.ofNat k = (114 : Int32) then A else if Int32.ofNat k = (115 : Int32) then A else if Int32.ofNat k = (111 : Int32) then A else B) = if zkn k = true then A else B := by
  have e : ∀ q : Nat, q < 2147483648 → (Int32.ofNat k = Int32.ofNat q ↔ k = q) := fun q hq => zi_eq h hq
  have e1 := e 104 (by omega)
  have e2 := e 114 (by omega)
  have e3 := e 115 (by omega)
  have e4 := e 111 (by omega)
  rw [show (104 : Int32) = Int32.ofNat 104 from rfl, show (114 : Int32) = Int32.ofNat 114 from rfl, show (115 : Int32) = Int32.ofNat 115 from rfl, show (111 : Int32) = Int32.ofNat 111 from rfl]
  by_cases w : zkn k = true
  · rw [if_pos w]
    rcases zkn_iff.mp w with w1 | w1 | w1 | w1
    · rw [if_pos (e1.mpr w1)]
    · rw [if_neg (fun y => by have := e1.mp y; omega), if_pos (e2.mpr w1)]
    · rw [if_neg (fun y => by have := e1.mp y; omega), if_neg (fun y => by have := e2.mp y; omega), if_pos (e3.mpr w1)]
    · rw [if_neg (fun y => by have := e1.mp y; omega), if_neg (fun y => by have := e2.mp y; omega), if_neg (fun y => by have := e3.mp y; omega), if_pos (e4.mpr w1)]
  · have w0 := mt zkn_iff.mpr w
    rw [if_neg w, if_neg (fun y => w0 (.inl (e1.mp y))), if_neg (fun y => w0 (.inr (.inl (e2.mp y)))), if_neg (fun y => w0 (.inr (.inr (.inl (e3.mp y))))), if_neg (fun y => w0 (.inr (.inr (.inr (e4.mp y)))))]
abbrev zP9 (k i j : Nat) : Prop := k = 10 ∧ i = 0 ∧ 2 ≤ j ∧ j < 7
def zRc (r : Int32) (m : zM) (x : Nat ⊕ (Nat × Nat × Nat × Nat)) : Prop := match x with
  | .inl e => r = Int32.ofNat e
  | .inr y => r = -1 ∧ m.1 10 0 3 = Int32.ofNat y.2.2.2 ∧ m.1 10 0 4 = Int32.ofNat y.1 ∧ m.1 10 0 5 = Int32.ofNat y.2.1 ∧ m.1 10 0 6 = Int32.ofNat y.2.2.1
section
variable {l : Nat} {c : Nat → Nat} {m m' : zM} {p : Nat}
theorem zTxc.k9 (T : zTxc l c m) (f : zFr zP9 m m') : zTxc l c m' := by
  obtain ⟨h1, h2, h3⟩ := T
  exact ⟨h1, by rw [(f 10 0 1 (by unfold zP9; omega)).1]; exact h2, fun t ht => by rw [(f 34 0 t (by unfold zP9; omega)).1]; exact h3 t ht⟩
theorem zTxc.b (T : zTxc l c m) : ∀ t, zsg l c t ≤ 126 := zsg_le fun t ht => (T.2.2 t ht).2.1
theorem s_sign (T : zTxc l c m) (hp : m.1 10 0 3 = Int32.ofNat p) (p100 : p ≤ 100) : f_X9_sign m = some (Int32.ofNat (zsg l c p)) := by
  obtain ⟨l60, hl, ht⟩ := T
  unfold f_X9_sign zsg
  rw [hp, hl, if_neg (zi_nn (by omega))]
  by_cases w : p < l
  · obtain ⟨q1, q2, q3⟩ := ht p w
    rw [if_neg (by rw [zi_le (by omega) (by omega)]; omega), if_neg (by rw [show Int32.ofNat (z_alen 34) = Int32.ofNat 60 from rfl, zi_le (by omega) (by omega)]; omega), z_gdt (by rw [zi_inb (by omega), decide_eq_true_eq]; show p < 60; omega), zi_nat (by omega), q3, z_gdt (z_bCn _ (by omega)), if_pos w]
  · rw [if_pos (by rw [zi_le (by omega) (by omega)]; omega), z_gdt (by decide +kernel), if_neg w]
    rfl
theorem s_dig (T : zTxc l c m) (hp : m.1 10 0 3 = Int32.ofNat p) (p100 : p ≤ 100) : f_X9_isDigit m = some (zdg l c p) := by
  have hs := T.b p
  unfold f_X9_isDigit zdg
  rw [s_sign T hp p100, Option.bind_some, show (48 : Int32) = Int32.ofNat 48 from rfl, show (57 : Int32) = Int32.ofNat 57 from rfl]
  by_cases w1 : zsg l c p < 48
  · rw [if_pos (by rw [zi_lt (by omega) (by omega)]; exact w1), decide_eq_false (show ¬ 48 ≤ zsg l c p by omega)]
    rfl
  · rw [if_neg (by rw [zi_lt (by omega) (by omega)]; exact w1), Option.bind_some]
    by_cases w2 : 57 < zsg l c p
    · rw [if_pos (by rw [zi_lt (by omega) (by omega)]; exact w2), decide_eq_false (show ¬ zsg l c p ≤ 57 by omega), Bool.and_false]
    · rw [if_neg (by rw [zi_lt (by omega) (by omega)]; exact w2), decide_eq_true (show 48 ≤ zsg l c p by omega), decide_eq_true (show zsg l c p ≤ 57 by omega)]
      rfl
theorem s_rdig (T : zTxc l c m) (hp : m.1 10 0 3 = Int32.ofNat p) (p100 : p ≤ 100) (h : zdg l c p = true) : f_X9_readDigit m = some (Int32.ofNat (zsg l c p - 48), z_sI m 10 0 3 (Int32.ofNat (p + 1))) := by
  unfold f_X9_readDigit
  rw [s_sign T hp p100, Option.bind_some, show (48 : Int32) = Int32.ofNat 48 from rfl, zi_sub (zdg_lt h).2.1, hp, zi_s]
abbrev zP93 (k i j : Nat) : Prop := k = 10 ∧ i = 0 ∧ j = 3
abbrev zP936 (k i j : Nat) : Prop := k = 10 ∧ i = 0 ∧ (j = 3 ∨ j = 6)
theorem zP93_9 {k i j : Nat} (w : zP93 k i j) : zP9 k i j := by
  unfold zP93 at w
  unfold zP9
  omega
theorem zP93_936 {k i j : Nat} (w : zP93 k i j) : zP936 k i j := by
  unfold zP93 at w
  unfold zP936
  omega
theorem zP936_9 {k i j : Nat} (w : zP936 k i j) : zP9 k i j := by
  unfold zP936 at w
  unfold zP9
  omega
theorem s_rnum (T : zTxc l c m) (hp : m.1 10 0 3 = Int32.ofNat p) (p100 : p ≤ 98) (h : zdg l c p = true) : ∃ m', f_X9_readNumber m = some (Int32.ofNat (znu l c p).1, m') ∧ zFr zP93 m m' ∧ m'.1 10 0 3 = Int32.ofNat (znu l c p).2 := by
  have hs := T.b p
  have hd := zdg_lt h
  have f1 : zFr zP93 m (z_sI m 10 0 3 (Int32.ofNat (p + 1))) := zFr.sI (zFr.refl m) _ ⟨rfl, rfl, rfl⟩
  have T1 : zTxc l c (z_sI m 10 0 3 (Int32.ofNat (p + 1))) := T.k9 (f1.mono fun k i j => zP93_9)
  have h1 : (z_sI m 10 0 3 (Int32.ofNat (p + 1))).1 10 0 3 = Int32.ofNat (p + 1) := by rw [zm_row, if_pos rfl]
  unfold f_X9_readNumber znu
  rw [s_rdig T hp (by omega) h, Option.bind_some]
  dsimp only
  by_cases w : zsg l c p = 48
  · rw [if_pos (by rw [zi_0 (by omega)]; omega), if_pos w, w]
    exact ⟨_, rfl, f1, h1⟩
  · rw [if_neg (by rw [zi_0 (by omega)]; omega), s_dig T1 h1 (by omega), Option.bind_some, if_neg w]
    cases w2 : zdg l c (p + 1) with
    | false =>
      rw [if_pos (by decide), if_neg (by decide)]
      exact ⟨_, rfl, f1, h1⟩
    | true =>
      rw [if_neg (by decide), s_rdig T1 h1 (by omega) w2, Option.bind_some, if_pos rfl, show (10 : Int32) = Int32.ofNat 10 from rfl, zi_mul]
      dsimp only
      rw [zi_add]
      exact ⟨_, rfl, f1.trans (zFr.sI (zFr.refl _) _ ⟨rfl, rfl, rfl⟩), by rw [zm_row, if_pos rfl]⟩
theorem s_rmark (T : zTxc l c m) (hp : m.1 10 0 3 = Int32.ofNat p) (p100 : p ≤ 98) (d : Nat) (h4 : m.1 10 0 4 = Int32.ofNat 111) (h5 : m.1 10 0 5 = Int32.ofNat d) : ∃ r m', f_X9_readMark m = some (r, m') ∧ zFr zP936 m m' ∧ zRc r m' (zce l c 111 d p) := by
  have hs := T.b p
  have go : ∀ u : Nat, u ≤ 1 → ∃ r m', f_X9_readMark_38 (Int32.ofNat u) m = some (r, m') ∧ zFr zP936 m m' ∧ zRc r m' (.inr (111, d, u, p + 1)) := fun u hu => by
    unfold f_X9_readMark_38
    refine ⟨_, _, rfl, zFr.sI (zFr.sI (zFr.refl m) _ ⟨rfl, rfl, .inr rfl⟩) _ ⟨rfl, rfl, .inl rfl⟩, rfl, ?_, ?_, ?_, ?_⟩
    · rw [zm_row, if_pos rfl, zm_row, if_neg (by omega), hp, zi_s]
    · rw [zm_row, if_neg (by omega), zm_row, if_neg (by omega)]
      exact h4
    · rw [zm_row, if_neg (by omega), zm_row, if_neg (by omega)]
      exact h5
    · rw [zm_row, if_neg (by omega), zm_row, if_pos rfl]
  unfold f_X9_readMark f_X9_readMark_23 zce
  rw [s_sign T hp (by omega), Option.bind_some, show (43 : Int32) = Int32.ofNat 43 from rfl, show (45 : Int32) = Int32.ofNat 45 from rfl, if_pos rfl]
  by_cases w1 : zsg l c p = 43
  · rw [if_pos (by rw [zi_eq (by omega) (by omega)]; exact w1), Option.bind_some, if_pos (by rw [zi_eq (by omega) (by omega)]; exact w1), if_pos w1]
    exact go 1 (by omega)
  · rw [if_neg (by rw [zi_eq (by omega) (by omega)]; exact w1), Option.bind_some, if_neg w1]
    by_cases w2 : zsg l c p = 45
    · rw [if_pos (by rw [zi_eq (by omega) (by omega)]; exact w2), Option.bind_some, if_neg (by rw [zi_eq (by omega) (by omega)]; exact w1), if_pos w2]
      exact go 0 (by omega)
    · rw [if_neg (by rw [zi_eq (by omega) (by omega)]; exact w2), if_neg w2]
      exact ⟨_, _, rfl, zFr.refl m, hp⟩
theorem s_rval (T : zTxc l c m) (hp : m.1 10 0 3 = Int32.ofNat p) (p100 : p ≤ 96) {k : Nat} (hk : k ≤ 126) (k1 : k ≠ 111) (d : Nat) (h4 : m.1 10 0 4 = Int32.ofNat k) (h5 : m.1 10 0 5 = Int32.ofNat d) : ∃ r m', f_X9_readValue m = some (r, m') ∧ zFr zP936 m m' ∧ zRc r m' (zce l c k d p) := by
  have hs := T.b p
  have f1 : zFr zP93 m (z_sI m 10 0 3 (Int32.ofNat (p + 1))) := zFr.sI (zFr.refl m) _ ⟨rfl, rfl, rfl⟩
  have T1 : zTxc l c (z_sI m 10 0 3 (Int32.ofNat (p + 1))) := T.k9 (f1.mono fun k i j => zP93_9)
  have h1 : (z_sI m 10 0 3 (Int32.ofNat (p + 1))).1 10 0 3 = Int32.ofNat (p + 1) := by rw [zm_row, if_pos rfl]
  have g4 : (z_sI m 10 0 3 (Int32.ofNat (p + 1))).1 10 0 4 = Int32.ofNat k := by
    rw [zm_row, if_neg (by omega)]
    exact h4
  have fin : ∀ (u q : Nat) (m2 : zM), zFr zP93 m m2 → m2.1 10 0 3 = Int32.ofNat q → ∃ r m', f_X9_readValue_57 (Int32.ofNat u) m2 = some (r, m') ∧ zFr zP936 m m' ∧ zRc r m' (.inr (k, d, u, q)) := fun u q m2 f2 h2 => by
    unfold f_X9_readValue_57
    refine ⟨_, _, rfl, (f2.mono fun k i j => zP93_936).trans (zFr.sI (zFr.refl _) _ ⟨rfl, rfl, .inr rfl⟩), rfl, ?_, ?_, ?_, ?_⟩
    · rw [zm_row, if_neg (by omega)]
      exact h2
    · rw [zm_row, if_neg (by omega), (f2 10 0 4 (by unfold zP93; omega)).1]
      exact h4
    · rw [zm_row, if_neg (by omega), (f2 10 0 5 (by unfold zP93; omega)).1]
      exact h5
    · rw [zm_row, if_pos rfl]
  unfold f_X9_readValue zce
  rw [s_sign T hp (by omega), Option.bind_some, show (61 : Int32) = Int32.ofNat 61 from rfl, if_neg k1, hp, zi_s]
  by_cases w1 : zsg l c p = 61
  · rw [if_pos (by rw [zi_eq (by omega) (by omega)]; exact w1), if_pos w1, s_dig T1 h1 (by omega), Option.bind_some]
    cases w2 : zdg l c (p + 1) with
    | false =>
      rw [if_pos (by decide), if_neg (by decide)]
      exact ⟨_, _, rfl, f1.mono fun k i j => zP93_936, h1⟩
    | true =>
      rw [if_neg (by decide), if_pos rfl, g4, show (104 : Int32) = Int32.ofNat 104 from rfl]
      by_cases w3 : k = 104
      · obtain ⟨m2, q1, q2, q3⟩ := s_rnum T1 h1 (by omega) w2
        rw [if_pos (by rw [zi_eq (by omega) (by omega)]; exact w3), if_pos w3, q1, Option.bind_some]
        have := fin (znu l c (p + 1)).1 (znu l c (p + 1)).2 m2 (f1.trans q2) q3
        rw [w3] at this
        exact this
      · rw [if_neg (by rw [zi_eq (by omega) (by omega)]; exact w3), if_neg w3, s_rdig T1 h1 (by omega) w2, Option.bind_some]
        exact fin _ _ _ (f1.trans (zFr.sI (zFr.refl _) _ ⟨rfl, rfl, rfl⟩)) (by rw [zm_row, if_pos rfl])
  · rw [if_neg (by rw [zi_eq (by omega) (by omega)]; exact w1), if_neg w1]
    exact ⟨_, _, rfl, zFr.refl m, rfl⟩
theorem s_rc (T : zTxc l c m) (hp : m.1 10 0 3 = Int32.ofNat p) (hpl : p ≤ l) {n : Nat} (hn : n ≤ 64) : ∃ r m', f_X9_readCommand (Int32.ofNat n) m = some (r, m') ∧ zFr zP9 m m' ∧ zRc r m' (zcd l c n p) := by
  have hs := T.b p
  have l60 := T.1
  have fA : zFr zP9 m (z_sI m 10 0 4 (Int32.ofNat (zsg l c p))) := zFr.sI (zFr.refl m) _ ⟨rfl, rfl, by omega, by omega⟩
  have hA : (z_sI m 10 0 4 (Int32.ofNat (zsg l c p))).1 10 0 3 = Int32.ofNat p := by
    rw [zm_row, if_neg (by omega)]
    exact hp
  have hA4 : (z_sI m 10 0 4 (Int32.ofNat (zsg l c p))).1 10 0 4 = Int32.ofNat (zsg l c p) := by rw [zm_row, if_pos rfl]
  have TA := T.k9 fA
  unfold f_X9_readCommand zcd
  rw [s_sign T hp (by omega), Option.bind_some, hA4, z_kn4 _ _ (by omega)]
  cases hk : zkn (zsg l c p) with
  | false =>
    rw [if_neg (by decide), if_neg (by decide)]
    exact ⟨_, _, rfl, fA, hA⟩
  | true =>
    have k4 := zkn_iff.mp hk
    have pl : p < l := zsg_lt (c := c) (by omega)
    rw [if_pos rfl, if_pos rfl]
    generalize z_sI m 10 0 4 (Int32.ofNat (zsg l c p)) = mA at fA hA hA4 TA ⊢
    unfold f_X9_readCommand_49
    rw [hA, zi_s]
    have fB : zFr zP9 mA (z_sI mA 10 0 3 (Int32.ofNat (p + 1))) := zFr.sI (zFr.refl _) _ ⟨rfl, rfl, by omega, by omega⟩
    have hB : (z_sI mA 10 0 3 (Int32.ofNat (p + 1))).1 10 0 3 = Int32.ofNat (p + 1) := by rw [zm_row, if_pos rfl]
    have hB4 : (z_sI mA 10 0 3 (Int32.ofNat (p + 1))).1 10 0 4 = Int32.ofNat (zsg l c p) := by
      rw [zm_row, if_neg (by omega)]
      exact hA4
    have TB := TA.k9 fB
    have fAB := fA.trans fB
    generalize z_sI mA 10 0 3 (Int32.ofNat (p + 1)) = mB at fAB hB hB4 TB ⊢
    rw [s_dig TB hB (by omega), Option.bind_some]
    cases w2 : zdg l c (p + 1) with
    | false =>
      rw [if_pos (by decide), if_neg (by decide)]
      exact ⟨_, _, rfl, fAB, hB⟩
    | true =>
      obtain ⟨mC, q1, q2, q3⟩ := s_rnum TB hB (by omega) w2
      obtain ⟨n1, n2, n3, n4⟩ := znu_b w2
      rw [if_neg (by decide), if_pos rfl, q1, Option.bind_some]
      dsimp only
      have fD : zFr zP9 mC (z_sI mC 10 0 5 (Int32.ofNat (znu l c (p + 1)).1)) := zFr.sI (zFr.refl _) _ ⟨rfl, rfl, by omega, by omega⟩
      have hD : (z_sI mC 10 0 5 (Int32.ofNat (znu l c (p + 1)).1)).1 10 0 3 = Int32.ofNat (znu l c (p + 1)).2 := by
        rw [zm_row, if_neg (by omega)]
        exact q3
      have hD4 : (z_sI mC 10 0 5 (Int32.ofNat (znu l c (p + 1)).1)).1 10 0 4 = Int32.ofNat (zsg l c p) := by
        rw [zm_row, if_neg (by omega), (q2 10 0 4 (by unfold zP93; omega)).1]
        exact hB4
      have hD5 : (z_sI mC 10 0 5 (Int32.ofNat (znu l c (p + 1)).1)).1 10 0 5 = Int32.ofNat (znu l c (p + 1)).1 := by rw [zm_row, if_pos rfl]
      have fBD := (q2.mono fun k i j => zP93_9).trans fD
      have TD := TB.k9 fBD
      have ff := fAB.trans fBD
      generalize z_sI mC 10 0 5 (Int32.ofNat (znu l c (p + 1)).1) = mD at ff hD hD4 hD5 TD ⊢
      rw [hD5, hD4, hB]
      by_cases w3 : (znu l c (p + 1)).1 < n
      · rw [if_pos (by rw [zi_lt (by omega) (by omega)]; exact w3), if_pos w3, show (111 : Int32) = Int32.ofNat 111 from rfl]
        by_cases w4 : zsg l c p = 111
        · rw [w4] at hD4
          obtain ⟨r, mE, u1, u2, u3⟩ := s_rmark TD hD (by omega) _ hD4 hD5
          rw [if_pos (by rw [zi_eq (by omega) (by omega)]; exact w4), u1, Option.bind_some, w4]
          exact ⟨_, _, rfl, ff.trans (u2.mono fun k i j => zP936_9), u3⟩
        · obtain ⟨r, mE, u1, u2, u3⟩ := s_rval TD hD (by omega) hs w4 _ hD4 hD5
          rw [if_neg (by rw [zi_eq (by omega) (by omega)]; exact w4), u1, Option.bind_some]
          exact ⟨_, _, rfl, ff.trans (u2.mono fun k i j => zP936_9), u3⟩
      · rw [if_neg (by rw [zi_lt (by omega) (by omega)]; exact w3), if_neg w3]
        exact ⟨_, _, rfl, ff, rfl⟩
end
