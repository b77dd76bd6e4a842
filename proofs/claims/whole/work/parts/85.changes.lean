/-! Changes: what the class holds, what the reference holds; one more grid is remembered. -/
/-- the class's own places, and the reference's -/
abbrev zOc (k i j : Nat) : Prop := (k = 6 ∧ i ≠ 1 ∧ j < 4) ∨ (k = 20 ∧ (i < 3 ∨ (6 ≤ i ∧ i < 33))) ∨ (k = 34 ∧ i = 0) ∨ (k = 7 ∧ i = 0 ∧ (j = 1 ∨ j = 2)) ∨ (k = 12 ∧ i = 0 ∧ (j = 3 ∨ j = 6)) ∨ (k = 10 ∧ i = 0 ∧ j = 1)
abbrev zOm (k i j : Nat) : Prop := (k = 23 ∧ i ≤ 1) ∨ (k = 24 ∧ i = 0) ∨ (k = 25 ∧ i = 0) ∨ (k = 13 ∧ i = 0 ∧ (j = 3 ∨ j = 5 ∨ j = 8 ∨ j = 10))
def zHc (b : Nat → zG) (n p : Nat) (m : zM) : Prop := n ≤ 8 ∧ p < 8 ∧ m.1 7 0 1 = Int32.ofNat p ∧ m.1 7 0 2 = Int32.ofNat n ∧ ∀ j, j < n → zGV (b j) ∧ zGR m (3 + (p + 8 - (n - 1 - j)) % 8) (b j)
def zHm (b : Nat → zG) (n : Nat) (m : zM) : Prop := m.1 13 0 3 = Int32.ofNat n ∧ ∀ j, j < n → zMR (fun x => m.1 24 0 (259 * j + x)) (b j)
def zSdc (s : Option zG) (m : zM) : Prop := match s with
  | none => m.1 12 0 3 = 0
  | some g => m.1 12 0 3 = 1 ∧ zGV g ∧ zGR m 2 g
def zSdm (s : Option zG) (m : zM) : Prop := match s with
  | none => m.1 13 0 5 = 0
  | some g => m.1 13 0 5 = 1 ∧ zMR (m.1 23 1) g
def zTxc (l : Nat) (c : Nat → Nat) (m : zM) : Prop := l ≤ 60 ∧ m.1 10 0 1 = Int32.ofNat l ∧ ∀ t, t < l → 33 ≤ c t ∧ c t ≤ 126 ∧ m.1 34 0 t = Int32.ofNat (c t)
def zTxm (l : Nat) (c : Nat → Nat) (m : zM) : Prop := m.1 13 0 8 = Int32.ofNat l ∧ ∀ t, t < l → m.1 25 0 t = Int32.ofNat (c t)
def zErc (e : Option Nat) (m : zM) : Prop := m.1 12 0 6 = zo e ∧ ∀ q, e = some q → q ≤ 60
def zErm (e : Option Nat) (m : zM) : Prop := m.1 13 0 10 = zo e
def zIc (a : zG) (b : Nat → zG) (n p : Nat) (s : Option zG) (l : Nat) (c : Nat → Nat) (e : Option Nat) (m : zM) : Prop := zGV a ∧ zGR m 0 a ∧ zHc b n p m ∧ zSdc s m ∧ zTxc l c m ∧ zErc e m
def zIm (a : zG) (b : Nat → zG) (n : Nat) (s : Option zG) (l : Nat) (c : Nat → Nat) (e : Option Nat) (m : zM) : Prop := zMR (m.1 23 0) a ∧ zHm b n m ∧ zSdm s m ∧ zTxm l c m ∧ zErm e m
section
variable {a : zG} {b : Nat → zG} {n p : Nat} {s : Option zG} {l : Nat} {c : Nat → Nat} {e : Option Nat} {m : zM}
theorem zIv.split (I : zIv a b n p s l c e m) : zIc a b n p s l c e m ∧ zIm a b n s l c e m := by
  obtain ⟨h1, h2, h3, ⟨q1, q2, q3, q4, q5, q6⟩, h5, ⟨t1, t2, t3, t4⟩, e1, e2, e3⟩ := I
  refine ⟨⟨h1, h2, ⟨q1, q2, q3, q4, fun j hj => ⟨(q6 j hj).1, (q6 j hj).2.1⟩⟩, ?_, ⟨t1, t2, fun t ht => ⟨(t4 t ht).1, (t4 t ht).2.1, (t4 t ht).2.2.1⟩⟩, e1, e3⟩, h3, ⟨q5, fun j hj => (q6 j hj).2.2⟩, ?_, ⟨t3, fun t ht => (t4 t ht).2.2.2⟩, e2⟩
  · cases s with
    | none => exact h5.1
    | some g => exact ⟨h5.1, h5.2.2.1, h5.2.2.2.1⟩
  · cases s with
    | none => exact h5.2
    | some g => exact ⟨h5.2.1, h5.2.2.2.2⟩
theorem zIc.join (I : zIc a b n p s l c e m) (J : zIm a b n s l c e m) : zIv a b n p s l c e m := by
  obtain ⟨h1, h2, ⟨q1, q2, q3, q4, q6⟩, h5, ⟨t1, t2, t4⟩, e1, e3⟩ := I
  obtain ⟨h3, ⟨q5, q7⟩, h6, ⟨t3, t5⟩, e2⟩ := J
  refine ⟨h1, h2, h3, ⟨q1, q2, q3, q4, q5, fun j hj => ⟨(q6 j hj).1, (q6 j hj).2, q7 j hj⟩⟩, ?_, ⟨t1, t2, t3, fun t ht => ⟨(t4 t ht).1, (t4 t ht).2.1, (t4 t ht).2.2, t5 t ht⟩⟩, e1, e2, e3⟩
  cases s with
  | none => exact ⟨h5, h6⟩
  | some g => exact ⟨h5.1, h6.1, h5.2.1, h5.2.2, h6.2⟩
theorem zGp_o {g : Nat} (h : g ≠ 1) (h2 : g < 11) {k i j : Nat} (w : zGp g k i j) : zOc k i j := by
  unfold zGp at w
  unfold zOc
  omega
theorem zIc.keep {m' : zM} (I : zIc a b n p s l c e m) {P : Nat → Nat → Nat → Prop} (f : zFr P m m') (hp : ∀ k i j, zOc k i j → ¬ P k i j) : zIc a b n p s l c e m' := by
  obtain ⟨h1, h2, ⟨q1, q2, q3, q4, q6⟩, h5, ⟨t1, t2, t4⟩, e1, e3⟩ := I
  have g : ∀ k i j, zOc k i j → m'.1 k i j = m.1 k i j := fun k i j w => (f k i j (hp k i j w)).1
  have gr : ∀ {x : zG} {q : Nat}, q ≠ 1 → q < 11 → zGR m q x → zGR m' q x := fun {x q} w1 w2 w3 => w3.keep f fun k i j y => hp k i j (zGp_o w1 w2 y)
  refine ⟨h1, gr (by omega) (by omega) h2, ⟨q1, q2, by rw [g 7 0 1 (by unfold zOc; omega)]; exact q3, by rw [g 7 0 2 (by unfold zOc; omega)]; exact q4, fun j hj => ⟨(q6 j hj).1, gr (by omega) (by omega) (q6 j hj).2⟩⟩, ?_, ⟨t1, by rw [g 10 0 1 (by unfold zOc; omega)]; exact t2, fun t ht => ⟨(t4 t ht).1, (t4 t ht).2.1, by rw [g 34 0 t (by unfold zOc; omega)]; exact (t4 t ht).2.2⟩⟩, by rw [g 12 0 6 (by unfold zOc; omega)]; exact e1, e3⟩
  cases s with
  | none => show m'.1 12 0 3 = 0; rw [g 12 0 3 (by unfold zOc; omega)]; exact h5
  | some x => exact ⟨by rw [g 12 0 3 (by unfold zOc; omega)]; exact h5.1, h5.2.1, gr (by omega) (by omega) h5.2.2⟩
theorem zIm.keep {m' : zM} (I : zIm a b n s l c e m) {P : Nat → Nat → Nat → Prop} (f : zFr P m m') (hp : ∀ k i j, zOm k i j → ¬ P k i j) : zIm a b n s l c e m' := by
  obtain ⟨h3, ⟨q5, q7⟩, h6, ⟨t3, t5⟩, e2⟩ := I
  have g : ∀ k i j, zOm k i j → m'.1 k i j = m.1 k i j := fun k i j w => (f k i j (hp k i j w)).1
  refine ⟨by rw [show m'.1 23 0 = m.1 23 0 from funext fun j => g 23 0 j (by unfold zOm; omega)]; exact h3, ⟨by rw [g 13 0 3 (by unfold zOm; omega)]; exact q5, fun j hj => ?_⟩, ?_, ⟨by rw [g 13 0 8 (by unfold zOm; omega)]; exact t3, fun t ht => by rw [g 25 0 t (by unfold zOm; omega)]; exact t5 t ht⟩, by show m'.1 13 0 10 = zo e; rw [g 13 0 10 (by unfold zOm; omega)]; exact e2⟩
  · rw [show (fun x => m'.1 24 0 (259 * j + x)) = fun x => m.1 24 0 (259 * j + x) from funext fun x => g 24 0 _ (by unfold zOm; omega)]
    exact q7 j hj
  · cases s with
    | none => show m'.1 13 0 5 = 0; rw [g 13 0 5 (by unfold zOm; omega)]; exact h6
    | some x => exact ⟨by rw [g 13 0 5 (by unfold zOm; omega)]; exact h6.1, by rw [show m'.1 23 1 = m.1 23 1 from funext fun j => g 23 1 j (by unfold zOm; omega)]; exact h6.2⟩
/-- frames: only what isn't the reference's; only what isn't the class's nor an output -/
abbrev zNm (k i j : Nat) : Prop := ¬ zOm k i j
abbrev zNc (k i j : Nat) : Prop := ¬ zOc k i j ∧ k ≠ 32 ∧ k ≠ 33
theorem zNm.k {m' : zM} (I : zIm a b n s l c e m) (f : zFr zNm m m') : zIm a b n s l c e m' := I.keep f fun _ _ _ h w => w h
theorem zNc.k {m' : zM} (I : zIc a b n p s l c e m) (f : zFr zNc m m') : zIc a b n p s l c e m' := I.keep f fun _ _ _ h w => w.1 h
theorem zAg.mut {β : Type} (cv : β → Int64) {a' : zG} {b' : Nat → zG} {n' p' : Nat} {s' : Option zG} {l' : Nat} {c' : Nat → Nat} {e' : Option Nat} (J : zIm a b n s l c e m) {X : Option ((β ⊕ Nat) × zM)} {H : Nat → Option Int32} {Y : zM → Option (β × zM)} {v : β}
    (hX : ∃ m1, X = some (.inl v, m1) ∧ zFr zNm m m1 ∧ zIc a' b' n' p' s' l' c' e' m1)
    (hY : ∀ m1, zIm a b n s l c e m1 → ∃ m2, Y m1 = some (v, m2) ∧ zFr zNc m1 m2 ∧ m2.1 13 0 0 = 0 ∧ zIm a' b' n' s' l' c' e' m2) :
    zAg cv (z_bh X (fun r1 m2 => z_gd (z_inb (0 : Int32) (z_alen 32)) <| some ((0 : Int32), (z_sL m2 32 0 (Int32.toNatClampNeg (0 : Int32)) (cv r1)))) H id) Y := by
  obtain ⟨m1, h1, h2, h3⟩ := hX
  have f1 : zFr (fun k i j => k = 32 ∧ i = 0) m1 (z_sL m1 32 0 0 (cv v)) := zFr.sL (zFr.refl m1) _ ⟨rfl, rfl⟩
  have J1 : zIm a b n s l c e (z_sL m1 32 0 0 (cv v)) := (zNm.k J h2).keep f1 fun k i j h w => by unfold zOm at h; omega
  have C1 : zIc a' b' n' p' s' l' c' e' (z_sL m1 32 0 0 (cv v)) := h3.keep f1 fun k i j h w => by unfold zOc at h; omega
  obtain ⟨m2, q1, q2, q3, q4⟩ := hY _ J1
  refine ⟨0, _, v, m2, ?_, q1, q3, fun _ => ?_, a', b', n', p', s', l', c', e', (zNc.k C1 q2).join q4⟩
  · rw [h1]
    rfl
  · rw [(q2 32 0 0 (fun y => y.2.1 rfl)).2.1, zm_L, if_pos ⟨rfl, rfl, rfl⟩]
/-! Remember. -/
def zpsh (b : Nat → zG) (n : Nat) (a : zG) (j : Nat) : zG := if n < 8 then (if j < n then b j else a) else if j < 7 then b (j + 1) else a
abbrev zPrm (k i j : Nat) : Prop := (k = 7 ∧ i = 0 ∧ (j = 1 ∨ j = 2)) ∨ (k = 6 ∧ 3 ≤ i ∧ i < 11 ∧ j < 4) ∨ (k = 20 ∧ 9 ≤ i ∧ i < 33)
theorem zPrm_n {k i j : Nat} (w : zPrm k i j) : zNm k i j := by
  unfold zPrm at w
  unfold zNm zOm
  omega
theorem s_rem (I : zIc a b n p s l c e m) : ∃ m', f_X5_remember 0 m = some m' ∧ zFr zPrm m m' ∧ zIc a (zpsh b n a) (min (n + 1) 8) ((p + 1) % 8) s l c e m' := by
  have I0 := I
  obtain ⟨h1, h2, ⟨q1, q2, q3, q4, q6⟩, h5, ht, he⟩ := I
  have main : ∀ P : Nat, P = (p + 1) % 8 → ∃ m', f_X5_remember_22 0 (Int32.ofNat P) m = some m' ∧ zFr zPrm m m' ∧ zIc a (zpsh b n a) (min (n + 1) 8) ((p + 1) % 8) s l c e m' := fun P hP => by
    have P8 : P < 8 := by omega
    have fA : zFr zPrm m (z_sI m 7 0 1 (Int32.ofNat P)) := zFr.sI (zFr.refl m) _ (.inl ⟨rfl, rfl, .inl rfl⟩)
    have rA : zGR (z_sI m 7 0 1 (Int32.ofNat P)) 0 a := h2.sI _ (by unfold zGp; omega)
    obtain ⟨m1, p1, p2, p3⟩ := s_copyFrom (g := 3 + P) (h := 0) (by omega) rA
    have p2' : zFr zPrm (z_sI m 7 0 1 (Int32.ofNat P)) m1 := p2.mono fun k i j w => by
      unfold zGp at w
      unfold zPrm
      omega
    have slot : f_X5_newestSlot (z_sI m 7 0 1 (Int32.ofNat P)) = some (some (3 + P)) := by
      unfold f_X5_newestSlot
      rw [zm_row, if_pos rfl, if_neg (zi_nn (by omega)), if_neg (by rw [show (Int32.ofNat (z_alen 35)) = Int32.ofNat 8 from rfl, zi_le (by omega) (by omega)]; omega), z_gdt (by rw [zi_inb (by omega), decide_eq_true_eq]; exact P8), zi_nat (by omega)]
    have n1 : m1.1 7 0 2 = Int32.ofNat n := by
      rw [(p2 7 0 2 (by unfold zGp; omega)).1, zm_row, if_neg (by omega)]
      exact q4
    unfold f_X5_remember_22
    rw [slot]
    unfold z_oq f_X5_remember_39
    dsimp only
    rw [z_gdt (decide_eq_true (by omega)), p1, Option.bind_some, n1, zi_s, show (8 : Int32) = Int32.ofNat 8 from rfl, z_min (by omega) (by omega), Option.bind_some]
    have fB : zFr zPrm m1 (z_sI m1 7 0 2 (Int32.ofNat (min (n + 1) 8))) := zFr.sI (zFr.refl m1) _ (.inl ⟨rfl, rfl, .inr rfl⟩)
    have fC : zFr (fun k i j => k = 7 ∧ i = 0) m1 (z_sI m1 7 0 2 (Int32.ofNat (min (n + 1) 8))) := zFr.sI (zFr.refl m1) _ ⟨rfl, rfl⟩
    have fD : zFr (fun k i j => k = 7 ∧ i = 0) m (z_sI m 7 0 1 (Int32.ofNat P)) := zFr.sI (zFr.refl m) _ ⟨rfl, rfl⟩
    have kp : ∀ {x : zG} {q : Nat}, q ≠ 3 + P → zGR m q x → zGR (z_sI m1 7 0 2 (Int32.ofNat (min (n + 1) 8))) q x := fun {x q} w1 w3 => ((w3.keep fD fun k i j y => by unfold zGp at y; omega).keep p2 fun k i j y => by unfold zGp at y ⊢; omega).keep fC fun k i j y => by unfold zGp at y; omega
    have kq : zGR (z_sI m1 7 0 2 (Int32.ofNat (min (n + 1) 8))) (3 + P) a := p3.keep fC fun k i j y => by unfold zGp at y; omega
    have ff := (fA.trans p2').trans fB
    refine ⟨_, rfl, ff, h1, kp (by omega) h2, ⟨by omega, by omega, ?_, by rw [zm_row, if_pos rfl], fun j hj => ?_⟩, ?_, ?_, ?_⟩
    · rw [zm_row, if_neg (by omega), (p2 7 0 1 (by unfold zGp; omega)).1, zm_row, if_pos rfl, hP]
    · by_cases n8 : n < 8
      · rw [show min (n + 1) 8 = n + 1 by omega] at hj ⊢
        have ez : zpsh b n a j = if j < n then b j else a := if_pos n8
        rw [ez]
        by_cases w : j < n
        · rw [if_pos w]
          obtain ⟨g1, g2⟩ := q6 j w
          refine ⟨g1, kp (by omega) ?_⟩
          have : ((p + 1) % 8 + 8 - (n + 1 - 1 - j)) % 8 = (p + 8 - (n - 1 - j)) % 8 := by omega
          rw [this]
          exact g2
        · rw [if_neg w]
          refine ⟨h1, ?_⟩
          have : ((p + 1) % 8 + 8 - (n + 1 - 1 - j)) % 8 = P := by omega
          rw [this]
          exact kq
      · rw [show min (n + 1) 8 = 8 by omega] at hj ⊢
        have ez : zpsh b n a j = if j < 7 then b (j + 1) else a := if_neg n8
        rw [ez]
        by_cases w : j < 7
        · rw [if_pos w]
          obtain ⟨g1, g2⟩ := q6 (j + 1) (by omega)
          refine ⟨g1, kp (by omega) ?_⟩
          have : ((p + 1) % 8 + 8 - (8 - 1 - j)) % 8 = (p + 8 - (n - 1 - (j + 1))) % 8 := by omega
          rw [this]
          exact g2
        · rw [if_neg w]
          refine ⟨h1, ?_⟩
          have : ((p + 1) % 8 + 8 - (8 - 1 - j)) % 8 = P := by omega
          rw [this]
          exact kq
    · have g3 := (ff 12 0 3 (by unfold zPrm; omega)).1
      cases s with
      | none => exact g3.trans h5
      | some x => exact ⟨g3.trans h5.1, h5.2.1, kp (by omega) h5.2.2⟩
    · exact ⟨ht.1, ((ff 10 0 1 (by unfold zPrm; omega)).1).trans ht.2.1, fun t w => ⟨(ht.2.2 t w).1, (ht.2.2 t w).2.1, ((ff 34 0 t (by unfold zPrm; omega)).1).trans (ht.2.2 t w).2.2⟩⟩
    · exact ⟨((ff 12 0 6 (by unfold zPrm; omega)).1).trans he.1, he.2⟩
  unfold f_X5_remember
  rw [q3, zi_s, show (8 : Int32) = Int32.ofNat 8 from rfl]
  by_cases w : p = 7
  · rw [if_pos (by rw [zi_le (by omega) (by omega)]; omega)]
    exact main 0 (by omega)
  · rw [if_neg (by rw [zi_le (by omega) (by omega)]; omega)]
    exact main (p + 1) (by omega)
/-! The reference's changes. -/
abbrev zPch (k i j : Nat) : Prop := (k = 24 ∧ i = 0) ∨ (k = 13 ∧ i = 0 ∧ j = 3)
theorem z_in24 {c : Nat} (h : c < 2072) : z_inb (Int32.ofNat c) (z_alen 24) = true := by
  rw [zi_inb (by omega), decide_eq_true_eq]
  exact h
theorem s_chg_52 {n : Nat} (hn : n < 8) {f : Nat → Int32} : ∀ (j x : Nat) (m : zM), x ≤ 259 → 259 - x < j → m.1 13 0 3 = Int32.ofNat n → (∀ y, y < 259 → m.1 23 0 y = f y) → (∀ y, y < x → m.1 24 0 (259 * n + y) = f y) → ∃ m', f_X12_changes_52 j (Int32.ofNat x) m = some m' ∧ zFr zPch m m' ∧ m'.1 13 0 3 = Int32.ofNat (n + 1) ∧ (∀ y, y < 259 → m'.1 24 0 (259 * n + y) = f y) ∧ ∀ y, y < 259 * n → m'.1 24 0 y = m.1 24 0 y
  | 0, _, _, _, h, _, _, _ => absurd h (Nat.not_lt_zero _)
  | j + 1, x, m, hx, hj, h3, hf, hk => by
    unfold f_X12_changes_52
    rw [h3, show (259 : Int32) = Int32.ofNat 259 from rfl]
    by_cases he : x = 259
    · subst he
      rw [if_pos (by rw [zi_le (by omega) (by omega)]; omega), zi_s]
      exact ⟨_, rfl, zFr.sI (zFr.refl m) _ (.inr ⟨rfl, rfl, rfl⟩), by rw [zm_row, if_pos rfl], fun y hy => by rw [zm_ot _ _ _ _ (by omega)]; exact hk y hy, fun y hy => by rw [zm_ot _ _ _ _ (by omega)]⟩
    · rw [if_neg (by rw [zi_le (by omega) (by omega)]; omega), z_gdt (z_in23 (by omega)), zi_mul, zi_add, z_gdt (z_in24 (by omega)), zi_nat (by omega), zi_nat (by omega), zi_s, hf x (by omega)]
      obtain ⟨m', p1, p2, p3, p4, p5⟩ := s_chg_52 hn (f := f) j (x + 1) (z_sI m 24 0 (259 * n + x) (f x)) (by omega) (by omega) (by rw [zm_ot _ _ _ _ (by omega)]; exact h3) (fun y hy => by rw [zm_ot _ _ _ _ (by omega)]; exact hf y hy) fun y hy => by
        rw [zm_row]
        by_cases w : y = x
        · rw [w, if_pos rfl]
        · rw [if_neg (by omega)]
          exact hk y (by omega)
      refine ⟨m', p1, (zFr.sI (zFr.refl m) _ (.inl ⟨rfl, rfl⟩)).trans p2, p3, p4, fun y hy => ?_⟩
      rw [p5 y hy, zm_row, if_neg (by omega)]
theorem s_chg_11 {f g : Nat → Int32} : ∀ (j x : Nat) (m : zM), x ≤ 1813 → 1813 - x < j → m.1 13 0 3 = Int32.ofNat 8 → (∀ y, y < 259 → m.1 23 0 y = f y) → (∀ y, y < 2072 → m.1 24 0 y = if y < x then g (y + 259) else g y) → ∃ m', f_X12_changes_11 j (Int32.ofNat x) m = some m' ∧ zFr zPch m m' ∧ m'.1 13 0 3 = Int32.ofNat 8 ∧ (∀ y, y < 259 → m'.1 24 0 (259 * 7 + y) = f y) ∧ ∀ y, y < 1813 → m'.1 24 0 y = g (y + 259)
  | 0, _, _, _, h, _, _, _ => absurd h (Nat.not_lt_zero _)
  | j + 1, x, m, hx, hj, h3, hf, hk => by
    unfold f_X12_changes_11
    rw [h3, show (1813 : Int32) = Int32.ofNat 1813 from rfl]
    by_cases he : x = 1813
    · subst he
      rw [if_pos (by rw [zi_le (by omega) (by omega)]; omega), zi_q (by omega)]
      unfold f_X12_changes_50
      obtain ⟨m', p1, p2, p3, p4, p5⟩ := s_chg_52 (n := 7) (by omega) (f := f) zF 0 (z_sI m 13 0 3 (Int32.ofNat (8 - 1))) (by omega) (zF_lt (by omega)) (by rw [zm_row, if_pos rfl]) (fun y hy => by rw [zm_ot _ _ _ _ (by omega)]; exact hf y hy) fun y hy => absurd hy (Nat.not_lt_zero _)
      refine ⟨m', p1, (zFr.sI (zFr.refl m) _ (.inr ⟨rfl, rfl, rfl⟩)).trans p2, p3, p4, fun y hy => ?_⟩
      rw [p5 y (by omega), zm_ot _ _ _ _ (by omega), hk y (by omega), if_pos hy]
    · rw [if_neg (by rw [zi_le (by omega) (by omega)]; omega), show (259 : Int32) = Int32.ofNat 259 from rfl, zi_add, z_gdt (z_in24 (by omega)), z_gdt (z_in24 (by omega)), zi_nat (by omega), zi_nat (by omega), zi_s, hk (259 + x) (by omega), if_neg (by omega)]
      obtain ⟨m', p1, p2, p3, p4, p5⟩ := s_chg_11 (f := f) (g := g) j (x + 1) (z_sI m 24 0 x (g (259 + x))) (by omega) (by omega) (by rw [zm_ot _ _ _ _ (by omega)]; exact h3) (fun y hy => by rw [zm_ot _ _ _ _ (by omega)]; exact hf y hy) fun y hy => by
        rw [zm_row]
        by_cases w : y = x
        · rw [w, if_pos rfl, if_pos (by omega), Nat.add_comm]
        · rw [if_neg w, hk y hy]
          by_cases w2 : y < x
          · rw [if_pos w2, if_pos (by omega)]
          · rw [if_neg w2, if_neg (by omega)]
      exact ⟨m', p1, (zFr.sI (zFr.refl m) _ (.inl ⟨rfl, rfl⟩)).trans p2, p3, p4, p5⟩
theorem zMR.ext {f g : Nat → Int32} (r : zMR f a) (h : ∀ y, y < 259 → g y = f y) : zMR g a := by
  obtain ⟨h1, h2, h3, h4, h5, h6, h7⟩ := r
  exact ⟨by rw [h 0 (by omega)]; exact h1, by rw [h 1 (by omega)]; exact h2, by rw [h 2 (by omega)]; exact h3, fun d hd => by rw [h _ (by omega)]; exact h4 d hd, fun d hd => by rw [h _ (by omega)]; exact h5 d hd, fun d hd => by rw [h _ (by omega)]; exact h6 d hd, fun d hd => by rw [h _ (by omega)]; exact h7 d hd⟩
theorem zPch_n {k i j : Nat} (w : zPch k i j) : zNc k i j := by
  unfold zPch at w
  unfold zNc zOc
  omega
theorem s_chg (hn : n ≤ 8) (I : zIm a b n s l c e m) : ∃ m', f_X12_changes m = some m' ∧ zFr zPch m m' ∧ zIm a (zpsh b n a) (min (n + 1) 8) s l c e m' := by
  obtain ⟨h3, ⟨q5, q7⟩, h6, ⟨t3, t5⟩, e2⟩ := I
  have fin : ∀ m', zFr zPch m m' → zHm (zpsh b n a) (min (n + 1) 8) m' → zIm a (zpsh b n a) (min (n + 1) 8) s l c e m' := fun m' f h => by
    refine ⟨by rw [f.row (fun j => by unfold zPch; omega)]; exact h3, h, ?_, ⟨((f 13 0 8 (by unfold zPch; omega)).1).trans t3, fun t w => ((f 25 0 t (by unfold zPch; omega)).1).trans (t5 t w)⟩, ((f 13 0 10 (by unfold zPch; omega)).1).trans e2⟩
    have g3 := (f 13 0 5 (by unfold zPch; omega)).1
    cases s with
    | none => exact g3.trans h6
    | some x => exact ⟨g3.trans h6.1, by rw [f.row (fun j => by unfold zPch; omega)]; exact h6.2⟩
  unfold f_X12_changes
  rw [q5]
  by_cases n8 : n = 8
  · rw [if_pos (by rw [n8]; rfl)]
    subst n8
    obtain ⟨m', p1, p2, p3, p4, p5⟩ := s_chg_11 (f := m.1 23 0) (g := m.1 24 0) zF 0 m (by omega) (zF_lt (by omega)) q5 (fun _ _ => rfl) fun y _ => by rw [if_neg (by omega)]
    refine ⟨m', p1, p2, fin m' p2 ⟨p3, fun j hj => ?_⟩⟩
    have hj8 : j < 8 := hj
    have ez : zpsh b 8 a j = if j < 7 then b (j + 1) else a := if_neg (by omega)
    rw [ez]
    by_cases w : j < 7
    · rw [if_pos w]
      refine (q7 (j + 1) (by omega)).ext fun y hy => ?_
      show m'.1 24 0 (259 * j + y) = m.1 24 0 (259 * (j + 1) + y)
      rw [p5 _ (by omega), show 259 * (j + 1) + y = 259 * j + y + 259 by omega]
    · rw [if_neg w]
      refine h3.ext fun y hy => ?_
      show m'.1 24 0 (259 * j + y) = _
      rw [show j = 7 by omega]
      exact p4 y hy
  · rw [if_neg (by rw [show (8 : Int32) = Int32.ofNat 8 from rfl, zi_eq (by omega) (by omega)]; exact n8)]
    unfold f_X12_changes_50
    obtain ⟨m', p1, p2, p3, p4, p5⟩ := s_chg_52 (n := n) (by omega) (f := m.1 23 0) zF 0 m (by omega) (zF_lt (by omega)) q5 (fun _ _ => rfl) fun y hy => absurd hy (Nat.not_lt_zero _)
    have em : min (n + 1) 8 = n + 1 := by omega
    refine ⟨m', p1, p2, fin m' p2 ⟨by rw [em]; exact p3, fun j hj => ?_⟩⟩
    have ez : zpsh b n a j = if j < n then b j else a := if_pos (by omega)
    rw [ez]
    by_cases w : j < n
    · rw [if_pos w]
      refine (q7 j w).ext fun y hy => ?_
      exact p5 _ (by omega)
    · rw [if_neg w]
      refine h3.ext fun y hy => ?_
      show m'.1 24 0 (259 * j + y) = _
      rw [show j = n by omega]
      exact p4 y hy
end
