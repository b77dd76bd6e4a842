/-! Texts that are carried out: the class's side. -/
def zrn (l : Nat) (c : Nat → Nat) (n : Nat) : Nat → Nat → Nat ⊕ List (Nat × Nat × Nat)
  | 0, _ => .inl 0
  | j + 1, p => match zcd l c n p with
    | .inl e => .inl e
    | .inr y => if y.2.2.2 < l then (if zsg l c y.2.2.2 = 59 then (match zrn l c n j (y.2.2.2 + 1) with
        | .inl e => .inl e
        | .inr L => .inr ((y.1, y.2.1, y.2.2.1) :: L)) else .inl y.2.2.2) else .inr [(y.1, y.2.1, y.2.2.1)]
def zac (x : zG) (y : Nat × Nat × Nat) : zG := if y.1 = 104 then x.sH y.2.1 y.2.2 else if y.1 = 114 then x.sR y.2.1 y.2.2 else if y.1 = 115 then x.sS y.2.1 y.2.2 else x.sO y.2.1 (decide (y.2.2 = 1))
def zbr (x : zG) (y : Nat × Nat × Nat) : Bool := decide (y.1 = 111) && (decide (y.2.2 = 0) && (x.ou y.2.1 && decide (z_cnt x.ou x.n = 1)))
def zap : zG → List (Nat × Nat × Nat) → Option zG
  | x, [] => some x
  | x, y :: L => if zbr x y = true then none else zap (zac x y) L
def zcV (n : Nat) (y : Nat × Nat × Nat) : Prop := zkn y.1 = true ∧ y.2.1 < n ∧ y.2.2 ≤ 99 ∧ (y.1 = 114 ∨ y.1 = 115 → y.2.2 ≤ 9) ∧ (y.1 = 111 → y.2.2 ≤ 1)
theorem zac_n (x : zG) (y : Nat × Nat × Nat) : (zac x y).n = x.n := by
  unfold zac
  split
  · rfl
  · split
    · rfl
    · split
      · rfl
      · rfl
theorem zac_v {x : zG} (v : zGV x) {y : Nat × Nat × Nat} (h : zcV x.n y) (nb : zbr x y = false) : zGV (zac x y) := by
  obtain ⟨h1, h2, h3, h4, h5⟩ := h
  have k4 := zkn_iff.mp h1
  unfold zac
  by_cases w1 : y.1 = 104
  · rw [if_pos w1]
    exact v.sH h3
  · rw [if_neg w1]
    by_cases w2 : y.1 = 114
    · rw [if_pos w2]
      exact v.sR (h4 (.inl w2))
    · rw [if_neg w2]
      by_cases w3 : y.1 = 115
      · rw [if_pos w3]
        exact v.sS (h4 (.inr w3))
      · rw [if_neg w3]
        have w4 : y.1 = 111 := by omega
        have u1 := h5 w4
        by_cases w5 : y.2.2 = 1
        · rw [decide_eq_true w5]
          exact v.sO h2 (.inl rfl)
        · rw [decide_eq_false w5]
          refine v.sO h2 (.inr ?_)
          have u0 : y.2.2 = 0 := by omega
          unfold zbr at nb
          rw [decide_eq_true w4, decide_eq_true u0, Bool.true_and, Bool.true_and] at nb
          cases ho : x.ou y.2.1 with
          | false =>
            obtain ⟨q, q1, q2⟩ := v.ou
            exact ⟨q, (fun w => by rw [w, ho] at q2; cases q2), q1, q2⟩
          | true =>
            rw [ho, Bool.true_and, decide_eq_false_iff_not] at nb
            exact Classical.byContradiction fun w => nb ((z_cnt_1 h2 ho).mpr fun q q1 q2 => Bool.eq_false_iff.mpr fun q3 => w ⟨q, q2, q1, q3⟩)
abbrev zPx9 (k i j : Nat) : Prop := zP9 k i j ∨ zGp 1 k i j
theorem zPx9_c {k i j : Nat} (w : zPx9 k i j) : ¬ zPro k i j := by
  rcases w with w | w
  · unfold zP9 at w
    unfold zPro
    omega
  · exact zGp1 w
section
variable {l n : Nat} {c : Nat → Nat}
theorem zsg_out {q : Nat} (h : ¬ q < l) : zsg l c q = 0 := if_neg h
theorem zTxc.in33 {m : zM} (T : zTxc l c m) {q : Nat} (h : q < l) : 33 ≤ zsg l c q := by
  unfold zsg
  rw [if_pos h]
  exact (T.2.2 q h).1
theorem zTxc.kco {m m' : zM} (T : zTxc l c m) (f : zFr zPx9 m m') : zTxc l c m' := by
  obtain ⟨h1, h2, h3⟩ := T
  exact ⟨h1, by rw [(f 10 0 1 (by unfold zPx9 zP9 zGp; omega)).1]; exact h2, fun t ht => by rw [(f 34 0 t (by unfold zPx9 zP9 zGp; omega)).1]; exact h3 t ht⟩
theorem s_ct (hn : n ≤ 64) : ∀ (j J p x k : Nat) (m : zM), l - p < j → l - p < J → p ≤ l → 2 * k ≤ p → zTxc l c m → m.1 10 0 3 = Int32.ofNat p → ∃ m', zFr zP9 m m' ∧ match zrn l c n j p with
    | .inl e => e ≤ l ∧ f_X9_countCommands_9 J (Int32.ofNat n) (Int32.ofNat x) (Int32.ofNat k) m = some (-1, m') ∧ m'.1 10 0 2 = Int32.ofNat e
    | .inr L => f_X9_countCommands_9 J (Int32.ofNat n) (Int32.ofNat x) (Int32.ofNat k) m = some (Int32.ofNat (x + L.length), m')
  | 0, _, _, _, _, _, h, _, _, _, _, _ => absurd h (Nat.not_lt_zero _)
  | j + 1, 0, _, _, _, _, _, h, _, _, _, _ => absurd h (Nat.not_lt_zero _)
  | j + 1, J + 1, p, x, k, m, hj, hJ, hpl, hk, T, hp => by
    have l60 := T.1
    have b := zcd_b (l := l) (n := n) (c := c) hpl
    obtain ⟨r, m1, q1, q2, q3⟩ := s_rc T hp hpl hn
    have f2 : ∀ r, zFr zP9 m1 (z_sI m1 10 0 2 r) := fun r => zFr.sI (zFr.refl m1) _ ⟨rfl, rfl, by omega, by omega⟩
    unfold f_X9_countCommands_9 zrn
    rw [show (60 : Int32) = Int32.ofNat 60 from rfl, if_neg (by rw [zi_le (by omega) (by omega)]; omega), q1, Option.bind_some]
    dsimp only
    cases hz : zcd l c n p with
    | inl e =>
      rw [hz] at q3 b
      have er : r = Int32.ofNat e := q3
      have el : e ≤ l := b
      rw [zm_row, if_pos rfl, er, if_neg (zi_m1 (by omega))]
      exact ⟨_, q2.trans (f2 _), el, rfl, by rw [zm_row, if_pos rfl]⟩
    | inr y =>
      rw [hz] at q3 b
      obtain ⟨rr, g3, g4, g5, g6⟩ := q3
      obtain ⟨b1, b2, b3, b4, b5, b6, b7⟩ := b
      subst rr
      have h2 : (z_sI m1 10 0 2 (-1)).1 10 0 3 = Int32.ofNat y.2.2.2 := by
        rw [zm_row, if_neg (by omega)]
        exact g3
      have fM := q2.trans (f2 (-1))
      have TM := T.k9 fM
      have e2 : (z_sI m1 10 0 2 (-1)).1 10 0 2 = -1 := by rw [zm_row, if_pos rfl]
      generalize z_sI m1 10 0 2 (-1) = M at h2 fM TM e2 ⊢
      have hs := TM.b y.2.2.2
      dsimp only
      rw [e2, if_pos rfl, s_sign TM h2 (by omega), Option.bind_some]
      by_cases w : y.2.2.2 < l
      · have h33 := TM.in33 w
        rw [if_pos w, if_neg (show ¬ Int32.ofNat (zsg l c y.2.2.2) = 0 by rw [zi_0 (by omega)]; omega), Option.bind_some, show (59 : Int32) = Int32.ofNat 59 from rfl]
        by_cases w2 : zsg l c y.2.2.2 = 59
        · rw [if_pos w2, if_pos (show Int32.ofNat (zsg l c y.2.2.2) = Int32.ofNat 59 by rw [w2]), h2, zi_s, zi_s, zi_s]
          have fN : zFr zP9 M (z_sI M 10 0 3 (Int32.ofNat (y.2.2.2 + 1))) := zFr.sI (zFr.refl M) _ ⟨rfl, rfl, by omega, by omega⟩
          obtain ⟨m', f', r'⟩ := s_ct hn j J (y.2.2.2 + 1) (x + 1) (k + 1) (z_sI M 10 0 3 (Int32.ofNat (y.2.2.2 + 1))) (by omega) (by omega) (by omega) (by omega) (TM.k9 fN) (by rw [zm_row, if_pos rfl])
          cases hr : zrn l c n j (y.2.2.2 + 1) with
          | inl e =>
            rw [hr] at r'
            exact ⟨m', (fM.trans fN).trans f', r'⟩
          | inr L =>
            rw [hr] at r'
            refine ⟨m', (fM.trans fN).trans f', ?_⟩
            have r' : f_X9_countCommands_9 J (Int32.ofNat n) (Int32.ofNat (x + 1)) (Int32.ofNat (k + 1)) (z_sI M 10 0 3 (Int32.ofNat (y.2.2.2 + 1))) = some (Int32.ofNat (x + 1 + L.length), m') := r'
            show f_X9_countCommands_9 J (Int32.ofNat n) (Int32.ofNat (x + 1)) (Int32.ofNat (k + 1)) (z_sI M 10 0 3 (Int32.ofNat (y.2.2.2 + 1))) = some (Int32.ofNat (x + (L.length + 1)), m')
            rw [r', show x + 1 + L.length = x + (L.length + 1) by omega]
        · rw [if_neg w2, if_neg (show ¬ Int32.ofNat (zsg l c y.2.2.2) = Int32.ofNat 59 by rw [zi_eq (by omega) (by omega)]; exact w2), h2]
          have fN : zFr zP9 M (z_sI M 10 0 2 (Int32.ofNat y.2.2.2)) := zFr.sI (zFr.refl M) _ ⟨rfl, rfl, by omega, by omega⟩
          exact ⟨_, fM.trans fN, b7, rfl, by rw [zm_row, if_pos rfl]⟩
      · rw [if_neg w, zsg_out w, if_pos (show Int32.ofNat 0 = 0 from rfl), zi_s]
        exact ⟨_, fM, rfl⟩
theorem s_coc {x : zG} (v : zGV x) {m : zM} (r : zGR m 1 x) {y : Nat × Nat × Nat} (h : zcV x.n y) (h4 : m.1 10 0 4 = Int32.ofNat y.1) (h5 : m.1 10 0 5 = Int32.ofNat y.2.1) (h6 : m.1 10 0 6 = Int32.ofNat y.2.2) : ∃ m', f_X9_carryOutCommand 1 m = some m' ∧ zFr (zGp 1) m m' ∧ zGR m' 1 (zac x y) := by
  obtain ⟨q1, q2, q3, q4, q5⟩ := h
  have n64 := v.n64
  have k4 := zkn_iff.mp q1
  have hd : y.2.1 < z_alen 20 := show y.2.1 < 64 by omega
  unfold f_X9_carryOutCommand f_X9_carryOutCommand_112 zac
  rw [h4, h5, h6, show (104 : Int32) = Int32.ofNat 104 from rfl, show (114 : Int32) = Int32.ofNat 114 from rfl, show (115 : Int32) = Int32.ofNat 115 from rfl]
  by_cases w1 : y.1 = 104
  · rw [if_pos (by rw [zi_eq (by omega) (by omega)]; exact w1), if_pos w1, s_put 20 (3 * 1) hd, Option.bind_some]
    exact ⟨_, rfl, zFr.sI (zFr.refl m) _ (.inr ⟨rfl, .inl rfl⟩), r.sH _⟩
  · rw [if_neg (by rw [zi_eq (by omega) (by omega)]; exact w1), if_neg w1]
    by_cases w2 : y.1 = 114
    · rw [if_pos (by rw [zi_eq (by omega) (by omega)]; exact w2), if_pos w2, s_put 20 (3 * 1 + 1) hd, Option.bind_some]
      exact ⟨_, rfl, zFr.sI (zFr.refl m) _ (.inr ⟨rfl, .inr (.inl rfl)⟩), r.sR _⟩
    · rw [if_neg (by rw [zi_eq (by omega) (by omega)]; exact w2), if_neg w2]
      by_cases w3 : y.1 = 115
      · rw [if_pos (by rw [zi_eq (by omega) (by omega)]; exact w3), if_pos w3, s_put 20 (3 * 1 + 2) hd, Option.bind_some]
        exact ⟨_, rfl, zFr.sI (zFr.refl m) _ (.inr ⟨rfl, .inr (.inr rfl)⟩), r.sS _⟩
      · have fin : ∀ u : Bool, ∃ m', (Option.bind (f_X4_markOutlet 1 (Int32.ofNat y.2.1) (z_bi u) m) fun r1 => some r1) = some m' ∧ zFr (zGp 1) m m' ∧ zGR m' 1 (x.sO y.2.1 u) := fun u => by
          obtain ⟨z, z1, z2⟩ := s_mark v r q2 u
          rw [z1, Option.bind_some]
          exact ⟨_, rfl, zFr.sL (zFr.refl m) _ (.inl ⟨rfl, rfl, by omega⟩), r.sO z2⟩
        rw [if_neg (by rw [zi_eq (by omega) (by omega)]; exact w3), if_neg w3]
        by_cases w5 : y.2.2 = 1
        · rw [if_pos (by rw [w5]; rfl), decide_eq_true w5]
          exact fin true
        · rw [if_neg (by rw [show (1 : Int32) = Int32.ofNat 1 from rfl, zi_eq (by omega) (by omega)]; exact w5), decide_eq_false w5]
          exact fin false
theorem s_only {x : zG} (v : zGV x) {m : zM} {g : Nat} (r : zGR m g x) {d : Nat} (hd : d < x.n) : f_X4_isOnlyOutlet g (Int32.ofNat d) m = some (x.ou d && decide (z_cnt x.ou x.n = 1)) := by
  have n64 := v.n64
  have hc := z_cnt_le x.ou x.n
  unfold f_X4_isOnlyOutlet
  rw [s_outlet v r hd, Option.bind_some]
  cases ho : x.ou d with
  | false =>
    rw [if_pos (by decide)]
    rfl
  | true =>
    rw [if_neg (by decide), s_bitn v (zGR.on v r), Option.bind_some]
    by_cases w : z_cnt x.ou x.n = 1
    · rw [if_pos (by rw [w]; rfl), decide_eq_true w]
      rfl
    · rw [if_neg (by rw [show (1 : Int32) = Int32.ofNat 1 from rfl, zi_eq (by omega) (by omega)]; exact w), decide_eq_false w]
      rfl
theorem s_co : ∀ (j J p k : Nat) (x : zG) (L : List (Nat × Nat × Nat)) (m : zM), l - p < j → l - p < J → p ≤ l → 2 * k ≤ p → zTxc l c m → m.1 10 0 3 = Int32.ofNat p → zGV x → x.n = n → zGR m 1 x → zrn l c n j p = .inr L → ∃ m', zFr zPx9 m m' ∧ match zap x L with
    | some y => f_X9_carryOut_7 1 J (Int32.ofNat k) m = some (true, m') ∧ zGR m' 1 y ∧ zGV y ∧ y.n = n
    | none => f_X9_carryOut_7 1 J (Int32.ofNat k) m = some (false, m')
  | 0, _, _, _, _, _, _, h, _, _, _, _, _, _, _, _, _ => absurd h (Nat.not_lt_zero _)
  | j + 1, 0, _, _, _, _, _, _, h, _, _, _, _, _, _, _, _ => absurd h (Nat.not_lt_zero _)
  | j + 1, J + 1, p, k, x, L, m, hj, hJ, hpl, hk, T, hp, v, xn, r, hL => by
    have l60 := T.1
    have n64 := v.n64
    have b := zcd_b (l := l) (n := n) (c := c) hpl
    obtain ⟨q, m1, q1, q2, q3⟩ := s_rc T hp hpl (n := n) (by omega)
    unfold zrn at hL
    cases hz : zcd l c n p with
    | inl e =>
      rw [hz] at hL
      cases hL
    | inr y =>
      rw [hz] at hL q3 b
      obtain ⟨rr, g3, g4, g5, g6⟩ := q3
      obtain ⟨b1, b2, b3, b4, b5, b6, b7⟩ := b
      dsimp only at hL
      have hV : zcV x.n (y.1, y.2.1, y.2.2.1) := ⟨b1, by rw [xn]; exact b2, b3, b4, b5⟩
      have k4 := zkn_iff.mp b1
      have f2 : zFr zP9 m1 (z_sI m1 10 0 3 (Int32.ofNat (y.2.2.2 + 1))) := zFr.sI (zFr.refl m1) _ ⟨rfl, rfl, by omega, by omega⟩
      have h3 : (z_sI m1 10 0 3 (Int32.ofNat (y.2.2.2 + 1))).1 10 0 3 = Int32.ofNat (y.2.2.2 + 1) := by rw [zm_row, if_pos rfl]
      have h4 : (z_sI m1 10 0 3 (Int32.ofNat (y.2.2.2 + 1))).1 10 0 4 = Int32.ofNat y.1 := by
        rw [zm_row, if_neg (by omega)]
        exact g4
      have h5 : (z_sI m1 10 0 3 (Int32.ofNat (y.2.2.2 + 1))).1 10 0 5 = Int32.ofNat y.2.1 := by
        rw [zm_row, if_neg (by omega)]
        exact g5
      have h6 : (z_sI m1 10 0 3 (Int32.ofNat (y.2.2.2 + 1))).1 10 0 6 = Int32.ofNat y.2.2.1 := by
        rw [zm_row, if_neg (by omega)]
        exact g6
      have fM := q2.trans f2
      have TM := T.k9 fM
      have rM := r.keep fM fun k i j w => by unfold zGp at w; unfold zP9; omega
      unfold f_X9_carryOut_7
      rw [show (60 : Int32) = Int32.ofNat 60 from rfl, if_neg (by rw [zi_le (by omega) (by omega)]; omega), T.2.1, hp, if_neg (by rw [zi_le (by omega) (by omega)]; omega), s_size v r, Option.bind_some, xn, q1, Option.bind_some]
      dsimp only
      rw [g3, zi_s]
      generalize z_sI m1 10 0 3 (Int32.ofNat (y.2.2.2 + 1)) = M at h3 h4 h5 h6 fM TM rM ⊢
      rw [h4, h5, h6, s_only v rM hV.2.1, show (111 : Int32) = Int32.ofNat 111 from rfl]
      obtain ⟨m2, u1, u2, u3⟩ := s_coc v rM hV h4 h5 h6
      have go : zbr x (y.1, y.2.1, y.2.2.1) = false → ∃ m', zFr zPx9 m m' ∧ match zap x L with
          | some y => f_X9_carryOut_72 1 (f_X9_carryOut_7 1 J) (Int32.ofNat k) M = some (true, m') ∧ zGR m' 1 y ∧ zGV y ∧ y.n = n
          | none => f_X9_carryOut_72 1 (f_X9_carryOut_7 1 J) (Int32.ofNat k) M = some (false, m') := fun nb => by
        have v2 := zac_v v hV nb
        have n2 := zac_n x (y.1, y.2.1, y.2.2.1)
        have fF : zFr zPx9 m m2 := (fM.mono fun k i j w => .inl w).trans (u2.mono fun k i j w => .inr w)
        have p2 : m2.1 10 0 3 = Int32.ofNat (y.2.2.2 + 1) := by
          rw [(u2 10 0 3 (by unfold zGp; omega)).1]
          exact h3
        unfold f_X9_carryOut_72
        rw [u1, Option.bind_some, zi_s]
        by_cases w : y.2.2.2 < l
        · rw [if_pos w] at hL
          by_cases w2 : zsg l c y.2.2.2 = 59
          · rw [if_pos w2] at hL
            cases hr : zrn l c n j (y.2.2.2 + 1) with
            | inl e =>
              rw [hr] at hL
              cases hL
            | inr L2 =>
              rw [hr] at hL
              cases hL
              obtain ⟨m', f', r'⟩ := s_co j J (y.2.2.2 + 1) (k + 1) (zac x (y.1, y.2.1, y.2.2.1)) L2 m2 (by omega) (by omega) (by omega) (by omega) (T.kco fF) p2 v2 (n2.trans xn) u3 hr
              refine ⟨m', fF.trans f', ?_⟩
              unfold zap
              rw [nb, if_neg Bool.false_ne_true]
              exact r'
          · rw [if_neg w2] at hL
            cases hL
        · rw [if_neg w] at hL
          cases hL
          refine ⟨m2, fF, ?_⟩
          unfold zap
          rw [nb, if_neg Bool.false_ne_true]
          obtain ⟨J2, rfl⟩ : ∃ J2, J = J2 + 1 := ⟨J - 1, by omega⟩
          refine ⟨?_, u3, v2, n2.trans xn⟩
          unfold f_X9_carryOut_7
          rw [show (60 : Int32) = Int32.ofNat 60 from rfl, if_neg (by rw [zi_le (by omega) (by omega)]; omega), (T.kco fF).2.1, p2, if_pos (by rw [zi_le (by omega) (by omega)]; omega)]
      by_cases w4 : y.1 = 111
      · rw [if_pos (by rw [zi_eq (by omega) (by omega)]; exact w4)]
        by_cases w5 : y.2.2.1 = 0
        · rw [if_pos (by rw [w5]; rfl), Option.bind_some]
          cases hb : (x.ou y.2.1 && decide (z_cnt x.ou x.n = 1)) with
          | false =>
            rw [if_pos (by decide)]
            exact go (by unfold zbr; rw [show (x.ou (y.1, y.2.1, y.2.2.1).2.1 && decide (z_cnt x.ou x.n = 1)) = false from hb, Bool.and_false, Bool.and_false])
          | true =>
            have hbr : zbr x (y.1, y.2.1, y.2.2.1) = true := by
              unfold zbr
              rw [show (x.ou (y.1, y.2.1, y.2.2.1).2.1 && decide (z_cnt x.ou x.n = 1)) = true from hb, decide_eq_true (show (y.1, y.2.1, y.2.2.1).1 = 111 from w4), decide_eq_true (show (y.1, y.2.1, y.2.2.1).2.2 = 0 from w5)]
              rfl
            rw [if_neg (by decide)]
            refine ⟨M, fM.mono fun k i j w => .inl w, ?_⟩
            have hN : zap x L = none := by
              by_cases w : y.2.2.2 < l
              · rw [if_pos w] at hL
                by_cases w2 : zsg l c y.2.2.2 = 59
                · rw [if_pos w2] at hL
                  cases hr : zrn l c n j (y.2.2.2 + 1) with
                  | inl e =>
                    rw [hr] at hL
                    cases hL
                  | inr L2 =>
                    rw [hr] at hL
                    cases hL
                    unfold zap
                    rw [if_pos hbr]
                · rw [if_neg w2] at hL
                  cases hL
              · rw [if_neg w] at hL
                cases hL
                unfold zap
                rw [if_pos hbr]
            rw [hN]
        · rw [if_neg (by rw [zi_0 (by omega)]; exact w5)]
          exact go (by unfold zbr; rw [decide_eq_false (show ¬ (y.1, y.2.1, y.2.2.1).2.2 = 0 from w5), Bool.false_and, Bool.and_false])
      · rw [if_neg (by rw [zi_eq (by omega) (by omega)]; exact w4)]
        exact go (by unfold zbr; rw [decide_eq_false (show ¬ (y.1, y.2.1, y.2.2.1).1 = 111 from w4), Bool.false_and])
end
