/-! execute agrees. -/
theorem zAg.mux {β : Type} (cv : β → Int64) {a : zG} {b : Nat → zG} {n : Nat} {s : Option zG} {l : Nat} {c : Nat → Nat} {e : Option Nat} {m : zM} {a' : zG} {b' : Nat → zG} {n' p' : Nat} {s' : Option zG} {l' : Nat} {c' : Nat → Nat} {e' : Option Nat} (J : zIm a b n s l c e m) {X : Option ((β ⊕ Nat) × zM)} {B : β → zM → Option (Int32 × zM)} {H : Nat → Option Int32} {Y : zM → Option (β × zM)} {x : Nat} {k : Int32} (hH : H x = some k) (hk : k ≠ 0)
    (hX : ∃ m1, X = some (.inr x, m1) ∧ zFr zNm m m1 ∧ zIc a' b' n' p' s' l' c' e' m1)
    (hY : ∀ m1, zIm a b n s l c e m1 → ∃ v m2, Y m1 = some (v, m2) ∧ zFr zNc m1 m2 ∧ m2.1 13 0 0 = k ∧ zIm a' b' n' s' l' c' e' m2) :
    zAg cv (z_bh X B H id) Y := by
  obtain ⟨m1, h1, h2, h3⟩ := hX
  obtain ⟨v, m2, q1, q2, q3, q4⟩ := hY _ (zNm.k J h2)
  refine ⟨k, m1, v, m2, ?_, q1, q3, fun w => absurd w hk, a', b', n', p', s', l', c', e', (zNc.k h3 q2).join q4⟩
  rw [h1]
  show (H x).map _ = _
  rw [hH]
  rfl
section
variable {l : Nat} {c : Nat → Nat}
theorem zm_rowr {m : zM} {k i k' i' : Nat} (c : Nat) (u : Int32) (h : ¬ (k' = k ∧ i' = i)) : (z_sI m k i c u).1 k' i' = m.1 k' i' := funext fun d => zm_ot m c d u h
theorem z_bor (f b : Bool) : z_bi f ||| (if b = true then (1 : Int32) else 0) = z_bi (f || b) := by cases f <;> cases b <;> decide
/-- the reference's round of commands -/
def zRx (l : Nat) (c : Nat → Nat) (n j p X : Nat) (fl : Bool) (x : zG) (R : Option (Int32 × zM)) (m' : zM) : Prop := match zrn l c n j p with
  | .inl e => e ≤ l ∧ R = (f_X12_faults m').bind (fun r => some (r.1, r.2)) ∧ m'.1 13 0 9 = Int32.ofNat e
  | .inr L => ∃ (J2 : Nat) (fl' : Bool), R = f_X12_execute_43 (J2 + 1) (Int32.ofNat (X + L.length)) (z_bi fl') 0 m' ∧ (fl = true → fl' = true) ∧ (fl = false → match zap x L with
      | some y => fl' = false ∧ zMR (m'.1 23 2) y
      | none => fl' = true)
theorem s_mx {a : zG} (v : zGV a) : ∀ (j J p X : Nat) (fl : Bool) (x : zG) (m : zM), l - p < j → l - p + 1 < J → p ≤ l → zTm l c m → zMR (m.1 23 0) a → zMR (m.1 23 2) x → zGV x → x.n = a.n → m.1 13 0 9 = Int32.ofNat p → ∃ m', zFr zPq m m' ∧ zRx l c a.n j p X fl x (f_X12_execute_43 J (Int32.ofNat X) (z_bi fl) 1 m) m'
  | 0, _, _, _, _, _, _, h, _, _, _, _, _, _, _, _ => absurd h (Nat.not_lt_zero _)
  | j + 1, 0, _, _, _, _, _, _, h, _, _, _, _, _, _, _ => absurd h (Nat.not_lt_zero _)
  | j + 1, J + 1, p, X, fl, x, m, hj, hJ, hpl, T, r0, r, vx, xn, hp => by
    have l60 := T.1
    have n64 := v.n64
    have b := zcd_b (l := l) (n := a.n) (c := c) hpl
    obtain ⟨q, m1, q1, q2, q3⟩ := s_cm v r0 xn r T hp hpl
    have T1 := T.k q2
    have r01 : zMR (m1.1 23 0) a := z_nw r0 q2 fun j => by unfold zPq; omega
    unfold f_X12_execute_43 zRx zrn
    rw [if_neg (show ¬ (1 : Int32) = 0 by decide), q1, Option.bind_some]
    dsimp only
    cases hz : zcd l c a.n p with
    | inl e =>
      rw [hz] at q3 b
      obtain ⟨rfl, h9⟩ := q3
      rw [if_pos rfl]
      exact ⟨m1, q2, b, rfl, h9⟩
    | inr y =>
      rw [hz] at q3 b
      obtain ⟨h9, q3⟩ := q3
      obtain ⟨b1, b2, b3, b4, b5, b6, b7⟩ := b
      have hV : zcV x.n (y.1, y.2.1, y.2.2.1) := ⟨b1, by rw [xn]; exact b2, b3, b4, b5⟩
      dsimp only
      -- both ways: what is tried now
      obtain ⟨x2, v2, n2, r2, e2, hb⟩ : ∃ x2, zGV x2 ∧ x2.n = a.n ∧ zMR (m1.1 23 2) x2 ∧ (zbr x (y.1, y.2.1, y.2.2.1) = false → x2 = zac x (y.1, y.2.1, y.2.2.1)) ∧ q = (if zbr x (y.1, y.2.1, y.2.2.1) = true then 2 else 0) := by
        cases hbr : zbr x (y.1, y.2.1, y.2.2.1) with
        | true =>
          rw [hbr, if_pos rfl] at q3
          exact ⟨x, vx, xn, q3.2, (fun w => by cases w), (by rw [if_pos rfl]; exact q3.1)⟩
        | false =>
          rw [hbr, if_neg Bool.false_ne_true] at q3
          exact ⟨_, zac_v vx hV hbr, (zac_n _ _).trans xn, q3.2, fun _ => rfl, (by rw [if_neg Bool.false_ne_true]; exact q3.1)⟩
      have e76 : (if q = (1 : Int32) then Option.bind (f_X12_faults m1) fun r7 => some (r7.1, r7.2) else if q = (2 : Int32) then f_X12_execute_76 (f_X12_execute_43 J) (Int32.ofNat X) (z_bi fl) (1 : Int32) m1 else f_X12_execute_76 (f_X12_execute_43 J) (Int32.ofNat X) (z_bi fl) (0 : Int32) m1) = (if l ≤ y.2.2.2 then f_X12_execute_43 J (Int32.ofNat (X + 1)) (z_bi (fl || zbr x (y.1, y.2.1, y.2.2.1))) 0 m1 else Option.bind (f_X12_takes (Int32.ofNat 59) m1) fun r2 => if (z_bi r2.1) = 0 then Option.bind (f_X12_faults r2.2) fun r4 => some (r4.1, r4.2) else f_X12_execute_43 J (Int32.ofNat (X + 1)) (z_bi (fl || zbr x (y.1, y.2.1, y.2.2.1))) 1 r2.2) := by
        rw [← z_bor, ← zi_s]
        have hh : ∀ u : Int32, f_X12_execute_76 (f_X12_execute_43 J) (Int32.ofNat X) (z_bi fl) u m1 = (if l ≤ y.2.2.2 then f_X12_execute_43 J (Int32.ofNat X + 1) (z_bi fl ||| u) 0 m1 else Option.bind (f_X12_takes (Int32.ofNat 59) m1) fun r2 => if (z_bi r2.1) = 0 then Option.bind (f_X12_faults r2.2) fun r4 => some (r4.1, r4.2) else f_X12_execute_43 J (Int32.ofNat X + 1) (z_bi fl ||| u) 1 r2.2) := fun u => by
          unfold f_X12_execute_76 f_X12_execute_97
          rw [T1.2.1, h9]
          by_cases w : l ≤ y.2.2.2
          · rw [if_pos (by rw [zi_le (by omega) (by omega)]; exact w), if_pos w, if_pos rfl]
          · rw [if_neg (by rw [zi_le (by omega) (by omega)]; exact w), if_neg w, if_neg (by decide)]
            rfl
        rw [hb]
        cases hbr : zbr x (y.1, y.2.1, y.2.2.1) with
        | true => rw [if_pos rfl, if_neg (by decide), if_pos rfl, hh]; rfl
        | false => rw [if_neg Bool.false_ne_true, if_neg (by decide), if_neg (by decide), hh]; rfl
      rw [e76]
      by_cases w : y.2.2.2 < l
      · have h33 := T1.in33 w
        rw [if_neg (show ¬ l ≤ y.2.2.2 by omega), if_pos w, s_takes T1 h9 (by omega) (by omega)]
        by_cases w2 : zsg l c y.2.2.2 = 59
        · rw [if_pos w2, if_pos w2, Option.bind_some, if_neg (show ¬ z_bi true = 0 by decide)]
          dsimp only
          have f2 : zFr zPq m1 (z_sI m1 13 0 9 (Int32.ofNat (y.2.2.2 + 1))) := zFr.sI (zFr.refl m1) _ (.inl ⟨rfl, rfl, rfl⟩)
          obtain ⟨m', f', R'⟩ := s_mx v j J (y.2.2.2 + 1) (X + 1) (fl || zbr x (y.1, y.2.1, y.2.2.1)) x2 (z_sI m1 13 0 9 (Int32.ofNat (y.2.2.2 + 1))) (by omega) (by omega) (by omega) (T1.k f2) (z_nw r01 f2 fun j => by unfold zPq; omega) (by rw [zm_rowr _ _ (by omega)]; exact r2) v2 n2 (by rw [zm_row, if_pos rfl])
          unfold zRx at R'
          cases hr : zrn l c a.n j (y.2.2.2 + 1) with
          | inl e =>
            rw [hr] at R'
            exact ⟨m', (q2.trans f2).trans f', R'⟩
          | inr L =>
            rw [hr] at R'
            obtain ⟨J2, fl', R1, R2, R3⟩ := R'
            refine ⟨m', (q2.trans f2).trans f', J2, fl', ?_, ?_, ?_⟩
            · rw [R1, show X + 1 + L.length = X + (L.length + 1) by omega]
              rfl
            · intro h
              exact R2 (by rw [h]; rfl)
            · intro h
              show match zap x ((y.1, y.2.1, y.2.2.1) :: L) with
                | some y => fl' = false ∧ zMR (m'.1 23 2) y
                | none => fl' = true
              unfold zap
              cases hbr : zbr x (y.1, y.2.1, y.2.2.1) with
              | true =>
                rw [if_pos rfl]
                exact R2 (by rw [hbr, Bool.or_true])
              | false =>
                rw [if_neg Bool.false_ne_true, ← e2 hbr]
                exact R3 (by rw [h, hbr]; rfl)
        · rw [if_neg w2, if_neg w2, Option.bind_some, if_pos (show z_bi false = 0 from rfl)]
          exact ⟨m1, q2, b7, rfl, h9⟩
      · obtain ⟨J2, rfl⟩ : ∃ J2, J = J2 + 1 := ⟨J - 1, by omega⟩
        rw [if_pos (show l ≤ y.2.2.2 by omega), if_neg w]
        refine ⟨m1, q2, J2, (fl || zbr x (y.1, y.2.1, y.2.2.1)), rfl, fun h => by rw [h]; rfl, fun h => ?_⟩
        show match zap x [(y.1, y.2.1, y.2.2.1)] with
          | some z => (fl || zbr x (y.1, y.2.1, y.2.2.1)) = false ∧ zMR (m1.1 23 2) z
          | none => (fl || zbr x (y.1, y.2.1, y.2.2.1)) = true
        unfold zap zap
        cases hbr : zbr x (y.1, y.2.1, y.2.2.1) with
        | true =>
          rw [if_pos rfl]
          exact Bool.or_true _
        | false =>
          rw [if_neg Bool.false_ne_true, ← e2 hbr]
          exact ⟨by rw [h]; rfl, r2⟩
/-- the reference's copies -/
theorem s_cpy_e7 {f : Nat → Int32} : ∀ (j x : Nat) (m : zM), x ≤ 259 → 259 - x < j → (∀ y, y < 259 → m.1 23 0 y = f y) → (∀ y, y < x → m.1 23 2 y = f y) → ∃ m', f_X12_execute_7 j (Int32.ofNat x) m = f_X12_execute_43 zF (0 : Int32) (0 : Int32) (1 : Int32) (z_sI m' 13 0 9 (0 : Int32)) ∧ zFr (fun k i _ => k = 23 ∧ i = 2) m m' ∧ ∀ y, y < 259 → m'.1 23 2 y = f y
  | 0, _, _, _, h, _, _ => absurd h (Nat.not_lt_zero _)
  | j + 1, x, m, hx, hj, hf, hk => by
    unfold f_X12_execute_7
    rw [show (259 : Int32) = Int32.ofNat 259 from rfl]
    by_cases he : x = 259
    · subst he
      rw [if_pos (by rw [zi_le (by omega) (by omega)]; omega)]
      exact ⟨m, rfl, zFr.refl m, hk⟩
    · rw [if_neg (by rw [zi_le (by omega) (by omega)]; omega), z_gdt (z_in23 (by omega)), zi_nat (by omega), zi_s, hf x (by omega)]
      obtain ⟨m', p1, p2, p3⟩ := s_cpy_e7 (f := f) j (x + 1) (z_sI m 23 2 x (f x)) (by omega) (by omega) (fun y hy => by rw [zm_ot _ _ _ _ (by omega)]; exact hf y hy) fun y hy => by
        rw [zm_row]
        by_cases w : y = x
        · rw [w, if_pos rfl]
        · rw [if_neg w]
          exact hk y (by omega)
      exact ⟨m', p1, (zFr.sI (zFr.refl m) _ ⟨rfl, rfl⟩).trans p2, p3⟩
theorem s_cpy_e141 {f : Nat → Int32} (X : Int32) : ∀ (j x : Nat) (m : zM), x ≤ 259 → 259 - x < j → (∀ y, y < 259 → m.1 23 2 y = f y) → (∀ y, y < x → m.1 23 0 y = f y) → ∃ m', f_X12_execute_141 j X (Int32.ofNat x) m = some (X, m') ∧ zFr (fun k i _ => k = 23 ∧ i = 0) m m' ∧ ∀ y, y < 259 → m'.1 23 0 y = f y
  | 0, _, _, _, h, _, _ => absurd h (Nat.not_lt_zero _)
  | j + 1, x, m, hx, hj, hf, hk => by
    unfold f_X12_execute_141
    rw [show (259 : Int32) = Int32.ofNat 259 from rfl]
    by_cases he : x = 259
    · subst he
      rw [if_pos (by rw [zi_le (by omega) (by omega)]; omega)]
      exact ⟨m, rfl, zFr.refl m, hk⟩
    · rw [if_neg (by rw [zi_le (by omega) (by omega)]; omega), z_gdt (z_in23 (by omega)), zi_nat (by omega), zi_s, hf x (by omega)]
      obtain ⟨m', p1, p2, p3⟩ := s_cpy_e141 (f := f) X j (x + 1) (z_sI m 23 0 x (f x)) (by omega) (by omega) (fun y hy => by rw [zm_ot _ _ _ _ (by omega)]; exact hf y hy) fun y hy => by
        rw [zm_row]
        by_cases w : y = x
        · rw [w, if_pos rfl]
        · rw [if_neg w]
          exact hk y (by omega)
      exact ⟨m', p1, (zFr.sI (zFr.refl m) _ ⟨rfl, rfl⟩).trans p2, p3⟩
end
section
variable {a : zG} {b : Nat → zG} {n p : Nat} {s : Option zG} {l : Nat} {c : Nat → Nat} {e : Option Nat} {m : zM}
theorem zIc.len (I : zIc a b n p s l c e m) : zIc a b n p s 0 c e (z_sI m 10 0 1 0) := by
  obtain ⟨h1, h2, ⟨q1, q2, q3, q4, q6⟩, h5, ht, he⟩ := I
  have f1 : zFr (fun k i j => k = 10 ∧ i = 0 ∧ j = 1) m (z_sI m 10 0 1 0) := zFr.sI (zFr.refl m) _ ⟨rfl, rfl, rfl⟩
  have gr : ∀ {x : zG} {q : Nat}, zGR m q x → zGR (z_sI m 10 0 1 0) q x := fun {x q} w3 => w3.keep f1 fun k i j y => by unfold zGp at y; omega
  refine ⟨h1, gr h2, ⟨q1, q2, ((f1 7 0 1 (by omega)).1).trans q3, ((f1 7 0 2 (by omega)).1).trans q4, fun j hj => ⟨(q6 j hj).1, gr (q6 j hj).2⟩⟩, ?_, ⟨by omega, by rw [zm_row, if_pos rfl]; rfl, fun t ht => absurd ht (Nat.not_lt_zero _)⟩, ((f1 12 0 6 (by omega)).1).trans he.1, he.2⟩
  have g3 := (f1 12 0 3 (by omega)).1
  cases s with
  | none => exact g3.trans h5
  | some x => exact ⟨g3.trans h5.1, h5.2.1, gr h5.2.2⟩
theorem zIc.err (I : zIc a b n p s l c e m) {q : Nat} (hq : q ≤ 60) : zIc a b n p s l c (some q) (z_sI m 12 0 6 (Int32.ofNat q)) := by
  obtain ⟨h1, h2, ⟨q1, q2, q3, q4, q6⟩, h5, ht, he⟩ := I
  have f1 : zFr (fun k i j => k = 12 ∧ i = 0 ∧ j = 6) m (z_sI m 12 0 6 (Int32.ofNat q)) := zFr.sI (zFr.refl m) _ ⟨rfl, rfl, rfl⟩
  have gr : ∀ {x : zG} {g : Nat}, zGR m g x → zGR (z_sI m 12 0 6 (Int32.ofNat q)) g x := fun {x g} w3 => w3.keep f1 fun k i j y => by unfold zGp at y; omega
  refine ⟨h1, gr h2, ⟨q1, q2, ((f1 7 0 1 (by omega)).1).trans q3, ((f1 7 0 2 (by omega)).1).trans q4, fun j hj => ⟨(q6 j hj).1, gr (q6 j hj).2⟩⟩, ?_, ⟨ht.1, ((f1 10 0 1 (by omega)).1).trans ht.2.1, fun t w => ⟨(ht.2.2 t w).1, (ht.2.2 t w).2.1, ((f1 34 0 t (by omega)).1).trans (ht.2.2 t w).2.2⟩⟩, by rw [zm_row, if_pos rfl]; rfl, fun q' h => by cases h; exact hq⟩
  have g3 := (f1 12 0 3 (by omega)).1
  cases s with
  | none => exact g3.trans h5
  | some x => exact ⟨g3.trans h5.1, h5.2.1, gr h5.2.2⟩
theorem zIm.len (J : zIm a b n s l c e m) : zIm a b n s 0 c e (z_sI m 13 0 8 0) := by
  obtain ⟨h1, ⟨q5, q7⟩, h6, ⟨t3, t5⟩, e2⟩ := J
  have f2 : zFr (fun k i j => k = 13 ∧ i = 0 ∧ j = 8) m (z_sI m 13 0 8 0) := zFr.sI (zFr.refl m) _ ⟨rfl, rfl, rfl⟩
  refine ⟨by rw [f2.row (fun j => by omega)]; exact h1, ⟨((f2 13 0 3 (by omega)).1).trans q5, fun j hj => by rw [f2.row (fun j => by omega)]; exact q7 j hj⟩, ?_, ⟨by rw [zm_row, if_pos rfl]; rfl, fun t ht => absurd ht (Nat.not_lt_zero _)⟩, ((f2 13 0 10 (by omega)).1).trans e2⟩
  have g3 := (f2 13 0 5 (by omega)).1
  cases s with
  | none => exact g3.trans h6
  | some x => exact ⟨g3.trans h6.1, by rw [f2.row (fun j => by omega)]; exact h6.2⟩
theorem zIm.err (J : zIm a b n s l c e m) (q : Nat) : zIm a b n s l c (some q) (z_sI m 13 0 10 (Int32.ofNat q)) := by
  obtain ⟨h1, ⟨q5, q7⟩, h6, ⟨t3, t5⟩, e2⟩ := J
  have f2 : zFr (fun k i j => k = 13 ∧ i = 0 ∧ j = 10) m (z_sI m 13 0 10 (Int32.ofNat q)) := zFr.sI (zFr.refl m) _ ⟨rfl, rfl, rfl⟩
  refine ⟨by rw [f2.row (fun j => by omega)]; exact h1, ⟨((f2 13 0 3 (by omega)).1).trans q5, fun j hj => by rw [f2.row (fun j => by omega)]; exact q7 j hj⟩, ?_, ⟨((f2 13 0 8 (by omega)).1).trans t3, fun t ht => ((f2 25 0 t (by omega)).1).trans (t5 t ht)⟩, by show _ = zo (some q); rw [zm_row, if_pos rfl]; rfl⟩
  have g3 := (f2 13 0 5 (by omega)).1
  cases s with
  | none => exact g3.trans h6
  | some x => exact ⟨g3.trans h6.1, by rw [f2.row (fun j => by omega)]; exact h6.2⟩
theorem t_execute (I : zInv m) : zAg Int32.toInt64 (f_L_execute m) f_X12_execute := by
  obtain ⟨a, b, n, p, s, l, c, e, I'⟩ := I
  have v := I'.1
  have n64 := v.n64
  obtain ⟨C, J⟩ := I'.split
  have TC : zTxc l c m := C.2.2.2.2.1
  have l60 := TC.1
  -- the class: its count
  have f0 : zFr zP9 m (z_sI m 10 0 3 (Int32.ofNat 0)) := zFr.sI (zFr.refl m) _ ⟨rfl, rfl, by omega, by omega⟩
  obtain ⟨m1, p1, p2⟩ := s_ct v.n64 (l + 1) zF 0 0 0 (z_sI m 10 0 3 (Int32.ofNat 0)) (by omega) (zF_lt (by omega)) (Nat.zero_le _) (Nat.zero_le _) (TC.k9 f0) (by rw [zm_row, if_pos rfl])
  have fA := f0.trans p1
  have scA : zFr zSc m m1 := fA.mono fun k i j w => by unfold zP9 at w; unfold zSc zPro; omega
  have CA := C.scr scA
  -- the reference: its round
  have ref : ∀ m0, zIm a b n s l c e m0 → ∃ m', zFr (fun k i j => zPq k i j ∨ (k = 13 ∧ i = 0 ∧ j = 0)) m0 m' ∧ m'.1 13 0 0 = 0 ∧ zRx l c a.n (l + 1) 0 0 false a (f_X12_execute m0) m' := fun m0 J0 => by
    have ft : zFr (fun k i j => k = 13 ∧ i = 0 ∧ j = 0) m0 (z_sI m0 13 0 0 0) := zFr.sI (zFr.refl m0) _ ⟨rfl, rfl, rfl⟩
    have rt : zMR ((z_sI m0 13 0 0 0).1 23 0) a := z_nw J0.1 ft fun j => by omega
    obtain ⟨m2, u1, u2, u3⟩ := s_cpy_e7 (f := (z_sI m0 13 0 0 0).1 23 0) zF 0 (z_sI m0 13 0 0 0) (Nat.zero_le _) (zF_lt (by omega)) (fun _ _ => rfl) fun y hy => absurd hy (Nat.not_lt_zero _)
    have f9 : zFr zPq m2 (z_sI m2 13 0 9 0) := zFr.sI (zFr.refl m2) _ (.inl ⟨rfl, rfl, rfl⟩)
    have fB : zFr (fun k i j => zPq k i j ∨ (k = 13 ∧ i = 0 ∧ j = 0)) m0 (z_sI m2 13 0 9 0) := ((ft.mono fun k i j w => .inr w).trans (u2.mono fun k i j w => .inl (.inr w))).trans (f9.mono fun k i j w => .inl w)
    have TB : zTm l c (z_sI m2 13 0 9 0) := ⟨l60, by rw [(fB 13 0 8 (by unfold zPq; omega)).1]; exact J0.2.2.2.1.1, fun t ht => ⟨(TC.2.2 t ht).1, (TC.2.2 t ht).2.1, by rw [(fB 25 0 t (by unfold zPq; omega)).1]; exact J0.2.2.2.1.2 t ht⟩⟩
    have r2 : zMR ((z_sI m2 13 0 9 0).1 23 2) a := by
      rw [zm_rowr _ _ (by omega)]
      exact rt.ext u3
    obtain ⟨m', w1, w2⟩ := s_mx (l := l) (c := c) v (l + 1) zF 0 0 false a (z_sI m2 13 0 9 0) (by omega) (zF_lt (by omega)) (Nat.zero_le _) TB (z_nw J0.1 fB fun j => by unfold zPq; omega) r2 v rfl (by rw [zm_row, if_pos rfl]; rfl)
    refine ⟨m', fB.trans (w1.mono fun k i j w => .inl w), ?_, ?_⟩
    · rw [(w1 13 0 0 (by unfold zPq; omega)).1, zm_row, if_neg (by omega), (u2 13 0 0 (by omega)).1]
      exact z_th0 _ _
    · unfold f_X12_execute
      rw [show f_X12_execute_7 zF (0 : Int32) (z_sI m0 13 0 0 0) = _ from u1]
      exact w2
  have fRn : ∀ {m0 m' : zM}, zFr (fun k i j => zPq k i j ∨ (k = 13 ∧ i = 0 ∧ j = 0)) m0 m' → zFr zNc m0 m' := fun f => f.mono fun k i j w => by unfold zPq at w; unfold zNc zOc; omega
  have fRs : ∀ {m0 m' : zM}, zFr (fun k i j => zPq k i j ∨ (k = 13 ∧ i = 0 ∧ j = 0)) m0 m' → zIm a b n s l c e m0 → zIm a b n s l c e m' := fun f J0 => J0.keep f fun k i j h w => by unfold zOm at h; unfold zPq at w; omega
  unfold f_L_execute
  cases hz : zrn l c a.n (l + 1) 0 with
  | inl q =>
    rw [hz] at p2
    obtain ⟨ql, p2, p3⟩ := p2
    refine zAg.mux Int32.toInt64 J (x := 0) (k := 1) (a' := a) (b' := b) (n' := n) (p' := p) (s' := s) (l' := 0) (c' := c) (e' := some q) rfl (by decide) ?_ fun m0 J0 => ?_
    · unfold f_X11_execute f_X9_countCommands
      rw [s_size v I'.2.1, Option.bind_some, show f_X9_countCommands_9 zF (Int32.ofNat a.n) (0 : Int32) (0 : Int32) (z_sI m 10 0 3 (0 : Int32)) = _ from p2, Option.bind_some, if_pos rfl]
      dsimp only
      rw [p3]
      exact ⟨_, rfl, ((scA.mono fun k i j => zSc_nm).trans (zFr.sI (zFr.refl _) _ (by unfold zNm zOm; omega))).trans (zFr.sI (zFr.refl _) _ (by unfold zNm zOm; omega)), (CA.err (by omega)).len⟩
    · obtain ⟨m', u1, u2, u3⟩ := ref m0 J0
      unfold zRx at u3
      rw [hz] at u3
      obtain ⟨_, u3, u4⟩ := u3
      have J1 := fRs u1 J0
      rw [u3]
      unfold f_X12_faults f_X12_raises
      refine ⟨_, _, rfl, (((fRn u1).trans (zFr.sI (zFr.refl _) _ (by unfold zNc zOc; omega))).trans (zFr.sI (zFr.refl _) _ (by unfold zNc zOc; omega))).trans (zFr.sI (zFr.refl _) _ (by unfold zNc zOc; omega)), z_th0 _ _, ?_⟩
      rw [u4]
      exact ((J1.err q).len).sm (z_th _ 1)
  | inr L =>
    rw [hz] at p2
    have p2 : f_X9_countCommands_9 zF (Int32.ofNat a.n) (Int32.ofNat 0) (Int32.ofNat 0) (z_sI m 10 0 3 (Int32.ofNat 0)) = some (Int32.ofNat (0 + L.length), m1) := p2
    have hL : L.length ≤ l := by
      have key : ∀ (j p : Nat) (L : List (Nat × Nat × Nat)), p ≤ l → zrn l c a.n j p = .inr L → p + L.length ≤ l := by
        intro j
        induction j with
        | zero => intro p L _ h; cases h
        | succ j ih =>
          intro p L hp h
          have b := zcd_b (l := l) (n := a.n) (c := c) hp
          unfold zrn at h
          cases hz : zcd l c a.n p with
          | inl e => rw [hz] at h; cases h
          | inr y =>
            rw [hz] at h b
            obtain ⟨-, -, -, -, -, b6, b7⟩ := b
            dsimp only at h
            by_cases w : y.2.2.2 < l
            · rw [if_pos w] at h
              by_cases w2 : zsg l c y.2.2.2 = 59
              · rw [if_pos w2] at h
                cases hr : zrn l c a.n j (y.2.2.2 + 1) with
                | inl e => rw [hr] at h; cases h
                | inr L2 =>
                  rw [hr] at h
                  cases h
                  have := ih _ _ (by omega) hr
                  show p + (L2.length + 1) ≤ l
                  omega
              · rw [if_neg w2] at h; cases h
            · rw [if_neg w] at h
              cases h
              show p + 1 ≤ l
              omega
      have := key (l + 1) 0 L (Nat.zero_le _) hz
      omega
    rw [Nat.zero_add] at p2
    obtain ⟨m2, g1, g2, g3⟩ := s_copyFrom (g := 1) (h := 0) (by omega) CA.2.1
    have g2s : zFr zSc m1 m2 := g2.mono fun k i j => zGp1
    have C2 := CA.scr g2s
    have f3 : zFr zP9 m2 (z_sI m2 10 0 3 (Int32.ofNat 0)) := zFr.sI (zFr.refl m2) _ ⟨rfl, rfl, by omega, by omega⟩
    have r3 : zGR (z_sI m2 10 0 3 (Int32.ofNat 0)) 1 a := g3.keep f3 fun k i j w => by unfold zGp at w; unfold zP9; omega
    obtain ⟨m3, h1, h2⟩ := s_co (l := l) (n := a.n) (c := c) (l + 1) zF 0 0 a L (z_sI m2 10 0 3 (Int32.ofNat 0)) (by omega) (zF_lt (by omega)) (Nat.zero_le _) (Nat.zero_le _) (C2.2.2.2.2.1.k9 f3) (by rw [zm_row, if_pos rfl]) v rfl r3 hz
    have sc3 : zFr zSc m m3 := ((scA.trans g2s).trans (f3.mono fun k i j w => by unfold zP9 at w; unfold zSc zPro; omega)).trans (h1.mono fun k i j => zPx9_c)
    have C3 := C.scr sc3
    cases hy : zap a L with
    | none =>
      rw [hy] at h2
      refine zAg.mux Int32.toInt64 J (x := 2) (k := 2) (a' := a) (b' := b) (n' := n) (p' := p) (s' := s) (l' := 0) (c' := c) (e' := e) rfl (by decide) ?_ fun m0 J0 => ?_
      · unfold f_X11_execute f_X9_countCommands f_X9_carryOut
        rw [s_size v I'.2.1, Option.bind_some, show f_X9_countCommands_9 zF (Int32.ofNat a.n) (0 : Int32) (0 : Int32) (z_sI m 10 0 3 (0 : Int32)) = _ from p2, Option.bind_some]
        dsimp only
        rw [if_neg (zi_m1 (by omega)), g1, Option.bind_some, show f_X9_carryOut_7 1 zF (0 : Int32) (z_sI m2 10 0 3 (0 : Int32)) = _ from h2, Option.bind_some, if_pos (show z_bi false = 0 from rfl)]
        exact ⟨_, rfl, (sc3.mono fun k i j => zSc_nm).trans (zFr.sI (zFr.refl _) _ (by unfold zNm zOm; omega)), C3.len⟩
      · obtain ⟨m', u1, u2, u3⟩ := ref m0 J0
        unfold zRx at u3
        rw [hz] at u3
        obtain ⟨J2, fl', u3, _, u4⟩ := u3
        have u4 := u4 rfl
        rw [hy] at u4
        have u4 : fl' = true := u4
        subst u4
        rw [u3]
        unfold f_X12_execute_43 f_X12_raises
        rw [if_pos rfl, if_neg (by decide)]
        exact ⟨_, _, rfl, ((fRn u1).trans (zFr.sI (zFr.refl _) _ (by unfold zNc zOc; omega))).trans (zFr.sI (zFr.refl _) _ (by unfold zNc zOc; omega)), z_th0 _ _, ((fRs u1 J0).len).sm (z_th _ 2)⟩
    | some y =>
      rw [hy] at h2
      obtain ⟨h2, h3, h4, h5⟩ := h2
      refine zAg.mut Int32.toInt64 J (v := Int32.ofNat L.length) (a' := y) (b' := zpsh b n a) (n' := min (n + 1) 8) (p' := (p + 1) % 8) (s' := s) (l' := 0) (c' := c) (e' := e) ?_ fun m0 J0 => ?_
      · have C4 := C3.len
        have f4 : zFr (fun k i j => k = 10 ∧ i = 0 ∧ j = 1) m3 (z_sI m3 10 0 1 0) := zFr.sI (zFr.refl m3) _ ⟨rfl, rfl, rfl⟩
        obtain ⟨m5, k1, k2, k3⟩ := s_rem C4
        have r5 : zGR m5 1 y := (h3.keep f4 fun k i j w => by unfold zGp at w; omega).keep k2 fun k i j w => by unfold zGp at w; unfold zPrm; omega
        obtain ⟨m6, o1, o2, o3⟩ := s_copyFrom (g := 0) (h := 1) (by omega) r5
        unfold f_X11_execute f_X9_countCommands f_X9_carryOut
        rw [s_size v I'.2.1, Option.bind_some, show f_X9_countCommands_9 zF (Int32.ofNat a.n) (0 : Int32) (0 : Int32) (z_sI m 10 0 3 (0 : Int32)) = _ from p2, Option.bind_some]
        dsimp only
        rw [if_neg (zi_m1 (by omega)), g1, Option.bind_some, show f_X9_carryOut_7 1 zF (0 : Int32) (z_sI m2 10 0 3 (0 : Int32)) = _ from h2, Option.bind_some, if_neg (show ¬ z_bi true = 0 by decide), k1, Option.bind_some, o1, Option.bind_some]
        exact ⟨m6, rfl, (((sc3.mono fun k i j => zSc_nm).trans (f4.mono fun k i j w => by unfold zNm zOm; omega)).trans (k2.mono fun k i j => zPrm_n)).trans (o2.mono fun k i j => zGp0_n), k3.grid o2 h4 o3⟩
      · obtain ⟨m', u1, u2, u3⟩ := ref m0 J0
        unfold zRx at u3
        rw [hz] at u3
        obtain ⟨J2, fl', u3, _, u4⟩ := u3
        have u4 := u4 rfl
        rw [hy] at u4
        obtain ⟨u4, u5⟩ := u4
        subst u4
        have J1 := (fRs u1 J0).len
        obtain ⟨m7, d1, d2, d3⟩ := s_chg C.2.2.1.1 J1
        obtain ⟨m8, i1, i2, i3⟩ := s_cpy_e141 (f := m7.1 23 2) (Int32.ofNat (0 + L.length)) zF 0 m7 (Nat.zero_le _) (zF_lt (by omega)) (fun _ _ => rfl) fun y hy => absurd hy (Nat.not_lt_zero _)
        have r7 : zMR (m7.1 23 2) y := by
          refine z_tr (m := z_sI m' 13 0 8 0) ?_ d2 fun j => by unfold zPch; omega
          rw [zm_rowr _ _ (by omega)]
          exact u5
        rw [u3]
        unfold f_X12_execute_43
        rw [if_pos rfl, if_pos (by decide), d1, Option.bind_some, show f_X12_execute_141 zF (Int32.ofNat (0 + L.length)) (0 : Int32) m7 = _ from i1]
        refine ⟨m8, by rw [Nat.zero_add], (((fRn u1).trans (zFr.sI (zFr.refl _) _ (by unfold zNc zOc; omega))).trans (d2.mono fun k i j => zPch_n)).trans (i2.mono fun k i j => z230_n), ?_, d3.grid i2 (r7.ext i3)⟩
        rw [(i2 13 0 0 (by omega)).1, (d2 13 0 0 (by unfold zPch; omega)).1, zm_row, if_neg (by omega)]
        exact u2
end
