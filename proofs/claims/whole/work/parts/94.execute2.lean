/-! Texts that are carried out: the reference's side; execute agrees. -/
abbrev zPq (k i j : Nat) : Prop := (k = 13 ∧ i = 0 ∧ j = 9) ∨ (k = 23 ∧ i = 2)
abbrev zPq9 (k i j : Nat) : Prop := k = 13 ∧ i = 0 ∧ j = 9
theorem zPq9_m {k i j : Nat} (w : zPq9 k i j) : zPq k i j := .inl w
theorem zPq_nc {k i j : Nat} (w : zPq k i j) : zNc k i j := by
  unfold zPq at w
  unfold zNc zOc
  omega
def zTm (l : Nat) (c : Nat → Nat) (m : zM) : Prop := l ≤ 60 ∧ m.1 13 0 8 = Int32.ofNat l ∧ ∀ t, t < l → 33 ≤ c t ∧ c t ≤ 126 ∧ m.1 25 0 t = Int32.ofNat (c t)
section
variable {l : Nat} {c : Nat → Nat} {m m' : zM} {p : Nat}
theorem zTm.k (T : zTm l c m) (f : zFr zPq m m') : zTm l c m' := by
  obtain ⟨h1, h2, h3⟩ := T
  exact ⟨h1, by rw [(f 13 0 8 (by unfold zPq; omega)).1]; exact h2, fun t ht => by rw [(f 25 0 t (by unfold zPq; omega)).1]; exact h3 t ht⟩
theorem zTm.b (T : zTm l c m) : ∀ t, zsg l c t ≤ 126 := zsg_le fun t ht => (T.2.2 t ht).2.1
theorem zTm.in33 (T : zTm l c m) {q : Nat} (h : q < l) : 33 ≤ zsg l c q := by
  unfold zsg
  rw [if_pos h]
  exact (T.2.2 q h).1
theorem s_here (T : zTm l c m) (hp : m.1 13 0 9 = Int32.ofNat p) (p100 : p ≤ 100) : f_X12_here m = some (Int32.ofNat (zsg l c p)) := by
  obtain ⟨l60, hl, ht⟩ := T
  unfold f_X12_here zsg
  rw [hp, hl]
  by_cases w : p < l
  · obtain ⟨q1, q2, q3⟩ := ht p w
    rw [if_neg (by rw [zi_le (by omega) (by omega)]; omega), z_gdt (by rw [zi_inb (by omega), decide_eq_true_eq]; show p < 60; omega), zi_nat (by omega), q3, if_pos w]
  · rw [if_pos (by rw [zi_le (by omega) (by omega)]; omega), if_neg w]
    rfl
theorem s_inl (T : zTm l c m) (q : Nat) (M : zM) : f_X12_in (Int32.toInt64 (Int32.ofNat (zsg l c q))) (48 : Int64) (57 : Int64) M = some (zdg l c q) := by
  have hs := T.b q
  rw [show (48 : Int64) = Int32.toInt64 (Int32.ofNat 48) from rfl, show (57 : Int64) = Int32.toInt64 (Int32.ofNat 57) from rfl, s_in32 _ _ _ (by omega) (by omega) (by omega)]
  unfold zdg
  rw [Bool.decide_and]
theorem s_takes (T : zTm l c m) (hp : m.1 13 0 9 = Int32.ofNat p) (p100 : p ≤ 100) {s : Nat} (hs : s ≤ 126) : f_X12_takes (Int32.ofNat s) m = if zsg l c p = s then some (true, z_sI m 13 0 9 (Int32.ofNat (p + 1))) else some (false, m) := by
  have h := T.b p
  unfold f_X12_takes
  rw [s_here T hp p100, Option.bind_some, hp, zi_s]
  by_cases w : zsg l c p = s
  · rw [if_pos w, if_pos (by rw [w])]
  · rw [if_neg w, if_neg (by rw [zi_eq (by omega) (by omega)]; exact w)]
theorem zTm.at (T : zTm l c m) (h : p < l) : m.1 25 0 p = Int32.ofNat (zsg l c p) := by
  unfold zsg
  rw [if_pos h]
  exact (T.2.2 p h).2.2
theorem s_num (T : zTm l c m) (hp : m.1 13 0 9 = Int32.ofNat p) (p100 : p ≤ 98) : (zdg l c p = false → f_X12_number m = some (-1, m)) ∧ (zdg l c p = true → ∃ m', f_X12_number m = some (Int32.ofNat (znu l c p).1, m') ∧ zFr zPq9 m m' ∧ m'.1 13 0 9 = Int32.ofNat (znu l c p).2) := by
  have hs := T.b p
  unfold f_X12_number
  rw [s_here T hp (by omega), Option.bind_some, s_inl T, Option.bind_some]
  refine ⟨fun h => by rw [h, if_pos (by decide)], fun h => ?_⟩
  have hd := zdg_lt h
  have l60 := T.1
  have f1 : zFr zPq9 m (z_sI m 13 0 9 (Int32.ofNat (p + 1))) := zFr.sI (zFr.refl m) _ ⟨rfl, rfl, rfl⟩
  have T1 := T.k (f1.mono fun k i j => zPq9_m)
  have h1 : (z_sI m 13 0 9 (Int32.ofNat (p + 1))).1 13 0 9 = Int32.ofNat (p + 1) := by rw [zm_row, if_pos rfl]
  rw [h, if_neg (by decide), hp, zi_s]
  generalize z_sI m 13 0 9 (Int32.ofNat (p + 1)) = m1 at f1 T1 h1 ⊢
  have a1 := T1.at hd.1
  rw [z_gdt (by rw [zi_inb (by omega), decide_eq_true_eq]; show p < 60; omega), zi_nat (by omega), a1, show (48 : Int32) = Int32.ofNat 48 from rfl, zi_sub hd.2.1]
  unfold znu
  by_cases w : zsg l c p = 48
  · rw [if_pos (by rw [show (0 : Int32) = Int32.ofNat 0 from rfl, zi_le (by omega) (by omega)]; omega), if_pos w, w]
    exact ⟨_, rfl, f1, h1⟩
  · rw [if_neg (by rw [show (0 : Int32) = Int32.ofNat 0 from rfl, zi_le (by omega) (by omega)]; omega), if_neg w, s_here T1 h1 (by omega), Option.bind_some, s_inl T1, Option.bind_some]
    cases w2 : zdg l c (p + 1) with
    | false =>
      rw [if_pos (by decide), if_neg (by decide)]
      exact ⟨_, rfl, f1, h1⟩
    | true =>
      have hd2 := zdg_lt w2
      have hs2 := T.b (p + 1)
      have f2 : zFr zPq9 m1 (z_sI m1 13 0 9 (Int32.ofNat (p + 1 + 1))) := zFr.sI (zFr.refl m1) _ ⟨rfl, rfl, rfl⟩
      have h2 : (z_sI m1 13 0 9 (Int32.ofNat (p + 1 + 1))).1 13 0 9 = Int32.ofNat (p + 1 + 1) := by rw [zm_row, if_pos rfl]
      have T2 := T1.k (f2.mono fun k i j => zPq9_m)
      have a2 := T2.at hd2.1
      rw [if_neg (by decide), h1, z_gdt (by rw [zi_inb (by omega), decide_eq_true_eq]; show p + 1 < 60; omega), if_pos rfl, zi_nat (by omega), zi_s, a2, show (10 : Int32) = Int32.ofNat 10 from rfl, zi_mul, zi_add, zi_sub (by omega)]
      refine ⟨_, ?_, f1.trans f2, h2⟩
      show some (Int32.ofNat (10 * (zsg l c p - 48) + zsg l c (p + 1) - 48), _) = some (Int32.ofNat ((zsg l c p - 48) * 10 + (zsg l c (p + 1) - 48)), _)
      rw [show 10 * (zsg l c p - 48) + zsg l c (p + 1) - 48 = (zsg l c p - 48) * 10 + (zsg l c (p + 1) - 48) by omega]
/-- what the reference's command gives -/
def zRm (r : Int32) (m : zM) (x : zG) (z : Nat ⊕ (Nat × Nat × Nat × Nat)) : Prop := match z with
  | .inl e => r = 1 ∧ m.1 13 0 9 = Int32.ofNat e
  | .inr y => m.1 13 0 9 = Int32.ofNat y.2.2.2 ∧ (if zbr x (y.1, y.2.1, y.2.2.1) = true then r = 2 ∧ zMR (m.1 23 2) x else r = 0 ∧ zMR (m.1 23 2) (zac x (y.1, y.2.1, y.2.2.1)))
theorem z_tr {P : Nat → Nat → Nat → Prop} {x : zG} (r : zMR (m.1 23 2) x) (f : zFr P m m') (h : ∀ j, ¬ P 23 2 j) : zMR (m'.1 23 2) x := by
  rw [f.row h]
  exact r
theorem z_nw {P : Nat → Nat → Nat → Prop} {x : zG} (r : zMR (m.1 23 0) x) (f : zFr P m m') (h : ∀ j, ¬ P 23 0 j) : zMR (m'.1 23 0) x := by
  rw [f.row h]
  exact r
theorem s_c190 {d : Nat} (hd : d < 64) (u : Bool) : f_X12_command_171 (Int32.ofNat d) (z_bi u) m = some (0, z_sI m 23 2 (195 + d) (z_bi u)) := by
  unfold f_X12_command_171 f_X12_command_190
  rw [show (195 : Int32) = Int32.ofNat 195 from rfl, zi_add, z_gdt (z_in23 (by omega)), z_gdt (z_in23 (by omega)), zi_nat (by omega)]
  cases u with
  | true => rw [if_neg (by decide)]; rfl
  | false => rw [if_pos (by decide)]; rfl
theorem s_c108 {a x : zG} (v : zGV a) (r0 : zMR (m.1 23 0) a) (xn : x.n = a.n) (r : zMR (m.1 23 2) x) {d : Nat} (hd : d < x.n) (u : Bool) : ∀ (j i : Nat), i ≤ x.n → x.n - i < j → f_X12_command_108 j (Int32.ofNat d) (z_bi u) (Int32.ofNat (z_cnt (fun e => x.ou e && !(decide (e = d))) i)) (Int32.ofNat i) m = some (if zbr x (111, d, if u = true then 1 else 0) = true then ((2 : Int32), m) else (0, z_sI m 23 2 (195 + d) (z_bi u)))
  | 0, _, _, h => absurd h (Nat.not_lt_zero _)
  | j + 1, i, hi, hj => by
    have n64 := v.n64
    have hc := z_cnt_le (fun e => x.ou e && !(decide (e = d))) i
    unfold f_X12_command_108
    rw [s_mcells r0, Option.bind_some]
    by_cases he : i = x.n
    · rw [if_pos (by rw [zi_le (by omega) (by omega)]; omega), s_c190 (by omega)]
      unfold zbr
      cases u with
      | true =>
        rw [if_neg (by decide), if_neg (by simp)]
      | false =>
        rw [if_pos (by decide), show (195 : Int32) = Int32.ofNat 195 from rfl, zi_add, z_gdt (z_in23 (by omega)), zi_nat (by omega), r.2.2.2.2.2.2 d (by omega)]
        cases ho : x.ou d with
        | false =>
          rw [if_neg (show ¬ (if false = true then (1 : Int32) else 0) = 1 by decide), if_neg (by simp)]
        | true =>
          rw [if_pos (show (if true = true then (1 : Int32) else 0) = 1 by decide)]
          have hz : z_cnt (fun e => x.ou e && !(decide (e = d))) i = 0 ↔ z_cnt x.ou x.n = 1 := by
            rw [z_cnt_1 hd ho, z_cnt_0, he]
            constructor
            · intro w q q1 q2
              have := w q q1
              simp only [Bool.and_eq_false_iff, Bool.not_eq_false', decide_eq_true_eq] at this
              rcases this with h9 | h9
              · exact h9
              · exact absurd h9 q2
            · intro w q q1
              by_cases q2 : q = d
              · simp [q2]
              · simp [w q q1 q2]
          by_cases w : z_cnt x.ou x.n = 1
          · rw [if_pos (by rw [zi_0 (by omega)]; exact hz.mpr w), if_pos (by simp [w])]
          · rw [if_neg (by rw [zi_0 (by omega)]; exact mt hz.mp w), if_neg (by simp [w])]
    · have ih := s_c108 v r0 xn r hd u j (i + 1) (by omega) (by omega)
      have er : z_cnt (fun e => x.ou e && !(decide (e = d))) (i + 1) = z_cnt (fun e => x.ou e && !(decide (e = d))) i + if (x.ou i && !(decide (i = d))) = true then 1 else 0 := rfl
      rw [er] at ih
      rw [if_neg (by rw [zi_le (by omega) (by omega)]; omega)]
      by_cases w : i = d
      · rw [if_pos (by rw [w]), zi_s]
        rw [if_neg (by simp [w])] at ih
        exact ih
      · rw [if_neg (by rw [zi_eq (by omega) (by omega)]; exact w), show (195 : Int32) = Int32.ofNat 195 from rfl, zi_add, z_gdt (z_in23 (by omega)), zi_nat (by omega), r.2.2.2.2.2.2 i (by omega), zi_s]
        cases ho : x.ou i with
        | true =>
          rw [ho, if_pos (by simp [w])] at ih
          rw [if_pos rfl, zi_s]
          exact ih
        | false =>
          rw [ho, if_neg (by simp)] at ih
          rw [if_neg Bool.false_ne_true, Int32.add_zero]
          exact ih
theorem s_c260 {x : zG} (r : zMR (m.1 23 2) x) {k d u : Nat} (k4 : k = 104 ∨ k = 114 ∨ k = 115) (hd : d < 64) (hu : u ≤ 99) : ∃ m', f_X12_command_260 (Int32.ofNat k) (Int32.ofNat d) (Int32.ofNat u) m = some (0, m') ∧ zFr (fun k i _ => k = 23 ∧ i = 2) m m' ∧ zMR (m'.1 23 2) (zac x (k, d, u)) := by
  unfold f_X12_command_260 f_X12_command_295 zac
  rw [if_pos (zi_zl (by omega)), show (104 : Int32) = Int32.ofNat 104 from rfl, show (114 : Int32) = Int32.ofNat 114 from rfl, show (3 : Int32) = Int32.ofNat 3 from rfl, show (67 : Int32) = Int32.ofNat 67 from rfl, show (131 : Int32) = Int32.ofNat 131 from rfl, zi_add, zi_add, zi_add, z_gdt (z_in23 (by omega)), z_gdt (z_in23 (by omega)), z_gdt (z_in23 (by omega)), zi_nat (by omega), zi_nat (by omega), zi_nat (by omega)]
  have ff : ∀ J w, zFr (fun k i _ => k = 23 ∧ i = 2) m (z_sI m 23 2 J w) := fun J w => zFr.sI (zFr.refl m) _ ⟨rfl, rfl⟩
  rcases k4 with rfl | rfl | rfl
  · rw [if_pos rfl, if_pos rfl]
    exact ⟨_, rfl, ff _ _, r.sH hd u⟩
  · rw [if_neg (by decide), if_pos rfl, if_neg (show ¬ (114 : Nat) = 104 by decide), if_pos rfl]
    exact ⟨_, rfl, ff _ _, r.sR hd u⟩
  · rw [if_neg (by decide), if_neg (by decide), if_neg (show ¬ (115 : Nat) = 104 by decide), if_neg (show ¬ (115 : Nat) = 114 by decide), if_pos rfl]
    exact ⟨_, rfl, ff _ _, r.sS hd u⟩
theorem s_cm {a x : zG} (v : zGV a) (r0 : zMR (m.1 23 0) a) (xn : x.n = a.n) (r : zMR (m.1 23 2) x) (T : zTm l c m) (hp : m.1 13 0 9 = Int32.ofNat p) (hpl : p ≤ l) : ∃ q m', f_X12_command m = some (q, m') ∧ zFr zPq m m' ∧ zRm q m' x (zcd l c a.n p) := by
  have hs := T.b p
  have l60 := T.1
  have n64 := v.n64
  unfold f_X12_command zcd
  rw [s_here T hp (by omega), Option.bind_some, z_kn4 _ _ (by omega)]
  cases hk : zkn (zsg l c p) with
  | false =>
    rw [if_neg (by decide), if_neg (by decide)]
    exact ⟨_, _, rfl, zFr.refl m, rfl, hp⟩
  | true =>
    have k4 := zkn_iff.mp hk
    have pl : p < l := zsg_lt (c := c) (by omega)
    rw [if_pos rfl, if_pos rfl]
    unfold f_X12_command_31
    have f1 : zFr zPq9 m (z_sI m 13 0 9 (Int32.ofNat (p + 1))) := zFr.sI (zFr.refl m) _ ⟨rfl, rfl, rfl⟩
    have h1 : (z_sI m 13 0 9 (Int32.ofNat (p + 1))).1 13 0 9 = Int32.ofNat (p + 1) := by rw [zm_row, if_pos rfl]
    rw [hp, zi_s]
    generalize z_sI m 13 0 9 (Int32.ofNat (p + 1)) = m1 at f1 h1 ⊢
    have T1 := T.k (f1.mono fun k i j => zPq9_m)
    obtain ⟨g0, g1⟩ := s_num T1 h1 (by omega)
    cases w2 : zdg l c (p + 1) with
    | false =>
      rw [g0 w2, Option.bind_some, if_neg (show ¬ (0 : Int32) ≤ -1 by decide), if_neg (by decide)]
      exact ⟨_, _, rfl, f1.mono fun k i j => zPq9_m, rfl, h1⟩
    | true =>
      obtain ⟨m2, q1, q2, q3⟩ := g1 w2
      obtain ⟨n1, n2, n3, n4⟩ := znu_b w2
      have f12 := f1.trans q2
      have T2 := T.k (f12.mono fun k i j => zPq9_m)
      have r2 : zMR (m2.1 23 2) x := z_tr r f12 fun j => by unfold zPq9; omega
      have r20 : zMR (m2.1 23 0) a := z_nw r0 f12 fun j => by unfold zPq9; omega
      rw [if_pos rfl, q1, Option.bind_some]
      dsimp only
      rw [if_pos (zi_zl (by omega))]
      generalize (znu l c (p + 1)).1 = d at n1 ⊢
      generalize (znu l c (p + 1)).2 = q at n2 n3 n4 q3 ⊢
      by_cases w3 : d < a.n
      · rw [s_isCell v r20 w3, Option.bind_some, if_neg (by decide), if_pos w3, show (111 : Int32) = Int32.ofNat 111 from rfl]
        unfold zce
        by_cases w4 : zsg l c p = 111
        · rw [if_pos (by rw [w4]), if_pos w4, show (43 : Int32) = Int32.ofNat 43 from rfl, show (45 : Int32) = Int32.ofNat 45 from rfl, s_takes T2 q3 (by omega) (by omega)]
          have go : ∀ (u : Bool) (m3 : zM), zFr zPq9 m m3 → m3.1 13 0 9 = Int32.ofNat (q + 1) → ∃ q' m', f_X12_command_102 (Int32.ofNat d) (z_bi u) m3 = some (q', m') ∧ zFr zPq m m' ∧ zRm q' m' x (.inr (111, d, (if u = true then 1 else 0), q + 1)) := fun u m3 f3 h3 => by
            have r3 : zMR (m3.1 23 2) x := z_tr r f3 fun j => by unfold zPq9; omega
            have r30 : zMR (m3.1 23 0) a := z_nw r0 f3 fun j => by unfold zPq9; omega
            unfold f_X12_command_102
            have := s_c108 v r30 xn r3 (show d < x.n by omega) u zF 0 (Nat.zero_le _) (zF_lt (by omega))
            rw [show (Int32.ofNat (z_cnt (fun e => x.ou e && !(decide (e = d))) 0)) = (0 : Int32) from rfl, show Int32.ofNat 0 = (0 : Int32) from rfl] at this
            rw [this]
            by_cases w : zbr x (111, d, if u = true then 1 else 0) = true
            · rw [if_pos w]
              refine ⟨_, _, rfl, f3.mono fun k i j => zPq9_m, h3, ?_⟩
              show if zbr x (111, d, if u = true then 1 else 0) = true then _ else _
              rw [if_pos w]
              exact ⟨rfl, r3⟩
            · rw [if_neg w]
              refine ⟨_, _, rfl, (f3.mono fun k i j => zPq9_m).trans (zFr.sI (zFr.refl m3) _ (.inr ⟨rfl, rfl⟩)), by rw [zm_ot _ _ _ _ (by omega)]; exact h3, ?_⟩
              show if zbr x (111, d, if u = true then 1 else 0) = true then _ else _
              rw [if_neg w]
              refine ⟨rfl, ?_⟩
              have ez : zac x (111, d, if u = true then 1 else 0) = x.sO d u := by
                unfold zac
                rw [if_neg (show ¬ (111 : Nat) = 104 by decide), if_neg (show ¬ (111 : Nat) = 114 by decide), if_neg (show ¬ (111 : Nat) = 115 by decide)]
                cases u <;> rfl
              rw [ez]
              exact r3.sO (by omega) u
          have fT : zFr zPq9 m (z_sI m2 13 0 9 (Int32.ofNat (q + 1))) := f12.trans (zFr.sI (zFr.refl m2) _ ⟨rfl, rfl, rfl⟩)
          have hT : (z_sI m2 13 0 9 (Int32.ofNat (q + 1))).1 13 0 9 = Int32.ofNat (q + 1) := by rw [zm_row, if_pos rfl]
          by_cases w5 : zsg l c q = 43
          · rw [if_pos w5, if_pos w5, Option.bind_some, if_neg (show ¬ z_bi true = 0 by decide)]
            exact go true _ fT hT
          · rw [if_neg w5, if_neg w5, Option.bind_some, if_pos (show z_bi false = 0 from rfl)]
            dsimp only
            rw [s_takes T2 q3 (by omega) (by omega)]
            by_cases w6 : zsg l c q = 45
            · rw [if_pos w6, if_pos w6, Option.bind_some, if_neg (show ¬ z_bi true = 0 by decide)]
              exact go false _ fT hT
            · rw [if_neg w6, if_neg w6, Option.bind_some, if_pos (show z_bi false = 0 from rfl)]
              exact ⟨_, _, rfl, f12.mono fun k i j => zPq9_m, rfl, q3⟩
        · have k3 : zsg l c p = 104 ∨ zsg l c p = 114 ∨ zsg l c p = 115 := by omega
          have n111 : ∀ u q', zRm 0 q' x (.inr (zsg l c p, d, u)) = zRm 0 q' x (.inr (zsg l c p, d, u)) := fun _ _ => rfl
          rw [if_neg (by rw [zi_eq (by omega) (by omega)]; exact w4), if_neg w4, show (61 : Int32) = Int32.ofNat 61 from rfl, s_takes T2 q3 (by omega) (by omega)]
          have fT : zFr zPq9 m (z_sI m2 13 0 9 (Int32.ofNat (q + 1))) := f12.trans (zFr.sI (zFr.refl m2) _ ⟨rfl, rfl, rfl⟩)
          have hT : (z_sI m2 13 0 9 (Int32.ofNat (q + 1))).1 13 0 9 = Int32.ofNat (q + 1) := by rw [zm_row, if_pos rfl]
          have go : ∀ (u q' : Nat) (m3 : zM), u ≤ 99 → zFr zPq9 m m3 → m3.1 13 0 9 = Int32.ofNat q' → ∃ q'' m', f_X12_command_260 (Int32.ofNat (zsg l c p)) (Int32.ofNat d) (Int32.ofNat u) m3 = some (q'', m') ∧ zFr zPq m m' ∧ zRm q'' m' x (.inr (zsg l c p, d, u, q')) := fun u q' m3 hu f3 h3 => by
            have r3 : zMR (m3.1 23 2) x := z_tr r f3 fun j => by unfold zPq9; omega
            obtain ⟨m4, e1, e2, e3⟩ := s_c260 r3 k3 (show d < 64 by omega) hu
            rw [e1]
            refine ⟨_, _, rfl, (f3.mono fun k i j => zPq9_m).trans (e2.mono fun k i j w => .inr w), by rw [(e2 13 0 9 (by omega)).1]; exact h3, ?_⟩
            show if zbr x (zsg l c p, d, u) = true then _ else _
            have nb : ¬ zbr x (zsg l c p, d, u) = true := by
              unfold zbr
              rw [decide_eq_false (show ¬ (zsg l c p, d, u).1 = 111 from w4), Bool.false_and]
              decide
            rw [if_neg nb]
            exact ⟨rfl, e3⟩
          by_cases w5 : zsg l c q = 61
          · rw [if_pos w5, if_pos w5, Option.bind_some, if_neg (show ¬ z_bi true = 0 by decide)]
            dsimp only
            generalize z_sI m2 13 0 9 (Int32.ofNat (q + 1)) = m3 at fT hT ⊢
            have T3 := T.k (fT.mono fun k i j => zPq9_m)
            have hs1 := T.b (q + 1)
            obtain ⟨u0, u1⟩ := s_num T3 hT (by omega)
            rw [show (104 : Int32) = Int32.ofNat 104 from rfl]
            have bad : ∃ q'' m', f_X12_command_260 (Int32.ofNat (zsg l c p)) (Int32.ofNat d) (-1) m3 = some (q'', m') ∧ zFr zPq m m' ∧ zRm q'' m' x (.inl (q + 1)) := by
              unfold f_X12_command_260
              rw [if_neg (by decide)]
              exact ⟨_, _, rfl, fT.mono fun k i j => zPq9_m, rfl, hT⟩
            cases w6 : zdg l c (q + 1) with
            | false =>
              rw [if_neg (show ¬ false = true by decide)]
              by_cases w7 : zsg l c p = 104
              · rw [if_pos (by rw [w7]), u0 w6, Option.bind_some]
                exact bad
              · rw [if_neg (by rw [zi_eq (by omega) (by omega)]; exact w7), s_here T3 hT (by omega), Option.bind_some, s_inl T3, Option.bind_some, w6, if_pos (by decide)]
                exact bad
            | true =>
              obtain ⟨v1, v2, v3⟩ := zdg_lt w6
              rw [if_pos (show true = true from rfl)]
              by_cases w7 : zsg l c p = 104
              · obtain ⟨m4, e1, e2, e3⟩ := u1 w6
                rw [if_pos (by rw [w7]), if_pos w7, e1, Option.bind_some]
                dsimp only
                have := go (znu l c (q + 1)).1 (znu l c (q + 1)).2 m4 (znu_b w6).1 (fT.trans e2) e3
                rw [w7] at this ⊢
                exact this
              · rw [if_neg (by rw [zi_eq (by omega) (by omega)]; exact w7), if_neg w7, s_here T3 hT (by omega), Option.bind_some, s_inl T3, Option.bind_some, w6, if_neg (by decide), hT, z_gdt (by rw [zi_inb (by omega), decide_eq_true_eq]; show q + 1 < 60; omega), zi_nat (by omega), zi_s]
                have f4 : zFr zPq9 m3 (z_sI m3 13 0 9 (Int32.ofNat (q + 1 + 1))) := zFr.sI (zFr.refl m3) _ ⟨rfl, rfl, rfl⟩
                have h4 : (z_sI m3 13 0 9 (Int32.ofNat (q + 1 + 1))).1 13 0 9 = Int32.ofNat (q + 2) := by rw [zm_row, if_pos rfl]
                have T4 := T3.k (f4.mono fun k i j => zPq9_m)
                rw [T4.at v1, show (48 : Int32) = Int32.ofNat 48 from rfl, zi_sub v2]
                exact go _ _ _ (by omega) (fT.trans f4) h4
          · rw [if_neg w5, if_neg w5, Option.bind_some, if_pos (show z_bi false = 0 from rfl)]
            exact ⟨_, _, rfl, f12.mono fun k i j => zPq9_m, rfl, q3⟩
      · rw [s_isCelln v r20 (.inr ⟨d, by omega, by omega, rfl⟩), Option.bind_some, if_pos (by decide), if_neg w3, h1]
        exact ⟨_, _, rfl, (f12.mono fun k i j => zPq9_m).trans (zFr.sI (zFr.refl m2) _ (.inl ⟨rfl, rfl, rfl⟩)), rfl, by rw [zm_row, if_pos rfl]⟩
end
