/-! The reference's best way. -/
theorem z_subn {x y : Nat} (hx : x < 2147483648) (hy : y < 2147483648) (h : x < y) : Int32.ofNat x - Int32.ofNat y < 0 := by
  rw [Int32.lt_iff_toInt_lt, Int32.toInt_sub, zi_toInt hx, zi_toInt hy, show (0 : Int32).toInt = 0 from rfl, Int.bmod_eq_of_le (by omega) (by omega)]
  omega
theorem z_sub0 {x y : Nat} (hx : x < 2147483648) (hy : y < 2147483648) : 0 ≤ Int32.ofNat x - Int32.ofNat y ↔ y ≤ x := by
  by_cases w : y ≤ x
  · rw [zi_sub w]
    exact ⟨fun _ => w, fun _ => zi_zl (by omega)⟩
  · have h := z_subn hx hy (by omega)
    refine ⟨fun q => ?_, fun q => absurd q w⟩
    rw [Int32.le_iff_toInt_le] at q
    rw [Int32.lt_iff_toInt_lt] at h
    omega
theorem z_max0 {x y : Nat} (hx : x < 2147483648) (hy : y < 2147483648) (m : zM) : f_J9_max_7cf53 0 (Int32.ofNat x - Int32.ofNat y) m = some (Int32.ofNat (x - y)) := by
  by_cases w : y ≤ x
  · rw [zi_sub w, show (0 : Int32) = Int32.ofNat 0 from rfl, z_max (by omega) (by omega), Nat.max_eq_right (by omega)]
  · have h := z_subn hx hy (by omega)
    unfold f_J9_max_7cf53
    rw [if_neg, show x - y = 0 by omega]
    · rfl
    · rw [Int32.lt_iff_toInt_lt] at h ⊢
      omega
theorem z_in26 {c : Nat} (h : c < 6400) : z_inb (Int32.ofNat c) (z_alen 26) = true := by
  rw [zi_inb (by omega), decide_eq_true_eq]
  exact h
theorem z_64 (h c : Nat) : (64 : Int32) * Int32.ofNat h + Int32.ofNat c = Int32.ofNat (64 * h + c) := by
  rw [show (64 : Int32) = Int32.ofNat 64 from rfl, zi_mul, zi_add]
section
variable {a : zG}
/-- costs of the heights below h are found -/
def zCo (a : zG) (h : Nat) (m : zM) : Prop := ∀ h' c, h' < h → c < a.n → a.ou c = false → m.1 26 0 (64 * h' + c) = Int32.ofNat (a.VV h' c)
def zCs (a : zG) (h : Nat) (m : zM) (C : Nat → Nat) : Prop := (∀ c, c < a.n → m.1 26 0 (64 * h + c) = Int32.ofNat (C c)) ∧ (∀ c, c < a.n → C c ≤ 1000000) ∧ ∀ c, c < a.n → a.ou c = false → a.VV h c ≤ C c
noncomputable def zG.U (a : zG) (h : Nat) (C : Nat → Nat) (e : Nat) : Nat := if a.ou e = true then 1 else if a.ht e < h then a.VV (a.ht e) e else C e
abbrev zPco (h k i j : Nat) : Prop := k = 26 ∧ i = 0 ∧ 64 * h ≤ j ∧ j < 64 * h + 64
theorem s_worth (v : zGV a) {m : zM} (r : zMR (m.1 23 0) a) {h c : Nat} (hh : h ≤ 99) (hc : c < a.n) {u : Nat} (hu : a.ou c = false → m.1 26 0 (64 * h + c) = Int32.ofNat u) : f_X12_worth (Int32.ofNat c) (Int32.ofNat h) m = some (Int32.ofNat (if a.ou c = true then 1 else u)) := by
  have n64 := v.n64
  unfold f_X12_worth
  rw [s_mout r (by omega), Option.bind_some]
  cases ho : a.ou c with
  | true => rw [if_neg (by decide), if_pos rfl]; rfl
  | false => rw [if_pos (by decide), if_neg (by decide), z_64, z_gdt (z_in26 (by omega)), zi_nat (by omega), hu ho]
theorem zG.U_le (v : zGV a) {h : Nat} {C : Nat → Nat} (h1 : ∀ c, c < a.n → a.ou c = false → a.VV h c ≤ C c) {e : Nat} (he : e < a.n) : a.VV (min h (a.ht e)) e ≤ a.U h C e := by
  unfold zG.U
  by_cases w : a.ou e = true
  · rw [if_pos w, zG.VV0 v he w]
    exact Nat.le_refl _
  · rw [if_neg w]
    have w' : a.ou e = false := by cases q : a.ou e <;> simp_all
    by_cases w2 : a.ht e < h
    · rw [if_pos w2, Nat.min_eq_right (by omega)]
      exact Nat.le_refl _
    · rw [if_neg w2, Nat.min_eq_left (by omega)]
      exact h1 e he w'
theorem s_goes (v : zGV a) {m : zM} (r : zMR (m.1 23 0) a) {h : Nat} {C : Nat → Nat} (hh : h ≤ 99) (hco : zCo a h m) (hC : ∀ c, c < a.n → a.ou c = false → m.1 26 0 (64 * h + c) = Int32.ofNat (C c)) {c d : Nat} (hc : c < a.n) (hd : d < 4) : f_X12_goesBy (Int32.ofNat c) (Int32.ofNat h) (Int32.ofNat d) m = some (match a.nb c d with
    | none => 1000000
    | some e => Int32.ofNat (128 * (a.ht e - h) + 1 + a.U h C e)) := by
  have n64 := v.n64
  unfold f_X12_goesBy
  rw [s_next v r hc hd, Option.bind_some]
  cases hn : a.nb c d with
  | none => rw [if_neg (by decide)]
  | some e =>
    have he := zG.nb_n v hc hn
    have hht := v.ht e
    rw [zo_some, if_pos (zi_zl (by omega)), s_mheight r (by omega), Option.bind_some, z_max0 (by omega) (by omega), Option.bind_some, Option.bind_some, z_min (by omega) (by omega), Option.bind_some, s_worth v r (by omega) he (u := if a.ht e < h then a.VV (a.ht e) e else C e) (fun ho => by
      by_cases w : a.ht e < h
      · rw [if_pos w, Nat.min_eq_right (by omega)]
        exact hco _ e w he ho
      · rw [if_neg w, Nat.min_eq_left (by omega)]
        exact hC e he ho), Option.bind_some, show (128 : Int32) = Int32.ofNat 128 from rfl, zi_mul, zi_s, zi_add]
    rfl
theorem s_bw_75 (v : zGV a) (K1 : Int32 → Int32 → zM → Option zM) (K2 : Int32 → Int32 → Int32 → zM → Option zM) (K : Int32 → Int32 → Int32 → Int32 → zM → Option zM) (y : Int32) {h c : Nat} (hh : h ≤ 99) (hc : c < a.n) (hoc : a.ou c = false) : ∀ (j d : Nat) (x : Int32) (m : zM) (L : Nat → Nat), d ≤ 4 → 4 - d < j → zMR (m.1 23 0) a → zCo a h m → zCs a h m L →
    ∃ x' m' L', f_X12_bestWay_75 K1 K2 K j y (Int32.ofNat h) x (Int32.ofNat c) (Int32.ofNat d) m = K y (Int32.ofNat h) x' (Int32.ofNat (c + 1)) m' ∧ zFr (zPco h) m m' ∧ zCs a h m' L' ∧ (∀ e, e < a.n → L' e ≤ L e) ∧ ((x' = x ∧ L' = L ∧ ∀ d' e, d ≤ d' → d' < 4 → a.nb c d' = some e → L c ≤ 128 * (a.ht e - h) + 1 + a.U h L e) ∨ (x' = 1 ∧ z_tot L' a.n < z_tot L a.n))
  | 0, _, _, _, _, _, h, _, _, _ => absurd h (Nat.not_lt_zero _)
  | j + 1, d, x, m, L, hd, hj, r, hco, hL => by
    have n64 := v.n64
    unfold f_X12_bestWay_75
    rw [show (4 : Int32) = Int32.ofNat 4 from rfl]
    by_cases he : d = 4
    · rw [if_pos (by rw [zi_le (by omega) (by omega)]; omega), zi_s]
      exact ⟨x, m, L, rfl, zFr.refl m, hL, fun _ _ => Nat.le_refl _, .inl ⟨rfl, rfl, fun d' e q1 q2 => by omega⟩⟩
    · have hj2 : d + 1 ≤ 4 ∧ 4 - (d + 1) < j := by omega
      have b1 := hL.2.1 c hc
      rw [if_neg (by rw [zi_le (by omega) (by omega)]; omega), s_goes v r hh hco (C := L) (fun c hc _ => hL.1 c hc) hc (by omega), Option.bind_some, z_64, z_gdt (z_in26 (by omega)), zi_nat (k := 64 * h + c) (by omega), hL.1 c hc, zi_s, z_gdt (z_in26 (by omega))]
      have same : (∀ e, a.nb c d = some e → L c ≤ 128 * (a.ht e - h) + 1 + a.U h L e) → ∃ x' m' L', f_X12_bestWay_75 K1 K2 K j y (Int32.ofNat h) x (Int32.ofNat c) (Int32.ofNat (d + 1)) m = K y (Int32.ofNat h) x' (Int32.ofNat (c + 1)) m' ∧ zFr (zPco h) m m' ∧ zCs a h m' L' ∧ (∀ e, e < a.n → L' e ≤ L e) ∧ ((x' = x ∧ L' = L ∧ ∀ d' e, d ≤ d' → d' < 4 → a.nb c d' = some e → L c ≤ 128 * (a.ht e - h) + 1 + a.U h L e) ∨ (x' = 1 ∧ z_tot L' a.n < z_tot L a.n)) := fun w => by
        obtain ⟨x', m', L', q1, q2, q3, q4, q5⟩ := s_bw_75 v K1 K2 K y hh hc hoc j (d + 1) x m L hj2.1 hj2.2 r hco hL
        refine ⟨x', m', L', q1, q2, q3, q4, ?_⟩
        rcases q5 with ⟨p1, p2, p3⟩ | p
        · refine .inl ⟨p1, p2, fun d' e w1 w2 w3 => ?_⟩
          by_cases hd' : d' = d
          · rw [hd'] at w3; exact w e w3
          · exact p3 d' e (by omega) w2 w3
        · exact .inr p
      cases hn : a.nb c d with
      | none =>
        rw [hn] at same
        show ∃ x' m' L', (if (1000000 : Int32) < Int32.ofNat (L c) then _ else _) = _ ∧ _
        rw [if_neg (by rw [show (1000000 : Int32) = Int32.ofNat 1000000 from rfl, zi_lt (by omega) (by omega)]; omega)]
        exact same fun e w => by cases w
      | some e =>
        rw [hn] at same
        have hen := zG.nb_n v hc hn
        have hht := v.ht e
        have ub : a.U h L e ≤ 1000000 := by
          unfold zG.U
          split
          · omega
          · split
            · have := (zG.VV_b v (h := a.ht e) hen).2; omega
            · exact hL.2.1 e hen
        show ∃ x' m' L', (if Int32.ofNat (128 * (a.ht e - h) + 1 + a.U h L e) < Int32.ofNat (L c) then _ else _) = _ ∧ _
        by_cases hq : 128 * (a.ht e - h) + 1 + a.U h L e < L c
        · rw [if_pos (by rw [zi_lt (by omega) (by omega)]; exact hq)]
          generalize hu : 128 * (a.ht e - h) + 1 + a.U h L e = u at hq
          have hge : a.VV h c ≤ u := by
            have h1 := (zG.VV_le v (h := h) hc hoc hn).1
            have h2 := zG.U_le v hL.2.2 hen
            omega
          have f1 : zFr (zPco h) m (z_sI m 26 0 (64 * h + c) (Int32.ofNat u)) := zFr.sI (zFr.refl m) _ ⟨rfl, rfl, by omega, by omega⟩
          have hL' : zCs a h (z_sI m 26 0 (64 * h + c) (Int32.ofNat u)) (fun f => if f = c then u else L f) := by
            refine ⟨fun f hf => ?_, fun f hf => ?_, fun f hf ho => ?_⟩
            · rw [zm_row]
              by_cases z : f = c
              · rw [if_pos (by omega)]; simp only [z, if_true]
              · rw [if_neg (by omega)]; simp only [z, if_false]; exact hL.1 f hf
            · by_cases z : f = c
              · simp only [z, if_true]; omega
              · simp only [z, if_false]; exact hL.2.1 f hf
            · by_cases z : f = c
              · simp only [z, if_true]; exact hge
              · simp only [z, if_false]; exact hL.2.2 f hf ho
          have hle : ∀ f, f < a.n → (fun f => if f = c then u else L f) f ≤ L f := fun f hf => by
            by_cases z : f = c
            · simp only [z, if_true]; omega
            · simp only [z, if_false]; exact Nat.le_refl _
          obtain ⟨x', m', L', q1, q2, q3, q4, q5⟩ := s_bw_75 v K1 K2 K y hh hc hoc j (d + 1) 1 _ _ hj2.1 hj2.2 (by rw [f1.row (fun j => by unfold zPco; omega)]; exact r) (fun h' c' q1 q2 q3 => by rw [(f1 26 0 _ (by unfold zPco; omega)).1]; exact hco h' c' q1 q2 q3) hL'
          have hlt := z_tot_lt (L' := fun f => if f = c then u else L f) hle hc (by simp only [if_true]; exact hq)
          refine ⟨x', m', L', (by rw [← hu] at q1; exact q1), f1.trans q2, q3, fun f hf => Nat.le_trans (q4 f hf) (hle f hf), .inr ⟨?_, ?_⟩⟩
          · rcases q5 with ⟨p1, _⟩ | ⟨p1, _⟩ <;> exact p1
          · exact Nat.lt_of_le_of_lt (z_tot_le q4) hlt
        · rw [if_neg (by rw [zi_lt (by omega) (by omega)]; exact hq)]
          exact same fun f w => by cases w; omega
theorem s_bw_51 (v : zGV a) (K1 : Int32 → Int32 → zM → Option zM) (K : Int32 → Int32 → Int32 → zM → Option zM) (y : Int32) {h : Nat} (hh : h ≤ 99) : ∀ (j c : Nat) (x : Int32) (m : zM) (L : Nat → Nat), c ≤ a.n → a.n - c < j → zMR (m.1 23 0) a → zCo a h m → zCs a h m L →
    ∃ x' m' L', f_X12_bestWay_51 K1 K j y (Int32.ofNat h) x (Int32.ofNat c) m = K y (Int32.ofNat h) x' m' ∧ zFr (zPco h) m m' ∧ zCs a h m' L' ∧ (∀ e, e < a.n → L' e ≤ L e) ∧ ((x' = x ∧ L' = L ∧ ∀ c', c ≤ c' → c' < a.n → a.ou c' = false → ∀ d' e, d' < 4 → a.nb c' d' = some e → L c' ≤ 128 * (a.ht e - h) + 1 + a.U h L e) ∨ (x' = 1 ∧ z_tot L' a.n < z_tot L a.n))
  | 0, _, _, _, _, _, h, _, _, _ => absurd h (Nat.not_lt_zero _)
  | j + 1, c, x, m, L, hc, hj, r, hco, hL => by
    have n64 := v.n64
    unfold f_X12_bestWay_51
    rw [s_mcells r, Option.bind_some]
    by_cases he : c = a.n
    · rw [if_pos (by rw [zi_le (by omega) (by omega)]; omega)]
      exact ⟨x, m, L, rfl, zFr.refl m, hL, fun _ _ => Nat.le_refl _, .inl ⟨rfl, rfl, fun c' q1 q2 => by omega⟩⟩
    · have hcn : c < a.n := by omega
      have hj2 : c + 1 ≤ a.n ∧ a.n - (c + 1) < j := by omega
      rw [if_neg (by rw [zi_le (by omega) (by omega)]; omega), s_mout r (by omega), Option.bind_some, zi_s]
      cases ho : a.ou c with
      | true =>
        rw [if_neg (by decide)]
        obtain ⟨x', m', L', q1, q2, q3, q4, q5⟩ := s_bw_51 v K1 K y hh j (c + 1) x m L hj2.1 hj2.2 r hco hL
        refine ⟨x', m', L', q1, q2, q3, q4, ?_⟩
        rcases q5 with ⟨p1, p2, p3⟩ | p
        · refine .inl ⟨p1, p2, fun c' w1 w2 w3 => ?_⟩
          by_cases z : c' = c
          · rw [z, ho] at w3; cases w3
          · exact p3 c' (by omega) w2 w3
        · exact .inr p
      | false =>
        rw [if_pos (by decide)]
        obtain ⟨x1, m1, L1, q1, q2, q3, q4, q5⟩ := s_bw_75 v K1 K (f_X12_bestWay_51 K1 K j) y hh hcn ho zF 0 x m L (by omega) (zF_lt (by omega)) r hco hL
        rw [show (0 : Int32) = Int32.ofNat 0 from rfl, q1]
        obtain ⟨x2, m2, L2, p1, p2, p3, p4, p5⟩ := s_bw_51 v K1 K y hh j (c + 1) x1 m1 L1 hj2.1 hj2.2 (by rw [q2.row (fun j => by unfold zPco; omega)]; exact r) (fun h' c' q1 q2' q3 => by rw [(q2 26 0 _ (by unfold zPco; omega)).1]; exact hco h' c' q1 q2' q3) q3
        refine ⟨x2, m2, L2, p1, q2.trans p2, p3, fun f hf => Nat.le_trans (p4 f hf) (q4 f hf), ?_⟩
        rcases q5 with ⟨u1, u2, u3⟩ | ⟨u1, u2⟩
        · subst u2
          rcases p5 with ⟨w1, w2, w3⟩ | w
          · refine .inl ⟨w1.trans u1, w2, fun c' y1 y2 y3 d' e y4 y5 => ?_⟩
            by_cases hcc : c' = c
            · subst hcc
              exact u3 d' e (Nat.zero_le _) y4 y5
            · exact w3 c' (by omega) y2 y3 d' e y4 y5
          · exact .inr w
        · refine .inr ⟨?_, Nat.lt_of_le_of_lt (z_tot_le p4) u2⟩
          rcases p5 with ⟨w1, _⟩ | ⟨w1, _⟩
          · exact w1.trans u1
          · exact w1
theorem zG.VV_fix (v : zGV a) {h : Nat} {L : Nat → Nat} (hr : ∀ c, c < a.n → a.ou c = false → ∀ d e, d < 4 → a.nb c d = some e → L c ≤ 128 * (a.ht e - h) + 1 + a.U h L e) : ∀ (k c : Nat), a.VV h c < k → c < a.n → a.ou c = false → L c ≤ a.VV h c := by
  intro k
  induction k with
  | zero => intro c h1; exact absurd h1 (Nat.not_lt_zero _)
  | succ k ih =>
    intro c h1 hc ho
    obtain ⟨d, e, h2, h3, h4⟩ := zG.bd_ex v (h := h) hc ho
    have h5 := (zG.VV_le v (h := h) hc ho h3).2.mpr h4
    have he := zG.nb_n v hc h3
    have h6 := hr c hc ho d e h2 h3
    have h7 : a.U h L e ≤ a.VV (min h (a.ht e)) e := by
      unfold zG.U
      by_cases w : a.ou e = true
      · rw [if_pos w, zG.VV0 v he w]
        exact Nat.le_refl _
      · rw [if_neg w]
        have w' : a.ou e = false := by cases q : a.ou e <;> simp_all
        by_cases w2 : a.ht e < h
        · rw [if_pos w2, Nat.min_eq_right (by omega)]
          exact Nat.le_refl _
        · rw [if_neg w2]
          rw [Nat.min_eq_left (by omega)] at h5 ⊢
          exact ih e (by omega) he w'
    omega
theorem s_bw_42 (v : zGV a) (K : Int32 → Int32 → zM → Option zM) (y : Int32) {h : Nat} (hh : h ≤ 99) : ∀ (j : Nat) (m : zM) (L : Nat → Nat), z_tot L a.n + 1 < j → zMR (m.1 23 0) a → zCo a h m → zCs a h m L →
    ∃ m', f_X12_bestWay_42 K j y (Int32.ofNat h) 1 m = K y (Int32.ofNat (h + 1)) m' ∧ zFr (zPco h) m m' ∧ zCo a (h + 1) m'
  | 0, _, _, h, _, _, _ => absurd h (Nat.not_lt_zero _)
  | j + 1, m, L, hj, r, hco, hL => by
    have n64 := v.n64
    unfold f_X12_bestWay_42
    rw [if_neg (by decide)]
    obtain ⟨x1, m1, L1, q1, q2, q3, q4, q5⟩ := s_bw_51 v K (f_X12_bestWay_42 K j) y hh zF 0 0 m L (Nat.zero_le _) (zF_lt (by omega)) r hco hL
    rw [show Int32.ofNat 0 = (0 : Int32) from rfl] at q1
    rw [q1]
    have hco1 : zCo a h m1 := fun h' c' q1 q2' q3 => by rw [(q2 26 0 _ (by unfold zPco; omega)).1]; exact hco h' c' q1 q2' q3
    rcases q5 with ⟨u1, u2, u3⟩ | ⟨u1, u2⟩
    · subst u1 u2
      obtain ⟨j', rfl⟩ : ∃ j', j = j' + 1 := ⟨j - 1, by omega⟩
      unfold f_X12_bestWay_42
      rw [if_pos rfl, zi_s]
      refine ⟨m1, rfl, q2, fun h' c h1 hc ho => ?_⟩
      by_cases z : h' = h
      · rw [z, q3.1 c hc, Nat.le_antisymm (zG.VV_fix v (fun c hc ho d e hd hn => u3 c (Nat.zero_le _) hc ho d e hd hn) _ c (Nat.lt_succ_self _) hc ho) (q3.2.2 c hc ho)]
      · exact hco1 h' c (by omega) hc ho
    · subst u1
      obtain ⟨m2, p1, p2, p3⟩ := s_bw_42 v K y hh j m1 L1 (by omega) (by rw [q2.row (fun j => by unfold zPco; omega)]; exact r) hco1 q3
      exact ⟨m2, p1, q2.trans p2, p3⟩
theorem s_bw_13 (v : zGV a) (K : Int32 → Int32 → zM → Option zM) (y : Int32) {h : Nat} (hh : h ≤ 99) : ∀ (j c : Nat) (m : zM), c ≤ a.n → a.n - c < j → zMR (m.1 23 0) a → zCo a h m → (∀ e, e < c → m.1 26 0 (64 * h + e) = Int32.ofNat 1000000) →
    ∃ m', f_X12_bestWay_13 K j y (Int32.ofNat h) (Int32.ofNat c) m = K y (Int32.ofNat (h + 1)) m' ∧ zFr (zPco h) m m' ∧ zCo a (h + 1) m'
  | 0, _, _, _, h, _, _, _ => absurd h (Nat.not_lt_zero _)
  | j + 1, c, m, hc, hj, r, hco, hm => by
    have n64 := v.n64
    unfold f_X12_bestWay_13
    rw [s_mcells r, Option.bind_some]
    by_cases he : c = a.n
    · subst he
      rw [if_pos (by rw [zi_le (by omega) (by omega)]; omega)]
      refine s_bw_42 v K y hh zF m (fun _ => 1000000) ?_ r hco ⟨hm, fun _ _ => Nat.le_refl _, fun c hc _ => by have := (zG.VV_b v (h := h) hc).2; show a.VV h c ≤ 1000000; omega⟩
      have h1 := z_tot_b (L := fun _ => 1000000) (b := 1000000) (n := a.n) fun _ _ => Nat.le_refl _
      have h2 : a.n * 1000000 ≤ 64 * 1000000 := Nat.mul_le_mul n64 (Nat.le_refl _)
      exact zF_lt (by omega)
    · have hcn : c < a.n := by omega
      rw [if_neg (by rw [zi_le (by omega) (by omega)]; omega), z_64, z_gdt (z_in26 (by omega)), zi_nat (by omega), zi_s]
      have f1 : zFr (zPco h) m (z_sI m 26 0 (64 * h + c) 1000000) := zFr.sI (zFr.refl m) _ ⟨rfl, rfl, by omega, by omega⟩
      obtain ⟨m', p1, p2, p3⟩ := s_bw_13 v K y hh j (c + 1) _ hcn (by omega) (by rw [f1.row (fun j => by unfold zPco; omega)]; exact r) (fun h' c' q1 q2' q3 => by rw [(f1 26 0 _ (by unfold zPco; omega)).1]; exact hco h' c' q1 q2' q3) fun e he' => by
        rw [zm_row]
        by_cases z : e = c
        · rw [if_pos (by omega)]; rfl
        · rw [if_neg (by omega)]; exact hm e (by omega)
      exact ⟨m', p1, f1.trans p2, p3⟩
/-- the cells of the best way -/
noncomputable def zG.cw (a : zG) : Nat → Nat → Nat → Nat
  | 0, _, c => c
  | t + 1, h, c => a.cw t (min h (a.ht (a.bn h c))) (a.bn h c)
theorem z_in27 {c : Nat} (h : c < 65) : z_inb (Int32.ofNat c) (z_alen 27) = true := by
  rw [zi_inb (by omega), decide_eq_true_eq]
  exact h
abbrev zPw (i0 k i j : Nat) : Prop := (k = 27 ∧ i = 0 ∧ i0 < j) ∨ (k = 13 ∧ i = 0 ∧ j = 29)
theorem s_bw_206 (v : zGV a) (K : Int32 → Int32 → zM → Option zM) {H h c i : Nat} (hH : H ≤ 99) (hh : h ≤ H) (hc : c < a.n) (ho : a.ou c = false) (hi : i < 64) {m : zM} (r : zMR (m.1 23 0) a) (hco : zCo a (H + 1) m) (hl : m.1 13 0 29 = Int32.ofNat (i + 1)) : ∀ (j d : Nat), d ≤ a.bf h c → 4 - d < j → f_X12_bestWay_206 K j (Int32.ofNat h) (Int32.ofNat c) (Int32.ofNat d) m = K (Int32.ofNat (min h (a.ht (a.bn h c)))) (Int32.ofNat (a.bn h c)) (z_sI (z_sI m 13 0 29 (Int32.ofNat (i + 2))) 27 0 (i + 1) (Int32.ofNat (a.bn h c)))
  | 0, _, _, h => absurd h (Nat.not_lt_zero _)
  | j + 1, d, hd, hj => by
    have n64 := v.n64
    obtain ⟨b1, b2, b3, b4, b5, _, _⟩ := zG.bf_at v (h := h) hc ho
    have vb := zG.VV_b v (h := h) hc
    unfold f_X12_bestWay_206
    rw [s_goes v r (show h ≤ 99 by omega) (C := a.VV h) (fun h' c' q1 q2 q3 => hco h' c' (by omega) q2 q3) (fun c hc ho => hco h c (by omega) hc ho) hc (show d < 4 by omega), Option.bind_some, s_worth v r (show h ≤ 99 by omega) hc (u := a.VV h c) (fun ho => hco h c (by omega) hc ho), Option.bind_some, if_neg (show ¬ a.ou c = true by rw [ho]; decide), zi_s]
    have uv : ∀ e, e < a.n → a.U h (a.VV h) e = a.VV (min h (a.ht e)) e := fun e he => by
      unfold zG.U
      by_cases w : a.ou e = true
      · rw [if_pos w, zG.VV0 v he w]
      · rw [if_neg w]
        by_cases w2 : a.ht e < h
        · rw [if_pos w2, Nat.min_eq_right (by omega)]
        · rw [if_neg w2, Nat.min_eq_left (by omega)]
    by_cases w : d = a.bf h c
    · rw [w, b2]
      show (if Int32.ofNat (128 * (a.ht (a.bn h c) - h) + 1 + a.U h (a.VV h) (a.bn h c)) = Int32.ofNat (a.VV h c) then _ else _) = _
      have hht := v.ht (a.bn h c)
      rw [uv _ b5, ← (zG.VV_le v (h := h) hc ho b2).2.mpr b3, if_pos rfl, s_next v r hc b1, Option.bind_some, b2, zo_some, s_mheight r (by omega), Option.bind_some, z_min (by omega) (by omega), Option.bind_some, hl, z_gdt (z_in27 (by omega)), zi_nat (by omega), zi_s]
    · have hne := b4 d (by omega)
      have ih := s_bw_206 v K hH hh hc ho hi r hco hl j (d + 1) (by omega) (by omega)
      rw [if_neg]
      · exact ih
      · cases hn : a.nb c d with
        | none =>
          show ¬ (1000000 : Int32) = Int32.ofNat (a.VV h c)
          rw [show (1000000 : Int32) = Int32.ofNat 1000000 from rfl, zi_eq (by omega) (by omega)]
          omega
        | some e =>
          have he := zG.nb_n v hc hn
          have hht := v.ht e
          have ve := zG.VV_b v (h := min h (a.ht e)) he
          show ¬ Int32.ofNat (128 * (a.ht e - h) + 1 + a.U h (a.VV h) e) = Int32.ofNat (a.VV h c)
          rw [uv e he, zi_eq (by omega) (by omega)]
          intro q
          rw [(zG.VV_le v (h := h) hc ho hn).2.mp q.symm] at hne
          cases hne
theorem s_bw_195 (v : zGV a) {H : Nat} (hH : H ≤ 99) : ∀ (j h c i : Nat) (m : zM), a.vk h c < j → h ≤ H → c < a.n → i + a.vk h c ≤ 63 → zMR (m.1 23 0) a → zCo a (H + 1) m → m.1 13 0 29 = Int32.ofNat (i + 1) → m.1 27 0 i = Int32.ofNat c →
    ∃ m', f_X12_bestWay_195 j (Int32.ofNat h) (Int32.ofNat c) m = some m' ∧ zFr (zPw i) m m' ∧ m'.1 13 0 29 = Int32.ofNat (i + 1 + a.vk h c) ∧ ∀ t, t ≤ a.vk h c → m'.1 27 0 (i + t) = Int32.ofNat (a.cw t h c) := by
  intro j
  induction j with
  | zero => intro h c i m q; exact absurd q (Nat.not_lt_zero _)
  | succ j ih =>
    intro h c i m hj hh hc hi r hco hl hw
    have n64 := v.n64
    unfold f_X12_bestWay_195
    rw [s_mout r (by omega), Option.bind_some]
    cases ho : a.ou c with
    | true =>
      have v0 := (zG.v0 v (h := h) hc ho).2
      rw [if_neg (by decide)]
      refine ⟨m, rfl, zFr.refl m, by rw [v0]; exact hl, fun t ht => ?_⟩
      rw [show t = 0 by omega]
      exact hw
    | false =>
      obtain ⟨b1, b2, b3, b4, b5, b6, b7⟩ := zG.bf_at v (h := h) hc ho
      rw [if_pos (by decide), show (0 : Int32) = Int32.ofNat 0 from rfl, s_bw_206 v (f_X12_bestWay_195 j) hH hh hc ho (show i < 64 by omega) r hco hl zF 0 (Nat.zero_le _) (zF_lt (by omega))]
      have f1 : zFr (zPw i) m (z_sI (z_sI m 13 0 29 (Int32.ofNat (i + 2))) 27 0 (i + 1) (Int32.ofNat (a.bn h c))) := zFr.sI (zFr.sI (zFr.refl m) _ (.inr ⟨rfl, rfl, rfl⟩)) _ (.inl ⟨rfl, rfl, by omega⟩)
      obtain ⟨m', p1, p2, p3, p4⟩ := ih (min h (a.ht (a.bn h c))) (a.bn h c) (i + 1) _ (by omega) (by omega) b5 (by omega) (by rw [f1.row (fun j => by unfold zPw; omega)]; exact r) (fun h' c' q1 q2' q3 => by rw [(f1 26 0 _ (by unfold zPw; omega)).1]; exact hco h' c' q1 q2' q3) (by rw [zm_ot _ _ _ _ (by omega), zm_row, if_pos rfl]) (by rw [zm_row, if_pos rfl])
      refine ⟨m', p1, f1.trans (p2.mono fun k i j w => by unfold zPw at *; omega), by rw [p3]; congr 1; omega, fun t ht => ?_⟩
      cases t with
      | zero => rw [(p2 27 0 (i + 0) (by unfold zPw; omega)).1, (f1 27 0 (i + 0) (by unfold zPw; omega)).1]; exact hw
      | succ t =>
        have := p4 t (by omega)
        rw [show i + (t + 1) = i + 1 + t by omega]
        exact this
abbrev zPbw (k i j : Nat) : Prop := (k = 26 ∧ i = 0) ∨ (k = 27 ∧ i = 0) ∨ (k = 13 ∧ i = 0 ∧ (j = 29 ∨ j = 30))
def zBw (a : zG) (c : Nat) (m : zM) : Prop := m.1 13 0 30 = Int32.ofNat (a.vq (a.ht c) c) ∧ m.1 13 0 29 = Int32.ofNat (a.vk (a.ht c) c + 1) ∧ ∀ t, t ≤ a.vk (a.ht c) c → m.1 27 0 t = Int32.ofNat (a.cw t (a.ht c) c)
theorem s_bw_2 (v : zGV a) {c : Nat} (hc : c < a.n) : ∀ (j h : Nat) (m : zM), h ≤ a.ht c + 1 → a.ht c + 1 - h < j → zMR (m.1 23 0) a → zCo a h m → ∃ m', f_X12_bestWay_2 j (Int32.ofNat c) (Int32.ofNat h) m = some m' ∧ zFr zPbw m m' ∧ zBw a c m'
  | 0, _, _, _, h, _, _ => absurd h (Nat.not_lt_zero _)
  | j + 1, h, m, hh, hj, r, hco => by
    have n64 := v.n64
    have hht := v.ht c
    unfold f_X12_bestWay_2
    rw [s_mheight r (by omega), Option.bind_some]
    by_cases he : h = a.ht c + 1
    · subst he
      have vb := zG.VV_b v (h := a.ht c) hc
      rw [if_pos (by rw [zi_lt (by omega) (by omega)]; omega), Option.bind_some, s_worth v r (by omega) hc (u := a.VV (a.ht c) c) (fun ho => hco _ c (by omega) hc ho), Option.bind_some]
      have ev : (if a.ou c = true then 1 else a.VV (a.ht c) c) = a.VV (a.ht c) c := by
        by_cases w : a.ou c = true
        · rw [if_pos w, zG.VV0 v hc w]
        · rw [if_neg w]
      rw [ev, zi_q vb.1, show (128 : Int32) = Int32.ofNat 128 from rfl, zi_div (by omega) (by omega), z_gdt (by decide)]
      have k63 := zG.vk63 v (h := a.ht c) hc
      have ed : (a.VV (a.ht c) c - 1) / 128 = a.vq (a.ht c) c := by
        unfold zG.VV
        omega
      rw [ed]
      have e29 : ∀ m : zM, (z_sI m 13 0 29 (0 : Int32)).1 13 0 29 = 0 := fun m => by rw [zm_row, if_pos rfl]
      rw [e29, z_gdt (by decide), z_c0]
      have f0 : zFr (fun k i j => (k = 27 ∧ i = 0) ∨ (k = 13 ∧ i = 0 ∧ (j = 29 ∨ j = 30))) m (z_sI (z_sI (z_sI (z_sI m 13 0 30 (Int32.ofNat (a.vq (a.ht c) c))) 13 0 29 (0 : Int32)) 13 0 29 (0 + 1)) 27 0 0 (Int32.ofNat c)) :=
        zFr.sI (zFr.sI (zFr.sI (zFr.sI (zFr.refl m) _ (.inr ⟨rfl, rfl, .inr rfl⟩)) _ (.inr ⟨rfl, rfl, .inl rfl⟩)) _ (.inr ⟨rfl, rfl, .inl rfl⟩)) _ (.inl ⟨rfl, rfl⟩)
      have g1 : (z_sI (z_sI (z_sI (z_sI m 13 0 30 (Int32.ofNat (a.vq (a.ht c) c))) 13 0 29 (0 : Int32)) 13 0 29 (0 + 1)) 27 0 0 (Int32.ofNat c)).1 13 0 30 = Int32.ofNat (a.vq (a.ht c) c) := by
        rw [zm_ot _ _ _ _ (by omega), zm_row, if_neg (by omega), zm_row, if_neg (by omega), zm_row, if_pos rfl]
      have g2 : (z_sI (z_sI (z_sI (z_sI m 13 0 30 (Int32.ofNat (a.vq (a.ht c) c))) 13 0 29 (0 : Int32)) 13 0 29 (0 + 1)) 27 0 0 (Int32.ofNat c)).1 13 0 29 = Int32.ofNat (0 + 1) := by
        rw [zm_ot _ _ _ _ (by omega), zm_row, if_pos rfl]
        rfl
      have g3 : (z_sI (z_sI (z_sI (z_sI m 13 0 30 (Int32.ofNat (a.vq (a.ht c) c))) 13 0 29 (0 : Int32)) 13 0 29 (0 + 1)) 27 0 0 (Int32.ofNat c)).1 27 0 0 = Int32.ofNat c := by rw [zm_row, if_pos rfl]
      generalize z_sI (z_sI (z_sI (z_sI m 13 0 30 (Int32.ofNat (a.vq (a.ht c) c))) 13 0 29 (0 : Int32)) 13 0 29 (0 + 1)) 27 0 0 (Int32.ofNat c) = m1 at f0 g1 g2 g3
      have f1 : zFr zPbw m m1 := f0.mono fun k i j w => by unfold zPbw; omega
      obtain ⟨m', p1, p2, p3, p4⟩ := s_bw_195 v hht zF (a.ht c) c 0 m1 (zF_lt (by omega)) (Nat.le_refl _) hc (by omega) (by rw [f1.row (fun j => by unfold zPbw; omega)]; exact r) (fun h' c' q1 q2' q3 => by rw [(f0 26 0 _ (by omega)).1]; exact hco h' c' q1 q2' q3) g2 g3
      refine ⟨m', p1, f1.trans (p2.mono fun k i j w => by unfold zPw at w; unfold zPbw; omega), ?_, by rw [p3]; congr 1; omega, fun t ht => by have := p4 t ht; rw [Nat.zero_add] at this; exact this⟩
      rw [(p2 13 0 30 (by unfold zPw; omega)).1]
      exact g1
    · rw [if_neg (by rw [zi_lt (by omega) (by omega)]; omega)]
      obtain ⟨m1, p1, p2, p3⟩ := s_bw_13 v (f_X12_bestWay_2 j) (Int32.ofNat c) (h := h) (by omega) zF 0 m (Nat.zero_le _) (zF_lt (by omega)) r hco fun e w => absurd w (Nat.not_lt_zero _)
      rw [show (0 : Int32) = Int32.ofNat 0 from rfl, p1]
      obtain ⟨m', q1, q2, q3⟩ := s_bw_2 v hc j (h + 1) m1 (by omega) (by omega) (by rw [p2.row (fun j => by unfold zPco; omega)]; exact r) p3
      exact ⟨m', q1, (p2.mono fun k i j w => by unfold zPco at w; unfold zPbw; omega).trans q2, q3⟩
theorem s_bestWay (v : zGV a) {c : Nat} (hc : c < a.n) {m : zM} (r : zMR (m.1 23 0) a) : ∃ m', f_X12_bestWay (Int32.ofNat c) m = some m' ∧ zFr zPbw m m' ∧ zBw a c m' :=
  s_bw_2 v hc zF 0 m (Nat.zero_le _) (zF_lt (by have := v.ht c; omega)) r fun h' c' w => absurd w (Nat.not_lt_zero _)
end
