/-! The class's plan of a way. -/
theorem zm_id (m : zM) (k i j : Nat) : z_sI m k i j (m.1 k i j) = m := by
  unfold z_sI
  have : (fun a b c => if a = k ∧ b = i ∧ c = j then m.1 k i j else m.1 a b c) = m.1 := by
    funext a b c
    by_cases w : a = k ∧ b = i ∧ c = j
    · rw [if_pos w, w.1, w.2.1, w.2.2]
    · rw [if_neg w]
  rw [this]
section
variable {a : zG} {g : Nat}
/-- the value of a step to e as the class counts -/
noncomputable def zG.sv (a : zG) (h : Nat) (Y : Nat → Nat) (e : Nat) : Nat := if a.ht e < h then a.WW (a.ht e) e + 1 else Y e + (a.ht e - h) * 1000 + 1
noncomputable def zG.svo (a : zG) (h : Nat) (Y : Nat → Nat) : Option Nat → Nat
  | none => 1000000000
  | some e => a.sv h Y e
noncomputable def zG.mv (a : zG) (h : Nat) (Y : Nat → Nat) (c : Nat) : Nat → Nat
  | 0 => Y c
  | d + 1 => min (a.mv h Y c d) (a.svo h Y (a.nb c d))
/-- own values of lower cells, and the values of h -/
def zOw (a : zG) (h : Nat) (m : zM) : Prop := ∀ e, e < a.n → a.ht e < h → m.1 20 56 e = Int32.ofNat (a.WW (a.ht e) e)
def zYs (a : zG) (h : Nat) (m : zM) (Y : Nat → Nat) : Prop := (∀ c, c < a.n → m.1 20 57 c = Int32.ofNat (Y c)) ∧ (∀ c, c < a.n → Y c ≤ 1000000000) ∧ (∀ c, c < a.n → h ≤ a.ht c → a.WW h c ≤ Y c)
theorem s_step (v : zGV a) {m : zM} (r : zGR m g a) {h : Nat} (hh : h ≤ 99) {Y : Nat → Nat} (ho : zOw a h m) (hY : zYs a h m Y) {x : Option Nat} (hx : ∀ e, x = some e → e < a.n) : f_X0_stepValue g (zo x) (Int32.ofNat h) m = some (Int32.ofNat (a.svo h Y x)) := by
  have n64 := v.n64
  unfold f_X0_stepValue
  cases x with
  | none => rw [zo_none, if_pos rfl]; rfl
  | some e =>
    have he := hx e rfl
    have hht := v.ht e
    rw [zo_some, if_neg (zi_m1 (by omega)), s_at' 20 (3 * g) (show e < 64 by omega), Option.bind_some, r.ht e (by omega)]
    show _ = some (Int32.ofNat (a.sv h Y e))
    unfold zG.sv
    have z0 := z_sub0 (x := a.ht e) (y := h) (by omega) (by omega)
    by_cases w : a.ht e < h
    · rw [if_neg (fun q => by have := z0.mp q; omega), s_at' 20 56 (show e < 64 by omega), Option.bind_some, ho e he w, if_pos w, zi_s]
    · rw [if_pos (z0.mpr (by omega)), s_at' 20 57 (show e < 64 by omega), Option.bind_some, hY.1 e he, if_neg w, zi_sub (by omega), show (1000 : Int32) = Int32.ofNat 1000 from rfl, zi_mul, zi_add, zi_s]
theorem zG.sv_b (v : zGV a) {h : Nat} {Y : Nat → Nat} (hY : ∀ c, c < a.n → Y c ≤ 1000000000) {e : Nat} (he : e < a.n) : a.sv h Y e ≤ 1000100000 := by
  have h1 := zG.WW_b v (h := a.ht e) he
  have h2 := v.ht e
  have h3 := hY e he
  unfold zG.sv
  split <;> omega
theorem zG.mv_le {h : Nat} {Y : Nat → Nat} {c : Nat} : ∀ d, a.mv h Y c d ≤ Y c
  | 0 => Nat.le_refl _
  | d + 1 => Nat.le_trans (Nat.min_le_left _ _) (zG.mv_le d)
theorem zG.mv_nb {h : Nat} {Y : Nat → Nat} {c d e : Nat} (hn : a.nb c d = some e) : ∀ k, d < k → a.mv h Y c k ≤ a.sv h Y e
  | 0, q => absurd q (Nat.not_lt_zero _)
  | k + 1, q => by
    show min (a.mv h Y c k) (a.svo h Y (a.nb c k)) ≤ a.sv h Y e
    by_cases w : d = k
    · subst w
      rw [hn]
      exact Nat.min_le_right _ _
    · exact Nat.le_trans (Nat.min_le_left _ _) (zG.mv_nb hn k (by omega))
theorem zG.mv_ge {h : Nat} {Y : Nat → Nat} {c B : Nat} (h0 : B ≤ Y c) (hB : B ≤ 1000000000) (h1 : ∀ d e, d < 4 → a.nb c d = some e → B ≤ a.sv h Y e) : ∀ k, k ≤ 4 → B ≤ a.mv h Y c k
  | 0, _ => h0
  | k + 1, q => by
    show B ≤ min (a.mv h Y c k) (a.svo h Y (a.nb c k))
    have ih := zG.mv_ge h0 hB h1 k (by omega)
    cases hn : a.nb c k with
    | none => exact Nat.le_min.mpr ⟨ih, hB⟩
    | some e => exact Nat.le_min.mpr ⟨ih, h1 k e (by omega) hn⟩
theorem zG.sv_ge (v : zGV a) {h : Nat} {Y : Nat → Nat} (hY : ∀ c, c < a.n → h ≤ a.ht c → a.WW h c ≤ Y c) {c d e : Nat} (hc : c < a.n) (ho : a.ou c = false) (hn : a.nb c d = some e) : a.WW h c ≤ a.sv h Y e := by
  have h1 := (zG.WW_le v (h := h) hc ho hn).1
  have he := zG.nb_n v hc hn
  unfold zG.sv
  by_cases w : a.ht e < h
  · rw [if_pos w]
    rw [Nat.min_eq_right (by omega), show a.ht e - h = 0 by omega] at h1
    omega
  · rw [if_neg w]
    rw [Nat.min_eq_left (by omega)] at h1
    have := hY e he (by omega)
    omega
abbrev zP57 (k i _j : Nat) : Prop := k = 20 ∧ i = 57
theorem s_imp_13 (v : zGV a) (hg : g < 11) {m : zM} (r : zGR m g a) {h : Nat} (hh : h ≤ 99) {Y : Nat → Nat} (ho : zOw a h m) (hY : zYs a h m Y) {c : Nat} (hc : c < a.n) : ∀ (j d : Nat), d ≤ 4 → 4 - d < j → f_X0_improve_13 g j (Int32.ofNat c) (Int32.ofNat h) (Int32.ofNat (a.mv h Y c d)) (Int32.ofNat d) m = some (decide (a.mv h Y c 4 < Y c), z_sI m 20 57 c (Int32.ofNat (a.mv h Y c 4)))
  | 0, _, _, h => absurd h (Nat.not_lt_zero _)
  | j + 1, d, hd, hj => by
    have n64 := v.n64
    have c64 : c < 64 := by omega
    have b1 := hY.2.1 c hc
    have b2 := zG.mv_le (a := a) (h := h) (Y := Y) (c := c) d
    unfold f_X0_improve_13
    rw [show (4 : Int32) = Int32.ofNat 4 from rfl]
    by_cases he : d = 4
    · subst he
      rw [if_pos (by rw [zi_le (by omega) (by omega)]; omega), s_at' 20 57 c64, Option.bind_some, hY.1 c hc]
      unfold f_X0_improve_63
      rw [s_put 20 57 c64, Option.bind_some, Option.bind_some]
      by_cases w : a.mv h Y c 4 < Y c
      · rw [if_neg (by rw [zi_le (by omega) (by omega)]; omega), z_gdt (by decide)]
        simp [w]
      · rw [if_pos (by rw [zi_le (by omega) (by omega)]; omega), z_gdt (by decide)]
        simp [w]
    · have ih := s_imp_13 v hg r hh ho hY hc j (d + 1) (by omega) (by omega)
      have hb : ∀ e, a.nb c d = some e → e < a.n := fun e q => zG.nb_n v hc q
      rw [if_neg (by rw [zi_le (by omega) (by omega)]; omega), s_nb v r hc (by omega), Option.bind_some, s_step v r hh ho hY hb, Option.bind_some, z_min (by omega) (by
        cases hn : a.nb c d with
        | none => show (1000000000 : Nat) < _; omega
        | some e => have := zG.sv_b v (h := h) hY.2.1 (hb e hn); show a.sv h Y e < _; omega), Option.bind_some, zi_s]
      exact ih
theorem s_improve (v : zGV a) (hg : g < 11) {m : zM} (r : zGR m g a) {h : Nat} (hh : h ≤ 99) {Y : Nat → Nat} (ho : zOw a h m) (hY : zYs a h m Y) {c : Nat} (hc : c < a.n) : f_X0_improve g (Int32.ofNat c) (Int32.ofNat h) m = some (decide (a.mv h Y c 4 < Y c), z_sI m 20 57 c (Int32.ofNat (a.mv h Y c 4))) := by
  have n64 := v.n64
  unfold f_X0_improve
  rw [s_at' 20 57 (show c < 64 by omega), Option.bind_some, hY.1 c hc]
  exact s_imp_13 v hg r hh ho hY hc zF 0 (Nat.zero_le _) (zF_lt (by omega))
/-- the cell that a pass looks at -/
def zpi (n p i : Nat) : Nat := if p % 2 = 0 then i else n - 1 - i
/-- settled as far as ways of k steps -/
def zSe (a : zG) (h k : Nat) (Y : Nat → Nat) (c : Nat) : Prop := h ≤ a.ht c → a.vk h c ≤ k → Y c = a.WW h c
theorem s_sol_68 (v : zGV a) (hg : g < 11) {h p : Nat} (hh : h ≤ 99) (hp : p < 64) (K : Int32 → Int32 → Int32 → Int32 → zM → Option zM) : ∀ (j i : Nat) (x : Int32) (m : zM) (Y : Nat → Nat), i ≤ a.n → a.n - i < j → zGR m g a → zOw a h m → zYs a h m Y → (∀ c, c < a.n → zSe a h p Y c) → (∀ i', i' < i → zSe a h (p + 1) Y (zpi a.n p i')) →
    ∃ x' m' Y', f_X0_solve_68 g K j (Int32.ofNat h) (Int32.ofNat a.n) x (Int32.ofNat p) (Int32.ofNat i) m = K (Int32.ofNat h) (Int32.ofNat a.n) x' (Int32.ofNat (p + 1)) m' ∧ zFr zP57 m m' ∧ zYs a h m' Y' ∧ (∀ c, c < a.n → zSe a h (p + 1) Y' c) ∧ ((x' = x ∧ m' = m ∧ Y' = Y ∧ ∀ i', i ≤ i' → i' < a.n → h ≤ a.ht (zpi a.n p i') → Y (zpi a.n p i') ≤ a.mv h Y (zpi a.n p i') 4) ∨ x' = 1)
  | 0, _, _, _, _, _, h, _, _, _, _, _ => absurd h (Nat.not_lt_zero _)
  | j + 1, i, x, m, Y, hi, hj, r, ho, hY, hs, ht => by
    have n64 := v.n64
    unfold f_X0_solve_68
    by_cases he : i = a.n
    · subst he
      rw [if_pos (by rw [zi_le (by omega) (by omega)]; clear ht hs; omega), zi_s]
      refine ⟨x, m, Y, rfl, zFr.refl m, hY, fun c hc => ?_, .inl ⟨rfl, rfl, rfl, fun i' q1 q2 => by clear ht hs; omega⟩⟩
      by_cases w : p % 2 = 0
      · have := ht c hc
        unfold zpi at this
        rw [if_pos w] at this
        exact this
      · have := ht (a.n - 1 - c) (by clear ht hs; omega)
        unfold zpi at this
        rw [if_neg w, show a.n - 1 - (a.n - 1 - c) = c by clear this ht hs; omega] at this
        exact this
    · have hin : i < a.n := by clear ht hs; omega
      have hj2 : a.n - (i + 1) < j := by clear ht hs; omega
      rw [if_neg (by rw [zi_le (by omega) (by omega)]; clear ht hs; omega), z_gdt (by decide), show (2 : Int32) = Int32.ofNat 2 from rfl, zi_rem (by omega) (by omega)]
      have hcn : zpi a.n p i < a.n := by
        unfold zpi
        split
        · exact hin
        · clear ht hs; omega
      have goal : ∃ x' m' Y', f_X0_solve_92 g K (f_X0_solve_68 g K j) (Int32.ofNat h) (Int32.ofNat a.n) x (Int32.ofNat p) (Int32.ofNat i) (Int32.ofNat (zpi a.n p i)) m = K (Int32.ofNat h) (Int32.ofNat a.n) x' (Int32.ofNat (p + 1)) m' ∧ zFr zP57 m m' ∧ zYs a h m' Y' ∧ (∀ c, c < a.n → zSe a h (p + 1) Y' c) ∧ ((x' = x ∧ m' = m ∧ Y' = Y ∧ ∀ i', i ≤ i' → i' < a.n → h ≤ a.ht (zpi a.n p i') → Y (zpi a.n p i') ≤ a.mv h Y (zpi a.n p i') 4) ∨ x' = 1) := by
        unfold f_X0_solve_92
        have hht := v.ht (zpi a.n p i)
        rw [s_at' 20 (3 * g) (show zpi a.n p i < 64 by omega), Option.bind_some, r.ht _ (by omega), zi_s]
        by_cases wl : a.ht (zpi a.n p i) < h
        · rw [if_pos (by rw [zi_lt (by omega) (by omega)]; exact wl)]
          obtain ⟨x', m', Y', q1, q2, q3, q4, q5⟩ := s_sol_68 v hg hh hp K j (i + 1) x m Y hin hj2 r ho hY hs fun i' h' => by
            by_cases z : i' = i
            · rw [z]
              exact fun w => by omega
            · exact ht i' (by omega)
          refine ⟨x', m', Y', q1, q2, q3, q4, ?_⟩
          rcases q5 with ⟨u1, u2, u3, u4⟩ | u
          · refine .inl ⟨u1, u2, u3, fun i' w1 w2 w3 => ?_⟩
            by_cases z : i' = i
            · rw [z] at w3; omega
            · exact u4 i' (by omega) w2 w3
          · exact .inr u
        · rw [if_neg (by rw [zi_lt (by omega) (by omega)]; exact wl), s_improve v hg r hh ho hY hcn, Option.bind_some]
          generalize hcc : zpi a.n p i = c at hcn hht wl
          have f1 : zFr zP57 m (z_sI m 20 57 c (Int32.ofNat (a.mv h Y c 4))) := zFr.sI (zFr.refl m) _ ⟨rfl, rfl⟩
          have mle := zG.mv_le (a := a) (h := h) (Y := Y) (c := c) 4
          have wb := zG.WW_b v (h := h) hcn
          have mge : a.WW h c ≤ a.mv h Y c 4 := by
            cases hou : a.ou c with
            | true => rw [zG.WW0 v hcn hou]; exact Nat.zero_le _
            | false => exact zG.mv_ge (hY.2.2 c hcn (by omega)) (by omega) (fun d e _ hn => zG.sv_ge v hY.2.2 hcn hou hn) 4 (Nat.le_refl _)
          have hY1 : zYs a h (z_sI m 20 57 c (Int32.ofNat (a.mv h Y c 4))) (fun f => if f = c then a.mv h Y c 4 else Y f) := by
            refine ⟨fun f hf => ?_, fun f hf => ?_, fun f hf hl => ?_⟩
            · rw [zm_row]
              by_cases z : f = c
              · rw [if_pos z]; simp only [z, if_true]
              · rw [if_neg z]; simp only [z, if_false]; exact hY.1 f hf
            · have := hY.2.1 f hf
              have := hY.2.1 c hcn
              by_cases z : f = c
              · simp only [z, if_true]; omega
              · simp only [z, if_false]; omega
            · by_cases z : f = c
              · simp only [z, if_true]; exact mge
              · simp only [z, if_false]; exact hY.2.2 f hf hl
          have keep : ∀ k f, f < a.n → zSe a h k Y f → zSe a h k (fun f => if f = c then a.mv h Y c 4 else Y f) f := fun k f hf hse w1 w2 => by
            show (if f = c then a.mv h Y c 4 else Y f) = _
            by_cases z : f = c
            · rw [if_pos z]
              have := hse w1 w2
              rw [z] at this ⊢
              omega
            · rw [if_neg z]
              exact hse w1 w2
          have now : zSe a h (p + 1) (fun f => if f = c then a.mv h Y c 4 else Y f) c := fun w1 w2 => by
            show (if c = c then a.mv h Y c 4 else Y c) = _
            rw [if_pos rfl]
            cases hou : a.ou c with
            | true =>
              have := hs c hcn w1 (by rw [(zG.v0 v hcn hou).2]; exact Nat.zero_le _)
              omega
            | false =>
              obtain ⟨d, e, e1, e2, e3⟩ := zG.bd_ex v (h := h) hcn hou
              have e4 := (zG.WW_le v (h := h) hcn hou e2).2.mpr e3
              have hen := zG.nb_n v hcn e2
              have e5 := zG.mv_nb (h := h) (Y := Y) e2 4 e1
              have e6 : a.sv h Y e ≤ a.WW h c := by
                unfold zG.sv
                by_cases z : a.ht e < h
                · rw [if_pos z]
                  rw [Nat.min_eq_right (by omega), show a.ht e - h = 0 by omega] at e4
                  omega
                · rw [if_neg z]
                  rw [Nat.min_eq_left (by omega)] at e4
                  have e7 : a.vk h e ≤ p := by
                    unfold zG.bd at e3
                    rw [e2] at e3
                    have := (decide_eq_true_iff.mp e3).2
                    rw [Nat.min_eq_left (by omega)] at this
                    omega
                  have := hs e hen (by omega) e7
                  omega
              omega
          have fin : ∀ x2 : Int32, (x2 = 1 ∨ (x2 = x ∧ ¬ a.mv h Y c 4 < Y c)) → ∃ x' m' Y', f_X0_solve_68 g K j (Int32.ofNat h) (Int32.ofNat a.n) x2 (Int32.ofNat p) (Int32.ofNat (i + 1)) (z_sI m 20 57 c (Int32.ofNat (a.mv h Y c 4))) = K (Int32.ofNat h) (Int32.ofNat a.n) x' (Int32.ofNat (p + 1)) m' ∧ zFr zP57 m m' ∧ zYs a h m' Y' ∧ (∀ c, c < a.n → zSe a h (p + 1) Y' c) ∧ ((x' = x ∧ m' = m ∧ Y' = Y ∧ ∀ i', i ≤ i' → i' < a.n → h ≤ a.ht (zpi a.n p i') → Y (zpi a.n p i') ≤ a.mv h Y (zpi a.n p i') 4) ∨ x' = 1) := fun x2 hx2 => by
            obtain ⟨x', m', Y', q1, q2, q3, q4, q5⟩ := s_sol_68 v hg hh hp K j (i + 1) x2 _ _ hin hj2 (r.keep f1 fun k i j w => by unfold zGp at w; unfold zP57; omega) (fun e q1 q2 => by rw [(f1 20 56 e (by unfold zP57; omega)).1]; exact ho e q1 q2) hY1 (fun f hf => keep p f hf (hs f hf)) fun i' h' => by
              by_cases z : i' = i
              · rw [z, hcc]; exact now
              · have : zpi a.n p i' < a.n := by
                  unfold zpi
                  clear hs ht keep now
                  split <;> omega
                exact keep (p + 1) _ this (ht i' (by omega))
            refine ⟨x', m', Y', q1, f1.trans q2, q3, q4, ?_⟩
            rcases q5 with ⟨u1, u2, u3, u4⟩ | u
            · rcases hx2 with hx2 | ⟨hx2, hnl⟩
              · exact .inr (u1.trans hx2)
              · have hYc : a.mv h Y c 4 = Y c := by omega
                have em : z_sI m 20 57 c (Int32.ofNat (a.mv h Y c 4)) = m := by
                  rw [hYc, ← hY.1 c hcn]
                  exact zm_id m 20 57 c
                have eY : (fun f => if f = c then a.mv h Y c 4 else Y f) = Y := by
                  funext f
                  by_cases z : f = c
                  · rw [if_pos z, z, hYc]
                  · rw [if_neg z]
                refine .inl ⟨u1.trans hx2, u2.trans em, u3.trans eY, fun i' w1 w2 w3 => ?_⟩
                by_cases z : i' = i
                · rw [z, hcc]; omega
                · have u5 := u4 i' (by omega) w2 w3
                  rw [eY] at u5
                  have e9 : (if zpi a.n p i' = c then a.mv h Y c 4 else Y (zpi a.n p i')) = Y (zpi a.n p i') := congrFun eY _
                  rw [e9] at u5
                  exact u5
            · exact .inr u
          by_cases w : a.mv h Y c 4 < Y c
          · rw [if_neg (by rw [zi_bi0, decide_eq_false_iff_not]; exact fun y => y w)]
            exact fin 1 (.inl rfl)
          · rw [if_pos (by rw [zi_bi0, decide_eq_false_iff_not]; exact w)]
            exact fin x (.inr ⟨rfl, w⟩)
      by_cases w : p % 2 = 0
      · rw [if_pos (by rw [w]; rfl)]
        have e : zpi a.n p i = i := by unfold zpi; rw [if_pos w]
        rw [e] at goal
        exact goal
      · rw [if_neg (by rw [show (0 : Int32) = Int32.ofNat 0 from rfl, zi_eq (by omega) (by omega)]; exact w), show Int32.ofNat a.n - 1 = Int32.ofNat (a.n - 1) from zi_q (by clear ht hs; omega), zi_sub (by clear ht hs goal; omega)]
        have e : zpi a.n p i = a.n - 1 - i := by unfold zpi; rw [if_neg w]
        rw [e] at goal
        exact goal
theorem zG.WW_fix (v : zGV a) {h : Nat} {Y : Nat → Nat} (h0 : ∀ c, c < a.n → h ≤ a.ht c → a.ou c = true → Y c = 0) (hr : ∀ c, c < a.n → h ≤ a.ht c → Y c ≤ a.mv h Y c 4) : ∀ (k c : Nat), a.WW h c < k → c < a.n → h ≤ a.ht c → Y c ≤ a.WW h c := by
  intro k
  induction k with
  | zero => intro c h1; exact absurd h1 (Nat.not_lt_zero _)
  | succ k ih =>
    intro c h1 hc hl
    cases ho : a.ou c with
    | true => rw [h0 c hc hl ho]; exact Nat.zero_le _
    | false =>
      obtain ⟨d, e, h2, h3, h4⟩ := zG.bd_ex v (h := h) hc ho
      have h5 := (zG.WW_le v (h := h) hc ho h3).2.mpr h4
      have he := zG.nb_n v hc h3
      have h6 := hr c hc hl
      have h7 := zG.mv_nb (h := h) (Y := Y) h3 4 h2
      have h8 : a.sv h Y e ≤ a.WW h c := by
        unfold zG.sv
        by_cases z : a.ht e < h
        · rw [if_pos z]
          rw [Nat.min_eq_right (by omega), show a.ht e - h = 0 by omega] at h5
          omega
        · rw [if_neg z]
          rw [Nat.min_eq_left (by omega)] at h5
          have := ih e (by omega) he (by omega)
          omega
      omega
def zVl (a : zG) (h : Nat) (m : zM) : Prop := ∀ c, c < a.n → h ≤ a.ht c → m.1 20 57 c = Int32.ofNat (a.WW h c)
theorem s_sol_50 (v : zGV a) (hg : g < 11) {h : Nat} (hh : h ≤ 99) : ∀ (j p : Nat) (m : zM) (Y : Nat → Nat), p ≤ 64 → 64 - p < j → zGR m g a → zOw a h m → zYs a h m Y → (∀ c, c < a.n → zSe a h p Y c) →
    ∃ m', f_X0_solve_50 g j (Int32.ofNat h) (Int32.ofNat a.n) 1 (Int32.ofNat p) m = some m' ∧ zFr zP57 m m' ∧ zVl a h m'
  | 0, _, _, _, _, h, _, _, _, _ => absurd h (Nat.not_lt_zero _)
  | j + 1, p, m, Y, hp, hj, r, ho, hY, hs => by
    have n64 := v.n64
    unfold f_X0_solve_50
    rw [show (64 : Int32) = Int32.ofNat 64 from rfl]
    by_cases he : p = 64
    · subst he
      rw [if_pos (by rw [zi_le (by omega) (by omega)]; clear hs; omega)]
      refine ⟨m, rfl, zFr.refl m, fun c hc hl => ?_⟩
      rw [hY.1 c hc, hs c hc hl (by have := zG.vk63 v (h := h) hc; omega)]
    · have hp2 : p < 64 ∧ 64 - (p + 1) < j := by clear hs; omega
      rw [if_neg (by rw [zi_le (by omega) (by omega)]; clear hs; omega), if_neg (by decide)]
      obtain ⟨x1, m1, Y1, q1, q2, q3, q4, q5⟩ := s_sol_68 v hg hh hp2.1 (f_X0_solve_50 g j) zF 0 0 m Y (Nat.zero_le _) (zF_lt (by clear hs; omega)) r ho hY hs fun i' w => absurd w (Nat.not_lt_zero _)
      rw [show Int32.ofNat 0 = (0 : Int32) from rfl] at q1
      rw [q1]
      have r1 := r.keep q2 fun k i j w => by unfold zGp at w; unfold zP57; omega
      have ho1 : zOw a h m1 := fun e w1 w2 => by rw [(q2 20 56 e (by unfold zP57; omega)).1]; exact ho e w1 w2
      by_cases w : x1 = 1
      · subst w
        obtain ⟨m', p1, p2, p3⟩ := s_sol_50 v hg hh j (p + 1) m1 Y1 (by clear hs; omega) hp2.2 r1 ho1 q3 q4
        exact ⟨m', p1, q2.trans p2, p3⟩
      · rcases q5 with ⟨u1, u2, u3, u4⟩ | u
        · subst u1 u2 u3
          obtain ⟨j', rfl⟩ : ∃ j', j = j' + 1 := ⟨j - 1, by clear hs; omega⟩
          have fix := zG.WW_fix v (h := h) (Y := Y1) (fun c hc hl hou => by rw [hs c hc hl (by rw [(zG.v0 v hc hou).2]; exact Nat.zero_le _), zG.WW0 v hc hou]) fun c hc hl => by
            by_cases z : p % 2 = 0
            · have := u4 c (Nat.zero_le _) hc
              unfold zpi at this
              rw [if_pos z] at this
              exact this hl
            · have := u4 (a.n - 1 - c) (Nat.zero_le _) (by clear hs; omega)
              unfold zpi at this
              rw [if_neg z, show a.n - 1 - (a.n - 1 - c) = c by clear this hs u4; omega] at this
              exact this hl
          have res : zVl a h m1 := fun c hc hl => by
            rw [hY.1 c hc, Nat.le_antisymm (fix _ c (Nat.lt_succ_self _) hc hl) (hY.2.2 c hc hl)]
          unfold f_X0_solve_50
          by_cases z : (64 : Int32) ≤ Int32.ofNat (p + 1)
          · rw [if_pos z]
            exact ⟨m1, rfl, zFr.refl m1, res⟩
          · rw [if_neg z, if_pos rfl]
            exact ⟨m1, rfl, zFr.refl m1, res⟩
        · exact absurd u w
theorem s_sol_8 (v : zGV a) (hg : g < 11) {h : Nat} (hh : h ≤ 99) : ∀ (j c : Nat) (m : zM), c ≤ a.n → a.n - c < j → zGR m g a → zOw a h m → (∀ e, e < c → m.1 20 57 e = Int32.ofNat (if a.ou e = true then 0 else 1000000000)) →
    ∃ m', f_X0_solve_8 g j (Int32.ofNat h) (Int32.ofNat a.n) (Int32.ofNat c) m = some m' ∧ zFr zP57 m m' ∧ zVl a h m'
  | 0, _, _, _, h, _, _, _ => absurd h (Nat.not_lt_zero _)
  | j + 1, c, m, hc, hj, r, ho, hm => by
    have n64 := v.n64
    unfold f_X0_solve_8
    by_cases he : c = a.n
    · subst he
      rw [if_pos (by rw [zi_le (by omega) (by omega)]; omega)]
      refine s_sol_50 v hg hh zF 0 m (fun e => if a.ou e = true then 0 else 1000000000) (Nat.zero_le _) (zF_lt (by omega)) r ho ⟨hm, fun e _ => by show (if a.ou e = true then 0 else 1000000000) ≤ 1000000000; split <;> omega, fun e he _ => ?_⟩ fun e he w1 w2 => ?_
      · show a.WW h e ≤ if a.ou e = true then 0 else 1000000000
        by_cases w : a.ou e = true
        · rw [if_pos w, zG.WW0 v he w]; exact Nat.le_refl _
        · rw [if_neg w]
          have := zG.WW_b v (h := h) he
          omega
      · show (if a.ou e = true then 0 else 1000000000) = _
        have w : a.ou e = true := by
          cases q : a.ou e with
          | true => rfl
          | false =>
            obtain ⟨_, _, _, _, _, h3⟩ := zG.v_next v (h := h) he q
            omega
        rw [if_pos w, zG.WW0 v he w]
    · have hcn : c < a.n := by omega
      have c64 : c < 64 := by omega
      rw [if_neg (by rw [zi_le (by omega) (by omega)]; omega), s_outlet v r hcn, Option.bind_some]
      have nx : ∀ u : Nat, u = (if a.ou c = true then 0 else 1000000000) → ∃ m', f_X0_solve_35 g (f_X0_solve_8 g j) (Int32.ofNat h) (Int32.ofNat a.n) (Int32.ofNat c) (Int32.ofNat c) (Int32.ofNat u) m = some m' ∧ zFr zP57 m m' ∧ zVl a h m' := fun u hu => by
        unfold f_X0_solve_35
        rw [s_put 20 57 c64, Option.bind_some, zi_s]
        have f1 : zFr zP57 m (z_sI m 20 57 c (Int32.ofNat u)) := zFr.sI (zFr.refl m) _ ⟨rfl, rfl⟩
        obtain ⟨m', p1, p2, p3⟩ := s_sol_8 v hg hh j (c + 1) _ hcn (by omega) (r.keep f1 fun k i j w => by unfold zGp at w; unfold zP57; omega) (fun e q1 q2 => by rw [(f1 20 56 e (by unfold zP57; omega)).1]; exact ho e q1 q2) fun e he' => by
          rw [zm_row]
          by_cases z : e = c
          · rw [if_pos z, hu, z]
          · rw [if_neg z]; exact hm e (by omega)
        exact ⟨m', p1, f1.trans p2, p3⟩
      cases hou : a.ou c with
      | true =>
        rw [if_neg (by decide)]
        exact nx 0 (by rw [if_pos hou])
      | false =>
        rw [if_pos (by decide)]
        exact nx 1000000000 (by rw [if_neg (by rw [hou]; decide)])
theorem s_solve (v : zGV a) (hg : g < 11) {h : Nat} (hh : h ≤ 99) {m : zM} (r : zGR m g a) (ho : zOw a h m) : ∃ m', f_X0_solve g (Int32.ofNat h) m = some m' ∧ zFr zP57 m m' ∧ zVl a h m' := by
  unfold f_X0_solve
  rw [s_size v r, Option.bind_some]
  exact s_sol_8 v hg hh zF 0 m (Nat.zero_le _) (zF_lt (by have := v.n64; omega)) r ho fun e w => absurd w (Nat.not_lt_zero _)
end
