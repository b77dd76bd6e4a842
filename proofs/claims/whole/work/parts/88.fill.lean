/-! append, fillLake, raise. -/
def zG.ups (a : zG) (V : Nat → Bool) (F : Nat → Nat) : zG := (a.1, a.2.1, a.2.2.1, (fun d => if V d = true then F d else a.ht d), a.2.2.2.2.1, a.2.2.2.2.2.1, a.2.2.2.2.2.2)
theorem z_nar : ∀ k, k < 127 → vp_nar .char (Int32.ofNat k) = Int32.ofNat k := by decide +kernel
section
variable {a : zG} {b : Nat → zG} {n p : Nat} {s : Option zG} {l : Nat} {c : Nat → Nat} {e : Option Nat} {m : zM} {V : Nat → Bool} {F : Nat → Nat}
theorem zG.ups_v (v : zGV a) (h : ∀ d, V d = true → F d ≤ 99) : zGV (a.ups V F) := by
  obtain ⟨h1, h2, h3, h4, h5, h6, h7, h8, h9, h10, h11⟩ := v
  refine ⟨h1, h2, h3, h4, h5, h6, fun d => ?_, h8, h9, h10, h11⟩
  show (if V d = true then F d else a.ht d) ≤ 99
  by_cases w : V d = true
  · rw [if_pos w]; exact h d w
  · rw [if_neg w]; exact h7 d
theorem zG.ups_s (x : Nat) : (a.ups V F).sH x (F x) = a.ups (fun d => V d || decide (d = x)) F := by
  have : (fun d => if d = x then F x else (a.ups V F).ht d) = fun d => if (V d || decide (d = x)) = true then F d else a.ht d := funext fun d => by
    show (if d = x then F x else if V d = true then F d else a.ht d) = _
    by_cases w : d = x
    · rw [if_pos w, w]; simp
    · rw [if_neg w]; simp [w]
  unfold zG.sH zG.ups
  unfold zG.ups at this
  rw [this]
theorem zG.ups_e {V' : Nat → Bool} (h : ∀ d, V d = V' d) : a.ups V F = a.ups V' F := by rw [funext h]
theorem zG.ups_0 (h : ∀ d, V d = false) : a.ups V F = a := by
  have : (fun d => if V d = true then F d else a.ht d) = a.ht := funext fun d => by rw [h d]; rfl
  unfold zG.ups
  rw [this]
  rfl
theorem zG.ups_n : (a.ups V F).n = a.n := rfl
theorem zG.ups_ht (d : Nat) : (a.ups V F).ht d = if V d = true then F d else a.ht d := rfl
theorem t_append (I : zInv m) (x : Int32) : zAg Int32.toInt64 (f_L_append x m) (f_X12_append x) := by
  obtain ⟨a, b, n, p, s, l, c, e, I'⟩ := I
  obtain ⟨C, J⟩ := I'.split
  obtain ⟨l60, hl, htx⟩ := C.2.2.2.2.1
  unfold f_L_append
  rcases z_rng x (lo := 33) (hi := 126) (by omega) (by omega) with ⟨k, k1, k2, rfl, g1, g2⟩ | ⟨g0, g1, g2⟩
  · by_cases full : l = 60
    · refine zAg.ex Int32.toInt64 I'.of (x := 2) (k := 2) ?_ rfl fun m' f => ?_
      · unfold f_X11_append zCl
        rw [show (33 : Int32) = Int32.ofNat 33 from rfl, show (126 : Int32) = Int32.ofNat 126 from rfl, g1, zbx_l, hl, if_neg (by rw [show (60 : Int32) = Int32.ofNat 60 from rfl, zi_lt (by omega) (by omega)]; omega)]
        exact ⟨m, rfl, zFr.refl m⟩
      · have h8 : (z_sI m' 13 0 0 0).1 13 0 8 = Int32.ofNat l := by
          rw [zm_row, if_neg (by omega)]
          exact (I'.keep f).split.2.2.2.2.1.1
        unfold zAn f_X12_append
        rw [show (33 : Int64) = Int32.toInt64 (Int32.ofNat 33) from rfl, show (126 : Int64) = Int32.toInt64 (Int32.ofNat 126) from rfl, g2, Option.bind_some, if_neg (by decide), h8, if_pos (by rw [full]; rfl)]
        exact ⟨0, _, rfl, (z_th m' 0).trans (z_th _ 2), by decide, z_th0 _ _⟩
    · refine zAg.mut Int32.toInt64 J (v := Int32.ofNat (l + 1)) (a' := a) (b' := b) (n' := n) (p' := p) (s' := s) (l' := l + 1) (c' := fun t => if t = l then k else c t) (e' := e) ?_ fun m1 J1 => ?_
      · have f1 : zFr (fun k i j => (k = 34 ∧ i = 0) ∨ (k = 10 ∧ i = 0 ∧ j = 1)) m (z_sI (z_sI m 34 0 l (Int32.ofNat k)) 10 0 1 (Int32.ofNat (l + 1))) := zFr.sI (zFr.sI (zFr.refl m) _ (.inl ⟨rfl, rfl⟩)) _ (.inr ⟨rfl, rfl, rfl⟩)
        unfold f_X11_append f_X9_add
        rw [show (33 : Int32) = Int32.ofNat 33 from rfl, show (126 : Int32) = Int32.ofNat 126 from rfl, g1, zbx_l, hl, if_pos (by rw [show (60 : Int32) = Int32.ofNat 60 from rfl, zi_lt (by omega) (by omega)]; omega), if_neg (zi_nn (by omega)), if_neg (by rw [show (Int32.ofNat (z_alen 34)) = Int32.ofNat 60 from rfl, zi_le (by omega) (by omega)]; omega), z_gdt (by rw [zi_inb (by omega), decide_eq_true_eq]; show l < 60; omega), zi_nat (by omega), z_nar k (by omega), Option.bind_some, show (z_sI m 34 0 l (Int32.ofNat k)).1 10 0 1 = Int32.ofNat l by rw [zm_ot _ _ _ _ (by omega)]; exact hl, zi_s, zm_row, if_pos rfl]
        refine ⟨_, rfl, f1.mono fun k i j w => by unfold zNm zOm; omega, ?_⟩
        obtain ⟨h1, h2, ⟨q1, q2, q3, q4, q6⟩, h5, ht, he⟩ := C
        have gr : ∀ {x : zG} {q : Nat}, zGR m q x → zGR (z_sI (z_sI m 34 0 l (Int32.ofNat k)) 10 0 1 (Int32.ofNat (l + 1))) q x := fun {x q} w3 => w3.keep f1 fun k i j y => by unfold zGp at y; omega
        refine ⟨h1, gr h2, ⟨q1, q2, ((f1 7 0 1 (by omega)).1).trans q3, ((f1 7 0 2 (by omega)).1).trans q4, fun j hj => ⟨(q6 j hj).1, gr (q6 j hj).2⟩⟩, ?_, ⟨by omega, by rw [zm_row, if_pos rfl], fun t ht => ?_⟩, ((f1 12 0 6 (by omega)).1).trans he.1, he.2⟩
        · have g3 := (f1 12 0 3 (by omega)).1
          cases s with
          | none => exact g3.trans h5
          | some x => exact ⟨g3.trans h5.1, h5.2.1, gr h5.2.2⟩
        · rw [zm_ot _ _ _ _ (by omega), zm_row]
          show 33 ≤ (if t = l then k else c t) ∧ (if t = l then k else c t) ≤ 126 ∧ _ = Int32.ofNat (if t = l then k else c t)
          by_cases w : t = l
          · rw [if_pos w, if_pos w]
            exact ⟨k1, k2, rfl⟩
          · rw [if_neg w, if_neg w]
            exact htx t (by omega)
      · have h8 : (z_sI m1 13 0 0 0).1 13 0 8 = Int32.ofNat l := by
          rw [zm_row, if_neg (by omega)]
          exact J1.2.2.2.1.1
        have f2 : zFr (fun k i j => (k = 25 ∧ i = 0) ∨ (k = 13 ∧ i = 0 ∧ (j = 0 ∨ j = 8))) m1 (z_sI (z_sI (z_sI m1 13 0 0 0) 13 0 8 (Int32.ofNat (l + 1))) 25 0 l (Int32.ofNat k)) := zFr.sI (zFr.sI (zFr.sI (zFr.refl m1) _ (.inr ⟨rfl, rfl, .inl rfl⟩)) _ (.inr ⟨rfl, rfl, .inr rfl⟩)) _ (.inl ⟨rfl, rfl⟩)
        unfold f_X12_append
        rw [show (33 : Int64) = Int32.toInt64 (Int32.ofNat 33) from rfl, show (126 : Int64) = Int32.toInt64 (Int32.ofNat 126) from rfl, g2, Option.bind_some, if_neg (by decide), h8, if_neg (by rw [show (60 : Int32) = Int32.ofNat 60 from rfl, zi_eq (by omega) (by omega)]; exact full), z_gdt (by rw [zi_inb (by omega), decide_eq_true_eq]; show l < 60; omega), zi_nat (by omega), zi_s, zm_ot _ _ _ _ (by omega), zm_row, if_pos rfl]
        refine ⟨_, rfl, f2.mono fun k i j w => by unfold zNc zOc; omega, by rw [zm_ot _ _ _ _ (by omega), zm_row, if_neg (by omega)]; exact z_th0 _ _, ?_⟩
        obtain ⟨h1, ⟨q5, q7⟩, h6, ⟨t3, t5⟩, e2⟩ := J1
        refine ⟨by rw [f2.row (fun j => by omega)]; exact h1, ⟨((f2 13 0 3 (by omega)).1).trans q5, fun j hj => by rw [f2.row (fun j => by omega)]; exact q7 j hj⟩, ?_, ⟨by rw [zm_ot _ _ _ _ (by omega), zm_row, if_pos rfl], fun t ht => ?_⟩, ((f2 13 0 10 (by omega)).1).trans e2⟩
        · have g3 := (f2 13 0 5 (by omega)).1
          cases s with
          | none => exact g3.trans h6
          | some x => exact ⟨g3.trans h6.1, by rw [f2.row (fun j => by omega)]; exact h6.2⟩
        · rw [zm_row]
          show _ = Int32.ofNat (if t = l then k else c t)
          by_cases w : t = l
          · rw [if_pos w, if_pos w]
          · rw [if_neg w, if_neg w, zm_ot _ _ _ _ (by omega), zm_ot _ _ _ _ (by omega)]
            exact t5 t (by omega)
  · refine zAg.ex Int32.toInt64 I'.of (x := 0) (k := 1) ?_ rfl fun m' f => ?_
    · unfold f_X11_append zCl
      rw [show (33 : Int32) = Int32.ofNat 33 from rfl, show (126 : Int32) = Int32.ofNat 126 from rfl, g1, zbx_r]
      exact ⟨m, rfl, zFr.refl m⟩
    · unfold zAn f_X12_append
      rw [show (33 : Int64) = Int32.toInt64 (Int32.ofNat 33) from rfl, show (126 : Int64) = Int32.toInt64 (Int32.ofNat 126) from rfl, g2, Option.bind_some, if_pos (by decide)]
      exact ⟨0, _, rfl, (z_th m' 0).trans (z_th _ 1), by decide, z_th0 _ _⟩
/-! fillLake -/
def z_bel (S : Nat → Bool) (k d : Nat) : Bool := S d && decide (d < k)
theorem z_bel_s {S : Nat → Bool} {k : Nat} : ∀ d, z_bel S (k + 1) d = if S k = true then (z_bel S k d || decide (d = k)) else z_bel S k d := fun d => by
  unfold z_bel
  by_cases w : d = k
  · subst w
    cases S d <;> simp
  · have : d < k + 1 ↔ d < k := by omega
    simp [this, w]
theorem zG.ups_b {S : Nat → Bool} {k : Nat} : (S k = true → a.ups (z_bel S (k + 1)) F = (a.ups (z_bel S k) F).sH k (F k)) ∧ (S k = false → a.ups (z_bel S (k + 1)) F = a.ups (z_bel S k) F) := by
  refine ⟨fun h => ?_, fun h => zG.ups_e fun d => by rw [z_bel_s, h, if_neg Bool.false_ne_true]⟩
  rw [zG.ups_s]
  exact zG.ups_e fun d => by rw [z_bel_s, if_pos h]
theorem s_fl_40 (v : zGV a) {S : Nat → Bool} (hS : ∀ d, S d = true → d < a.n) {x : Int64} (hx : zb x = S) : ∀ (j k : Nat) (m : zM), k ≤ a.n → a.n - k < j → zGR m 0 (a.ups (z_bel S k) a.lv) → (∀ d, d < a.n → m.1 20 33 d = Int32.ofNat (a.lv d)) → (∀ d, d < a.n → m.1 20 34 d = Int32.ofNat (a.lv d - a.ht d)) → ∃ m', f_X11_fillLake_40 j x (Int32.ofNat a.n) (Int32.ofNat k) m = some (.inl (Int32.ofNat (z_tot (fun d => if S d = true then a.lv d - a.ht d else 0) a.n)), m') ∧ zFr (zGp 0) m m' ∧ zGR m' 0 (a.ups (z_bel S a.n) a.lv)
  | 0, _, _, _, h, _, _, _ => absurd h (Nat.not_lt_zero _)
  | j + 1, k, m, hk, hj, r, h33, h34 => by
    have n64 := v.n64
    unfold f_X11_fillLake_40
    by_cases he : k = a.n
    · subst he
      rw [if_pos (by rw [zi_le (by omega) (by omega)]; omega), s_sumn v 34 (S := S) (fun d _ => by rw [hx]; exact z_and_n hS d) (f := fun d => a.lv d - a.ht d) (fun d hd _ => h34 d hd), Option.bind_some]
      exact ⟨m, rfl, zFr.refl m, r⟩
    · rw [if_neg (by rw [zi_le (by omega) (by omega)]; omega), s_has _ (show k < 64 by omega), Option.bind_some, hx, zi_s]
      cases hs : S k with
      | false =>
        rw [if_pos (by decide)]
        exact s_fl_40 v hS hx j (k + 1) m (by omega) (by omega) (by rw [zG.ups_b.2 hs]; exact r) h33 h34
      | true =>
        rw [if_neg (by decide), s_at' 20 33 (show k < 64 by omega), Option.bind_some, h33 k (by omega), s_put 20 0 (show k < 64 by omega), Option.bind_some]
        have fr : zFr (zGp 0) m (z_sI m 20 0 k (Int32.ofNat (a.lv k))) := zFr.sI (zFr.refl m) _ (by unfold zGp; omega)
        obtain ⟨m', p1, p2, p3⟩ := s_fl_40 v hS hx j (k + 1) (z_sI m 20 0 k (Int32.ofNat (a.lv k))) (by omega) (by omega) (by rw [zG.ups_b.1 hs]; exact r.sH _) (fun d hd => by rw [zm_ot _ _ _ _ (by omega)]; exact h33 d hd) fun d hd => by rw [zm_ot _ _ _ _ (by omega)]; exact h34 d hd
        exact ⟨m', p1, fr.trans p2, p3⟩
theorem s_fl_31 (v : zGV a) {q : Nat} (hq : q ≤ 64) (x : Int32) : ∀ (j k : Nat) (m : zM), k ≤ a.n → a.n - k < j → zMR (m.1 23 0) (a.ups (z_bel (a.lks q) k) a.lv) → (∀ d, d < a.n → m.1 20 59 d = Int32.ofNat (a.lv d)) → zMk a a.n m → ∃ m', f_X12_fillLake_31 j (Int32.ofNat q) x (Int32.ofNat k) m = some (x, m') ∧ zFr (fun k i _ => k = 23 ∧ i = 0) m m' ∧ zMR (m'.1 23 0) (a.ups (z_bel (a.lks q) a.n) a.lv)
  | 0, _, _, _, h, _, _, _ => absurd h (Nat.not_lt_zero _)
  | j + 1, k, m, hk, hj, r, h59, hM => by
    have n64 := v.n64
    unfold f_X12_fillLake_31
    rw [show f_X12_cells m = some (Int32.ofNat a.n) from s_mcells (a := a.ups (z_bel (a.lks q) k) a.lv) r, Option.bind_some]
    by_cases he : k = a.n
    · subst he
      rw [if_pos (by rw [zi_le (by omega) (by omega)]; omega)]
      exact ⟨m, rfl, zFr.refl m, r⟩
    · have hkn : k < a.n := by omega
      rw [if_neg (by rw [zi_le (by omega) (by omega)]; omega), z_gdt (z_in64 (by omega)), zi_nat (by omega), zi_s]
      cases hs : a.lks q k with
      | false =>
        rw [if_neg (fun y => by have := (zMk.eq v hM (by omega) hkn).mp y; rw [hs] at this; cases this)]
        exact s_fl_31 v hq x j (k + 1) m (by omega) (by omega) (by rw [zG.ups_b.2 hs]; exact r) h59 hM
      | true =>
        rw [if_pos ((zMk.eq v hM (by omega) hkn).mpr hs), z_gdt (z_in64 (by omega)), show (3 : Int32) = Int32.ofNat 3 from rfl, zi_add, z_gdt (z_in23 (by omega)), zi_nat (by omega), h59 k hkn]
        have fr : zFr (fun k i _ => k = 23 ∧ i = 0) m (z_sI m 23 0 (3 + k) (Int32.ofNat (a.lv k))) := zFr.sI (zFr.refl m) _ ⟨rfl, rfl⟩
        obtain ⟨m', p1, p2, p3⟩ := s_fl_31 v hq x j (k + 1) (z_sI m 23 0 (3 + k) (Int32.ofNat (a.lv k))) (by omega) (by omega) (by rw [zG.ups_b.1 hs]; exact r.sH (by omega) _) (fun d hd => by rw [zm_ot _ _ _ _ (by omega)]; exact h59 d hd) ⟨by rw [zm_ot _ _ _ _ (by omega)]; exact hM.1, fun d hd => by rw [zm_ot _ _ _ _ (by omega)]; exact hM.2 d hd⟩
        exact ⟨m', p1, fr.trans p2, p3⟩
theorem t_fillLake (I : zInv m) (x : Int32) : zAg Int32.toInt64 (f_L_fillLake x m) (f_X12_fillLake x) := by
  obtain ⟨a, b, n, p, s, l, c, e, I'⟩ := I
  have v := I'.1
  have n64 := v.n64
  have nn := zG.num_le (a := a) a.n
  obtain ⟨C, J⟩ := I'.split
  obtain ⟨m1, h1, h2, h2', h3, r1, h4, h5⟩ := s_reqLake v I'.2.1
  unfold f_L_fillLake
  rcases z_idx x (k := a.num a.n) (by omega) with ⟨q, hq, rfl, hin⟩ | ⟨hx, hin⟩
  · obtain ⟨o, ho, hm, rfl⟩ := zG.num_at hq
    have hA := zFil.lake v h3 ho hm
    have lS : ∀ d, a.lks (a.num o) d = true → d < a.n := fun _ => zG.lks_n
    have gv : zGV (a.ups (z_bel (a.lks (a.num o)) a.n) a.lv) := zG.ups_v v fun d hd => by
      unfold z_bel at hd
      rw [Bool.and_eq_true] at hd
      exact zG.lv99 v (lS d hd.1)
    have e0 : a.ups (z_bel (a.lks (a.num o)) 0) a.lv = a := zG.ups_0 fun d => by unfold z_bel; simp
    refine zAg.mut Int32.toInt64 J (v := Int32.ofNat (a.vol (a.num o) a.n)) (a' := a.ups (z_bel (a.lks (a.num o)) a.n) a.lv) (b' := zpsh b n a) (n' := min (n + 1) 8) (p' := (p + 1) % 8) (s' := s) (l' := l) (c' := c) (e' := e) ?_ fun m3 J1 => ?_
    · obtain ⟨m2, p1, p2, p3⟩ := s_rem (C.scr h2)
      obtain ⟨m3, q1, q2, q3⟩ := s_fl_40 v lS hA zF 0 m2 (Nat.zero_le _) (zF_lt (by omega)) (by rw [e0]; exact p3.2.1) (fun d hd => by rw [(p2 20 33 d (by unfold zPrm; omega)).1]; exact h3.lv d hd) fun d hd => by rw [(p2 20 34 d (by unfold zPrm; omega)).1]; exact h3.2 d hd
      unfold f_X11_fillLake
      rw [h4 _ hq, zbx_l, p1, Option.bind_some, s_al 30 0 (by rw [zl_30]; omega), Option.bind_some, show m2.2.1 30 0 (a.num o) = m1.2.1 30 0 (a.num o) from (p2 30 0 _ (by unfold zPrm; omega)).2.1, s_size v p3.2.1, Option.bind_some]
      exact ⟨m3, q1, ((h2.mono fun k i j => zSc_nm).trans (p2.mono fun k i j => zPrm_n)).trans (q2.mono fun k i j => zGp0_n), p3.grid q2 gv q3⟩
    · obtain ⟨m4, q1, q2, q3, q4, q5⟩ := s_isLake v (J1.1.th 0) _ hin
      obtain ⟨m5, u1, u2, u3⟩ := s_chg C.2.2.1.1 ((J1.sm (z_th m3 0)).sm (q2.mono fun k i j => zPlk_m))
      have h59 : ∀ d, d < a.n → m5.1 20 59 d = Int32.ofNat (a.lv d) := fun d hd => by rw [(u2 20 59 d (by unfold zPch; omega)).1]; exact q4.1.1 d hd
      have hM : zMk a a.n m5 := ⟨by rw [(u2 13 0 18 (by unfold zPch; omega)).1]; exact q5.1, fun d hd => by rw [(u2 20 65 d (by unfold zPch; omega)).1]; exact q5.2 d hd⟩
      obtain ⟨m6, w1, w2, w3⟩ := s_fl_31 v (q := a.num o) (by omega) (Int32.ofNat (a.vol (a.num o) a.n)) zF 0 m5 (Nat.zero_le _) (zF_lt (by omega)) (by rw [e0]; exact u3.1) h59 hM
      unfold f_X12_fillLake
      rw [q1, Option.bind_some, if_neg (show ¬ z_bi true = 0 by decide), u1, Option.bind_some, s_vol v u3.1 hM h59 (by omega), Option.bind_some]
      refine ⟨m6, w1, ((((z_th m3 0).trans (q2.mono fun k i j => zPlk_m)).mono fun k i j => zSm_nc).trans (u2.mono fun k i j => zPch_n)).trans (w2.mono fun k i j => z230_n), ?_, u3.grid w2 w3⟩
      rw [(w2 13 0 0 (by omega)).1, (u2 13 0 0 (by unfold zPch; omega)).1]
      exact q2.t0 (by unfold zPlk; omega) (z_th0 _ _)
  · refine zAg.ex Int32.toInt64 I'.of (x := 1) (k := 1) ?_ rfl fun m' f => ?_
    · unfold f_X11_fillLake zCl
      rw [h5 x hx, zbx_r]
      exact ⟨m1, rfl, h2⟩
    · have r2 := (I'.keep f).2.2.1.th 0
      obtain ⟨m2, q1, q2, q3, q4, q5⟩ := s_isLake v r2 _ hin
      unfold zAn f_X12_fillLake
      rw [q1, Option.bind_some, if_pos (show z_bi false = 0 from rfl)]
      exact ⟨0, _, rfl, ((q2.mono fun k i j => zPlk_m).x13).trans (z_th _ 1), by decide, z_th0 _ _⟩
end
