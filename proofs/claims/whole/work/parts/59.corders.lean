/-! The class's streams. -/
noncomputable def zG.nx (a : zG) (c : Nat) : Option Nat := match a.to c with
  | none => none
  | some y => if a.str y = true ∧ a.fn y = 1 then some y else none
noncomputable def zG.tlf (a : zG) : Nat → Nat → Nat
  | 0, c => c
  | j + 1, c => match a.nx c with
    | none => c
    | some y => a.tlf j y
noncomputable def zG.tl (a : zG) (c : Nat) : Nat := a.tlf (a.mu c + 1) c
section
variable {a : zG}
theorem zG.nx_to {c y : Nat} (h : a.nx c = some y) : a.to c = some y ∧ a.str y = true ∧ a.fn y = 1 := by
  unfold zG.nx at h
  cases ht : a.to c with
  | none => rw [ht] at h; cases h
  | some z =>
    rw [ht] at h
    have h' : (if a.str z = true ∧ a.fn z = 1 then some z else none) = some y := h
    by_cases w : a.str z = true ∧ a.fn z = 1
    · rw [if_pos w] at h'
      cases h'
      exact ⟨rfl, w⟩
    · rw [if_neg w] at h'
      cases h'
theorem zG.nx_none {c y : Nat} (h : a.nx c = none) (ht : a.to c = some y) (hs : a.str y = true) : a.fn y ≠ 1 := fun w => by
  unfold zG.nx at h
  rw [ht] at h
  have h' : (if a.str y = true ∧ a.fn y = 1 then some y else none) = none := h
  rw [if_pos ⟨hs, w⟩] at h'
  cases h'
theorem zG.tlf_eq (v : zGV a) : ∀ (j k c : Nat), c < a.n → a.mu c < j → a.mu c < k → a.tlf j c = a.tlf k c := by
  intro j
  induction j with
  | zero => intro k c _ h; exact absurd h (Nat.not_lt_zero _)
  | succ j ih =>
    intro k c hc h1 h2
    obtain ⟨k, rfl⟩ : ∃ k', k = k' + 1 := ⟨k - 1, by omega⟩
    unfold zG.tlf
    cases hn : a.nx c with
    | none => rfl
    | some y =>
      have ht := (zG.nx_to hn).1
      have := zG.to_mu v hc ht
      exact ih k y (zG.to_n v hc ht) (by omega) (by omega)
theorem zG.tl0 {c : Nat} (h : a.nx c = none) : a.tl c = c := by
  show (match a.nx c with | none => c | some y => a.tlf (a.mu c) y) = c
  rw [h]
theorem zG.tl1 (v : zGV a) {c y : Nat} (hc : c < a.n) (h : a.nx c = some y) : a.tl c = a.tl y := by
  have ht := (zG.nx_to h).1
  have h1 := zG.to_mu v hc ht
  show (match a.nx c with | none => c | some y => a.tlf (a.mu c) y) = _
  rw [h]
  exact zG.tlf_eq v _ _ y (zG.to_n v hc ht) (by omega) (by omega)
theorem zG.tl_of (v : zGV a) : ∀ c, c < a.n → a.str c = true → a.str (a.tl c) = true ∧ a.hd (a.tl c) = a.hd c ∧ a.nx (a.tl c) = none :=
  zG.down v fun c hc ih hs => by
    cases hn : a.nx c with
    | none => rw [zG.tl0 hn]; exact ⟨hs, rfl, hn⟩
    | some y =>
      obtain ⟨h1, h2, h3⟩ := zG.nx_to hn
      rw [zG.tl1 v hc hn, ← zG.next_hd v hs h1 h3]
      exact ih y h1 h2
theorem zG.tl_hd (v : zGV a) : ∀ c, c < a.n → a.str c = true → a.tl (a.hd c) = a.tl c :=
  zG.up v fun c hc ih hs => by
    by_cases w : a.fn c = 1
    · obtain ⟨e, he⟩ := zG.one_fe w
      obtain ⟨q1, q2⟩ := zG.fe_iff.mp he
      have hn := zG.fe_n he
      have hx : a.nx e = some c := by
        unfold zG.nx
        rw [q1]
        show (if a.str c = true ∧ a.fn c = 1 then some c else none) = some c
        rw [if_pos ⟨hs, w⟩]
      rw [zG.hd1 v w he, ih e hn q1 q2, zG.tl1 v hn hx]
    · rw [zG.hd0 w]
theorem zG.rl_hd (v : zGV a) {c d : Nat} (hc : a.str c = true) (hd : a.str d = true) (h : a.rl c = a.rl d) : a.hd c = a.hd d :=
  zG.rno_inj (zG.hd_beg v c (zG.str_iff.mp hc).1 hc) (zG.hd_beg v d (zG.str_iff.mp hd).1 hd) h
theorem zG.hd_mu (v : zGV a) : ∀ c, c < a.n → a.mu c ≤ a.mu (a.hd c) :=
  zG.up v fun c hc ih => by
    by_cases w : a.fn c = 1
    · obtain ⟨e, he⟩ := zG.one_fe w
      have hn := zG.fe_n he
      have q := (zG.fe_iff.mp he).1
      have h1 := zG.to_mu v hn q
      have h2 := ih e hn q
      rw [zG.hd1 v w he]
      omega
    · rw [zG.hd0 w]
      exact Nat.le_refl _
theorem zG.next_rl (v : zGV a) {c y : Nat} (hc : a.str c = true) (ht : a.to c = some y) (hy : a.str y = true) : a.rl y = a.rl c ↔ a.fn y = 1 := by
  have hcn := (zG.str_iff.mp hc).1
  constructor
  · intro h
    refine Classical.byContradiction fun w => ?_
    have h1 := zG.rl_hd v hy hc h
    rw [zG.hd0 w] at h1
    have h2 := zG.hd_mu v c hcn
    have h3 := zG.to_mu v hcn ht
    rw [← h1] at h2
    omega
  · intro w
    unfold zG.rl
    rw [zG.next_hd v hc ht w]
theorem zG.nx_iff (v : zGV a) {c : Nat} (hc : a.str c = true) : a.nx c = none ↔ ∀ y, a.to c = some y → a.str y = true → a.rl y ≠ a.rl c := by
  constructor
  · intro h y h1 h2
    rw [Ne, zG.next_rl v hc h1 h2]
    exact zG.nx_none h h1 h2
  · intro h
    cases hn : a.nx c with
    | none => rfl
    | some y =>
      obtain ⟨h1, h2, h3⟩ := zG.nx_to hn
      exact absurd ((zG.next_rl v hc h1 h2).mpr h3) (h y h1 h2)
variable {m : zM} {g : Nat} {s : Nat → Nat}
abbrev zPsc (k i j : Nat) : Prop := (k = 20 ∧ 48 ≤ i ∧ i ≤ 55) ∨ (k = 9 ∧ i = 0 ∧ (j = 0 ∨ j = 6))
theorem zGp_sc (hg : g < 11) {k i j : Nat} (h : zGp g k i j) : ¬ zPsc k i j := by
  unfold zGp at h
  unfold zPsc
  omega
theorem zTr_sc {k i j : Nat} (h : zPtr k i j) : ¬ zPsc k i j := by
  unfold zPtr at h
  unfold zPsc
  omega
theorem s_cells_13 (v : zGV a) (hg : g < 11) : ∀ (j c : Nat) (m : zM), c ≤ a.n → a.n - c < j → zGR m g a → (∀ d, d < a.n → m.1 20 45 d = Int32.ofNat (a.wa d)) → (∀ d, d < 64 → zb (m.2.1 9 0 0) d = (decide (d < c) && a.str d)) →
    ∃ m', f_X8_findCells_13 g j (Int32.ofNat a.n) (Int32.ofNat c) m = some m' ∧ zFr (fun k i j => k = 9 ∧ i = 0 ∧ j = 0) m m' ∧ ∀ d, d < 64 → zb (m'.2.1 9 0 0) d = a.str d
  | 0, _, _, _, h, _, _, _ => absurd h (Nat.not_lt_zero _)
  | j + 1, c, m, hc, hj, r, hw, hb => by
    have n64 := v.n64
    unfold f_X8_findCells_13
    by_cases he : c = a.n
    · subst he
      rw [if_pos (by rw [zi_le (by omega) (by omega)]; omega)]
      refine ⟨m, rfl, zFr.refl m, fun d hd => ?_⟩
      rw [hb d hd]
      cases q : a.str d with
      | false => simp
      | true => simp [(zG.str_iff.mp q).1]
    · have hcn : c < a.n := by omega
      have hc' : c < 64 := by omega
      have hj2 : a.n - (c + 1) < j := by omega
      have wb := zG.wa_b v hcn
      have t9 := v.t99
      rw [if_neg (by rw [zi_le (by omega) (by omega)]; omega), s_at' 20 45 hc', Option.bind_some, hw c hcn, r.thr, zi_s]
      by_cases w : a.wa c < a.thr
      · rw [if_pos (by rw [zi_lt (by omega) (by omega)]; exact w)]
        refine s_cells_13 v hg j (c + 1) m hcn hj2 r hw fun d hd => ?_
        rw [hb d hd]
        by_cases z : d = c
        · have : a.str d = false := by
            cases q : a.str d with
            | false => rfl
            | true => have := (zG.str_iff.mp q).2; rw [z] at this; omega
          rw [this]; simp
        · have : d < c ↔ d < c + 1 := by omega
          simp only [this]
      · rw [if_neg (by rw [zi_lt (by omega) (by omega)]; exact w)]
        have f1 : zFr (fun k i j => k = 9 ∧ i = 0 ∧ j = 0) m (z_sL m 9 0 0 (m.2.1 9 0 0 ||| z_shl 1 (Int32.ofNat c))) := zFr.sL (zFr.refl m) _ ⟨rfl, rfl, rfl⟩
        obtain ⟨m', p1, p2, p3⟩ := s_cells_13 v hg j (c + 1) _ hcn hj2 (r.keep f1 fun k i j w => by unfold zGp at w; omega) (fun d hd => by rw [zm_LI]; exact hw d hd) fun d hd => by
          rw [zm_L, if_pos ⟨rfl, rfl, rfl⟩, zb_or, hb d hd, zb_one hc' hd]
          by_cases z : d = c
          · rw [z, zG.str_iff.mpr ⟨hcn, by omega⟩]; simp
          · have : d < c ↔ d < c + 1 := by omega
            simp [z, this]
        exact ⟨m', p1, f1.trans p2, p3⟩
theorem s_cells (v : zGV a) (hg : g < 11) (r : zGR m g a) (hw : ∀ d, d < a.n → m.1 20 45 d = Int32.ofNat (a.wa d)) : ∃ m', f_X8_findCells g m = some m' ∧ zFr (fun k i j => k = 9 ∧ i = 0 ∧ j = 0) m m' ∧ ∀ d, d < 64 → zb (m'.2.1 9 0 0) d = a.str d := by
  have n64 := v.n64
  unfold f_X8_findCells
  have f1 : zFr (fun k i j => k = 9 ∧ i = 0 ∧ j = 0) m (z_sL m 9 0 0 0) := zFr.sL (zFr.refl m) _ ⟨rfl, rfl, rfl⟩
  have r1 := r.keep f1 fun k i j w => by unfold zGp at w; omega
  rw [s_size v r1, Option.bind_some]
  obtain ⟨m', p1, p2, p3⟩ := s_cells_13 v hg zF 0 _ (Nat.zero_le _) (zF_lt (by omega)) r1 (fun d hd => by rw [zm_LI]; exact hw d hd) fun d hd => by
    rw [zm_L, if_pos ⟨rfl, rfl, rfl⟩, zb_0]; simp
  exact ⟨m', p1, f1.trans p2, p3⟩
/-- orders as far as k cells of the sequence were looked at -/
def zOk (a : zG) (s : Nat → Nat) (k : Nat) (m : zM) : Prop := ∀ x, x < a.n → m.1 20 48 x = (if a.str x = true ∧ zin s k x = true then Int32.ofNat (a.or x) else 0) ∧ (a.str x = true → m.1 20 49 x = Int32.ofNat (z_cnt (fun e => a.fe x e && zin s k e) a.n)) ∧ (a.str x = true → ∃ g q, m.1 20 50 x = Int32.ofNat g ∧ m.1 20 51 x = Int32.ofNat q ∧ g ≤ 64 ∧ q ≤ 64 ∧ zMx a.or (fun e => a.fe x e && zin s k e) a.n g q)
abbrev zPor (k i _j : Nat) : Prop := k = 20 ∧ 48 ≤ i ∧ i ≤ 51
def zSb (a : zG) (m : zM) : Prop := ∀ d, d < 64 → zb (m.2.1 9 0 0) d = a.str d
theorem zSb.keep {m' : zM} {P : Nat → Nat → Nat → Prop} (h : zSb a m) (f : zFr P m m') (hp : ¬ P 9 0 0) : zSb a m' := fun d hd => by
  rw [(f 9 0 0 hp).2.1]
  exact h d hd
theorem s_ord_34 (v : zGV a) : ∀ (j k : Nat) (m : zM), k ≤ a.n → a.n - k < j → zTr a m s → zSb a m → zOk a s k m → ∃ m', f_X8_findOrders_34 j (Int32.ofNat k) m = some m' ∧ zFr zPor m m' ∧ zOk a s a.n m'
  | 0, _, _, _, h, _, _, _ => absurd h (Nat.not_lt_zero _)
  | j + 1, k, m, hk, hj, ht, hb, ho => by
    have n64 := v.n64
    have hs := ht.2.2.2.2.1
    unfold f_X8_findOrders_34
    rw [ht.1]
    by_cases he : k = a.n
    · subst he
      rw [if_pos (by rw [zi_le (by omega) (by omega)]; omega)]
      exact ⟨m, rfl, zFr.refl m, ho⟩
    · have hkn : k < a.n := by omega
      have hj2 : a.n - (k + 1) < j := by omega
      obtain ⟨b1, b2⟩ := hs.1 k hkn
      have b3 : s k < 64 := by omega
      have zk : ∀ y, zin s (k + 1) y = (zin s k y || decide (s k = y)) := fun y => rfl
      have znew := hs.new hkn
      rw [if_neg (by rw [zi_le (by omega) (by omega)]; omega), s_at' 20 40 (show k < 64 by omega), Option.bind_some, b1, s_has _ b3, Option.bind_some, hb _ b3, zi_s]
      cases hst : a.str (s k) with
      | false =>
        rw [if_pos (by decide)]
        have same : ∀ x, (fun e => a.fe x e && zin s k e) = fun e => a.fe x e && zin s (k + 1) e := fun x => funext fun e => by
          rw [zk]
          by_cases z : s k = e
          · have : a.fe x e = false := by unfold zG.fe; rw [← z, hst]; simp
            rw [this]; simp
          · simp [z]
        refine s_ord_34 v j (k + 1) m hkn hj2 ht hb fun x hx => ?_
        obtain ⟨q1, q2, q3⟩ := ho x hx
        rw [← same x]
        refine ⟨?_, q2, q3⟩
        rw [q1, zk]
        by_cases z : s k = x
        · rw [← z, hst]; simp
        · simp [z]
      | true =>
        rw [if_neg (by decide)]
        obtain ⟨_, _, g, q, q1, q2, q3, q4, q5⟩ := ho (s k) b2 |>.imp id (·.imp id (· hst))
        obtain ⟨e1, e2⟩ := (q5.ext (T := a.fe (s k)) fun e he => by
          by_cases w : a.fe (s k) e = true
          · rw [w, hs.all hkn he (zG.fe_iff.mp w).1]; rfl
          · have : a.fe (s k) e = false := by cases y : a.fe (s k) e <;> simp_all
            rw [this]; rfl).uniq (zG.mx (s k))
        have oe := zG.or_eq v b2
        have ob := zG.or_b v b2
        rw [← e1, ← e2] at oe
        rw [s_at' 20 50 b3, Option.bind_some, q1, s_at' 20 51 b3, Option.bind_some, q2]
        have fin : ∃ m', f_X8_findOrders_93 (f_X8_findOrders_34 j) (Int32.ofNat k) (Int32.ofNat (s k)) (Int32.ofNat (a.or (s k))) m = some m' ∧ zFr zPor m m' ∧ zOk a s a.n m' := by
          unfold f_X8_findOrders_93
          rw [s_put 20 48 b3, Option.bind_some, s_at' 20 39 b3, Option.bind_some, zi_s]
          have f1 : zFr zPor m (z_sI m 20 48 (s k) (Int32.ofNat (a.or (s k)))) := zFr.sI (zFr.refl m) _ ⟨rfl, by omega, by omega⟩
          have t1 : zTr a (z_sI m 20 48 (s k) (Int32.ofNat (a.or (s k)))) s := ht.keep f1 fun k i j w => by unfold zPtr at w; unfold zPor; omega
          have sb1 := hb.keep f1 (by unfold zPor; omega)
          have row48 : ∀ x, x < a.n → (z_sI m 20 48 (s k) (Int32.ofNat (a.or (s k)))).1 20 48 x = if a.str x = true ∧ zin s (k + 1) x = true then Int32.ofNat (a.or x) else 0 := fun x hx => by
            rw [zm_row, zk]
            by_cases z : x = s k
            · rw [if_pos z, z, if_pos ⟨hst, by simp⟩]
            · rw [if_neg z, (ho x hx).1]
              simp [Ne.symm z]
          have rest : ∀ x, x < a.n → (a.str x = true → (z_sI m 20 48 (s k) (Int32.ofNat (a.or (s k)))).1 20 49 x = Int32.ofNat (z_cnt (fun e => a.fe x e && zin s k e) a.n)) ∧ (a.str x = true → ∃ g q, (z_sI m 20 48 (s k) (Int32.ofNat (a.or (s k)))).1 20 50 x = Int32.ofNat g ∧ (z_sI m 20 48 (s k) (Int32.ofNat (a.or (s k)))).1 20 51 x = Int32.ofNat q ∧ g ≤ 64 ∧ q ≤ 64 ∧ zMx a.or (fun e => a.fe x e && zin s k e) a.n g q) := fun x hx => by
            rw [zm_ot _ _ _ _ (by omega), zm_ot _ _ _ _ (by omega), zm_ot _ _ _ _ (by omega)]
            exact (ho x hx).2
          generalize z_sI m 20 48 (s k) (Int32.ofNat (a.or (s k))) = m1 at f1 t1 sb1 row48 rest
          rw [(t1.2.2.2.1 _ b2).2.2]
          have go : ∀ m2 : zM, zFr zPor m1 m2 → zOk a s (k + 1) m2 → ∃ m', f_X8_findOrders_34 j (Int32.ofNat (k + 1)) m2 = some m' ∧ zFr zPor m m' ∧ zOk a s a.n m' := fun m2 g1 g2 => by
            obtain ⟨m', p1, p2, p3⟩ := s_ord_34 v j (k + 1) m2 hkn hj2 (t1.keep g1 fun k i j w => by unfold zPtr at w; unfold zPor; omega) (sb1.keep g1 (by unfold zPor; omega)) g2
            exact ⟨m', p1, (f1.trans g1).trans p2, p3⟩
          have other : ∀ x, a.to (s k) ≠ some x → (fun e => a.fe x e && zin s k e) = fun e => a.fe x e && zin s (k + 1) e := fun x hx => funext fun e => by
            rw [zk]
            by_cases z : s k = e
            · have : a.fe x e = false := by
                cases w : a.fe x e with
                | false => rfl
                | true => exact absurd (z ▸ (zG.fe_iff.mp w).1) hx
              rw [this]; simp
            · simp [z]
          cases hto : a.to (s k) with
          | none =>
            unfold f_X8_feed
            rw [zo_none, s_hasn _ (by decide), Option.bind_some, if_pos (by decide), Option.bind_some]
            refine go m1 (zFr.refl m1) fun x hx => ⟨row48 x hx, ?_⟩
            rw [← other x (by rw [hto]; simp)]
            exact rest x hx
          | some y =>
            have hy := zG.to_n v b2 hto
            have y64 : y < 64 := by omega
            unfold f_X8_feed
            rw [zo_some, s_has _ y64, Option.bind_some, sb1 y y64]
            cases hsy : a.str y with
            | false =>
              rw [if_pos (by decide), Option.bind_some]
              refine go m1 (zFr.refl m1) fun x hx => ⟨row48 x hx, ?_⟩
              by_cases z : x = y
              · rw [z, hsy]
                exact ⟨fun w => (by cases w), fun w => by cases w⟩
              · rw [← other x (by rw [hto]; simp [Ne.symm z])]
                exact rest x hx
            | true =>
              obtain ⟨r1, r2⟩ := rest y hy
              obtain ⟨g', q', u1, u2, u3, u4, u5⟩ := r2 hsy
              have r1 := r1 hsy
              have fey : a.fe y (s k) = true := zG.fe_iff.mpr ⟨hto, hst⟩
              have c1 : z_cnt (fun e => a.fe y e && zin s (k + 1) e) a.n = z_cnt (fun e => a.fe y e && zin s k e) a.n + 1 := z_cnt_one b2 (fun e _ z => by rw [zk]; simp [Ne.symm z]) (by rw [znew]; simp) (by rw [zk, fey]; simp)
              have mx := u5.ins (T := fun e => a.fe y e && zin s (k + 1) e) b2 (by rw [znew]; simp) (by rw [zk, fey]; simp) fun e _ z => by rw [zk]; simp [Ne.symm z]
              have mq : (if g' < a.or (s k) then 1 else if a.or (s k) = g' then q' + 1 else q') ≤ 64 := by
                rw [mx.2.1]
                exact Nat.le_trans (z_cnt_le _ _) n64
              rw [if_neg (by decide), s_add 20 49 y64, Option.bind_some, r1, zi_s, ← c1]
              have f2 : zFr zPor m1 (z_sI m1 20 49 y (Int32.ofNat (z_cnt (fun e => a.fe y e && zin s (k + 1) e) a.n))) := zFr.sI (zFr.refl m1) _ ⟨rfl, by omega, by omega⟩
              have g50 : ∀ x, (z_sI m1 20 49 y (Int32.ofNat (z_cnt (fun e => a.fe y e && zin s (k + 1) e) a.n))).1 20 50 x = m1.1 20 50 x := fun x => zm_ot _ _ _ _ (by omega)
              have g51 : ∀ x, (z_sI m1 20 49 y (Int32.ofNat (z_cnt (fun e => a.fe y e && zin s (k + 1) e) a.n))).1 20 51 x = m1.1 20 51 x := fun x => zm_ot _ _ _ _ (by omega)
              have g48 : ∀ x, (z_sI m1 20 49 y (Int32.ofNat (z_cnt (fun e => a.fe y e && zin s (k + 1) e) a.n))).1 20 48 x = m1.1 20 48 x := fun x => zm_ot _ _ _ _ (by omega)
              have g49 : ∀ x, x < a.n → a.str x = true → (z_sI m1 20 49 y (Int32.ofNat (z_cnt (fun e => a.fe y e && zin s (k + 1) e) a.n))).1 20 49 x = Int32.ofNat (z_cnt (fun e => a.fe x e && zin s (k + 1) e) a.n) := fun x hx hsx => by
                rw [zm_row]
                by_cases z : x = y
                · rw [if_pos z, z]
                · rw [if_neg z, ← other x (by rw [hto]; simp [Ne.symm z])]
                  exact (rest x hx).1 hsx
              generalize z_sI m1 20 49 y (Int32.ofNat (z_cnt (fun e => a.fe y e && zin s (k + 1) e) a.n)) = m2 at f2 g50 g51 g48 g49
              have done : ∀ m3 : zM, zFr (fun k i j => k = 20 ∧ (i = 50 ∨ i = 51) ∧ j = y) m2 m3 → m3.1 20 50 y = Int32.ofNat (max g' (a.or (s k))) → m3.1 20 51 y = Int32.ofNat (if g' < a.or (s k) then 1 else if a.or (s k) = g' then q' + 1 else q') → zOk a s (k + 1) m3 := fun m3 fr h50 h51 x hx => by
                refine ⟨?_, fun hsx => ?_, fun hsx => ?_⟩
                · rw [(fr 20 48 x (by omega)).1, g48]
                  exact row48 x hx
                · rw [(fr 20 49 x (by omega)).1]
                  exact g49 x hx hsx
                · by_cases z : x = y
                  · rw [z]
                    exact ⟨_, _, h50, h51, by omega, mq, mx⟩
                  · rw [(fr 20 50 x (fun w => z w.2.2)).1, (fr 20 51 x (fun w => z w.2.2)).1, g50, g51, ← other x (by rw [hto]; simp [Ne.symm z])]
                    exact (rest x hx).2 hsx
              rw [s_at' 20 50 y64, Option.bind_some, g50, u1]
              by_cases w1 : g' < a.or (s k)
              · rw [if_neg (by rw [zi_le (by omega) (by omega)]; omega), s_put 20 50 y64, Option.bind_some, s_put 20 51 y64, Option.bind_some, Option.bind_some]
                have f3 : zFr (fun k i j => k = 20 ∧ (i = 50 ∨ i = 51) ∧ j = y) m2 (z_sI (z_sI m2 20 50 y (Int32.ofNat (a.or (s k)))) 20 51 y 1) := zFr.sI (zFr.sI (zFr.refl m2) _ ⟨rfl, .inl rfl, rfl⟩) _ ⟨rfl, .inr rfl, rfl⟩
                exact go _ (f2.trans (f3.mono fun k i j w => by unfold zPor; omega)) (done _ f3 (by rw [zm_ot _ _ _ _ (by omega), zm_row, if_pos rfl, Nat.max_eq_right (by omega)]) (by rw [zm_row, if_pos rfl, if_pos w1]; rfl))
              · rw [if_pos (by rw [zi_le (by omega) (by omega)]; omega), Option.bind_some]
                by_cases w2 : a.or (s k) = g'
                · rw [if_pos (by rw [w2]), s_add 20 51 y64, Option.bind_some, Option.bind_some, g51, u2, zi_s]
                  have f3 : zFr (fun k i j => k = 20 ∧ (i = 50 ∨ i = 51) ∧ j = y) m2 (z_sI m2 20 51 y (Int32.ofNat (q' + 1))) := zFr.sI (zFr.refl m2) _ ⟨rfl, .inr rfl, rfl⟩
                  exact go _ (f2.trans (f3.mono fun k i j w => by unfold zPor; omega)) (done _ f3 (by rw [zm_ot _ _ _ _ (by omega), g50, u1, Nat.max_eq_left (by omega)]) (by rw [zm_row, if_pos rfl, if_neg w1, if_pos w2]))
                · rw [if_neg (by rw [zi_eq (by omega) (by omega)]; exact w2), Option.bind_some]
                  exact go _ f2 (done _ (zFr.refl m2) (by rw [g50, u1, Nat.max_eq_left (by omega)]) (by rw [g51, u2, if_neg w1, if_neg w2]))
        by_cases w : q = 1
        · rw [if_pos (by rw [w]; rfl)]
          rw [if_pos w] at oe
          rw [← oe]
          exact fin
        · rw [if_neg (by rw [show (1 : Int32) = Int32.ofNat 1 from rfl, zi_eq (by omega) (by omega)]; exact w), zi_s]
          rw [if_neg w] at oe
          rw [← oe]
          exact fin
end
