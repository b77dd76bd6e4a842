/-! The class's reaches. -/
theorem zf_fill {m : zM} {i : Nat} {u : Int32} {P : Nat → Nat → Nat → Prop} (h : ∀ j, P 20 i j) : zFr P m (zm_fill m 20 i (z_alen 20) u) := fun k i' j w => ⟨by
  show (if k = 20 ∧ i' = i ∧ j < z_alen 20 then u else m.1 k i' j) = _
  rw [if_neg fun y => w (by rw [y.1, y.2.1]; exact h j)], rfl, rfl⟩
theorem zm_fillr {m : zM} {i x : Nat} {u : Int32} (h : x < 64) : (zm_fill m 20 i (z_alen 20) u).1 20 i x = u := by
  show (if 20 = 20 ∧ i = i ∧ x < z_alen 20 then u else m.1 20 i x) = _
  rw [if_pos ⟨rfl, rfl, h⟩]
theorem zm_fillo {m : zM} {i i' x : Nat} {u : Int32} (h : i' ≠ i) : (zm_fill m 20 i (z_alen 20) u).1 20 i' x = m.1 20 i' x := by
  show (if 20 = 20 ∧ i' = i ∧ x < z_alen 20 then u else m.1 20 i' x) = _
  rw [if_neg fun y => h y.2.1]
section
variable {a : zG} {m : zM} {g : Nat} {s : Nat → Nat}
theorem s_orders (v : zGV a) (ht : zTr a m s) (hb : zSb a m) : ∃ m', f_X8_findOrders m = some m' ∧ zFr zPor m m' ∧ zOk a s a.n m' := by
  have n64 := v.n64
  unfold f_X8_findOrders
  rw [s_fill, Option.bind_some, s_fill, Option.bind_some, s_fill, Option.bind_some, s_fill, Option.bind_some]
  have f1 : zFr zPor m (zm_fill (zm_fill (zm_fill (zm_fill m 20 48 (z_alen 20) 0) 20 49 (z_alen 20) 0) 20 50 (z_alen 20) 0) 20 51 (z_alen 20) 0) :=
    (((zf_fill fun j => ⟨rfl, by omega, by omega⟩).trans (zf_fill fun j => ⟨rfl, by omega, by omega⟩)).trans (zf_fill fun j => ⟨rfl, by omega, by omega⟩)).trans (zf_fill fun j => ⟨rfl, by omega, by omega⟩)
  have vals : ∀ x, x < a.n → (zm_fill (zm_fill (zm_fill (zm_fill m 20 48 (z_alen 20) 0) 20 49 (z_alen 20) 0) 20 50 (z_alen 20) 0) 20 51 (z_alen 20) 0).1 20 48 x = 0 ∧ (zm_fill (zm_fill (zm_fill (zm_fill m 20 48 (z_alen 20) 0) 20 49 (z_alen 20) 0) 20 50 (z_alen 20) 0) 20 51 (z_alen 20) 0).1 20 49 x = 0 ∧ (zm_fill (zm_fill (zm_fill (zm_fill m 20 48 (z_alen 20) 0) 20 49 (z_alen 20) 0) 20 50 (z_alen 20) 0) 20 51 (z_alen 20) 0).1 20 50 x = 0 ∧ (zm_fill (zm_fill (zm_fill (zm_fill m 20 48 (z_alen 20) 0) 20 49 (z_alen 20) 0) 20 50 (z_alen 20) 0) 20 51 (z_alen 20) 0).1 20 51 x = 0 := fun x hx => by
    have x64 : x < 64 := by omega
    refine ⟨?_, ?_, ?_, ?_⟩
    · rw [zm_fillo (by omega), zm_fillo (by omega), zm_fillo (by omega), zm_fillr x64]
    · rw [zm_fillo (by omega), zm_fillo (by omega), zm_fillr x64]
    · rw [zm_fillo (by omega), zm_fillr x64]
    · rw [zm_fillr x64]
  generalize zm_fill (zm_fill (zm_fill (zm_fill m 20 48 (z_alen 20) 0) 20 49 (z_alen 20) 0) 20 50 (z_alen 20) 0) 20 51 (z_alen 20) 0 = m1 at f1 vals
  obtain ⟨m', p1, p2, p3⟩ := s_ord_34 v zF 0 m1 (Nat.zero_le _) (zF_lt (by omega)) (ht.keep f1 fun k i j w => by unfold zPtr at w; unfold zPor; omega) (hb.keep f1 (by unfold zPor; omega)) fun x hx => by
    obtain ⟨q1, q2, q3, q4⟩ := vals x hx
    refine ⟨by rw [q1]; simp [zin], fun _ => ?_, fun _ => ⟨0, 0, q3, q4, by omega, by omega, zMx.nil fun e _ => by simp [zin]⟩⟩
    rw [q2, z_cnt_0.mpr fun e _ => by simp [zin]]
    rfl
  exact ⟨m', p1, f1.trans p2, p3⟩
def zFd (a : zG) (m : zM) : Prop := ∀ x, x < a.n → a.str x = true → m.1 20 49 x = Int32.ofNat (a.fn x)
theorem zFd.keep {m' : zM} {P : Nat → Nat → Nat → Prop} (h : zFd a m) (f : zFr P m m') (hp : ∀ j, ¬ P 20 49 j) : zFd a m' := fun x hx hs => by
  rw [(f 20 49 x (hp x)).1]
  exact h x hx hs
theorem s_begin (v : zGV a) (hb : zSb a m) (hf : zFd a m) {c : Nat} (hc : c < a.n) : f_X8_isBeginning (Int32.ofNat c) m = some (a.beg c) := by
  have n64 := v.n64
  have fb := zG.fn_b v c
  unfold f_X8_isBeginning
  rw [s_has _ (show c < 64 by omega), Option.bind_some, hb c (by omega)]
  cases hs : a.str c with
  | false =>
    rw [if_pos (by decide)]
    unfold zG.beg
    rw [hs]
    rfl
  | true =>
    rw [if_neg (by decide), s_at' 20 49 (show c < 64 by omega), Option.bind_some, hf c hc hs]
    by_cases w : a.fn c = 1
    · rw [if_pos (by rw [w]; rfl)]
      unfold zG.beg
      rw [w]
      simp
    · rw [if_neg (by rw [show (1 : Int32) = Int32.ofNat 1 from rfl, zi_eq (by omega) (by omega)]; exact w), zG.beg_iff.mpr ⟨hs, w⟩]
theorem s_beginn (m : zM) : f_X8_isBeginning (zo none) m = some false := by
  unfold f_X8_isBeginning
  rw [zo_none, s_hasn _ (by decide), Option.bind_some, if_pos (by decide)]
abbrev zPbr (k i j : Nat) : Prop := (k = 20 ∧ 52 ≤ i ∧ i ≤ 55) ∨ (k = 9 ∧ i = 0 ∧ j = 6)
def zBr (a : zG) (c : Nat) (m : zM) : Prop := m.1 9 0 6 = Int32.ofNat (a.rno c) ∧ ∀ x, x < c → a.beg x = true → m.1 20 52 x = Int32.ofNat (a.rno x) ∧ m.1 20 53 (a.rno x) = Int32.ofNat x
theorem s_beg_20 (v : zGV a) : ∀ (j c : Nat) (m : zM), c ≤ a.n → a.n - c < j → zSb a m → zFd a m → zBr a c m → ∃ m', f_X8_beginReaches_20 g j (Int32.ofNat a.n) (Int32.ofNat c) m = some m' ∧ zFr (fun k i j => (k = 20 ∧ (i = 52 ∨ i = 53)) ∨ (k = 9 ∧ i = 0 ∧ j = 6)) m m' ∧ zBr a a.n m'
  | 0, _, _, _, h, _, _, _ => absurd h (Nat.not_lt_zero _)
  | j + 1, c, m, hc, hj, hb, hf, hr => by
    have n64 := v.n64
    unfold f_X8_beginReaches_20
    by_cases he : c = a.n
    · subst he
      rw [if_pos (by rw [zi_le (by omega) (by omega)]; omega)]
      exact ⟨m, rfl, zFr.refl m, hr⟩
    · have hcn : c < a.n := by omega
      have hc' : c < 64 := by omega
      have hj2 : a.n - (c + 1) < j := by omega
      have rl := zG.rno_le (a := a) c
      rw [if_neg (by rw [zi_le (by omega) (by omega)]; omega), s_begin v hb hf hcn, Option.bind_some, zi_s]
      cases hq : a.beg c with
      | false =>
        rw [if_pos (by decide)]
        refine s_beg_20 v j (c + 1) m hcn hj2 hb hf ⟨by rw [hr.1, zG.rno_s, hq]; rfl, fun x hx h => ?_⟩
        refine hr.2 x ?_ h
        by_cases z : x = c
        · rw [z, hq] at h; cases h
        · omega
      | true =>
        rw [if_neg (by decide), hr.1, s_put 20 52 hc', Option.bind_some]
        have e1 : (z_sI m 20 52 c (Int32.ofNat (a.rno c))).1 9 0 6 = Int32.ofNat (a.rno c) := by rw [zm_ot _ _ _ _ (by omega)]; exact hr.1
        rw [e1, s_put 20 53 (show a.rno c < 64 by omega), Option.bind_some]
        have e2 : (z_sI (z_sI m 20 52 c (Int32.ofNat (a.rno c))) 20 53 (a.rno c) (Int32.ofNat c)).1 9 0 6 = Int32.ofNat (a.rno c) := by rw [zm_ot _ _ _ _ (by omega)]; exact e1
        rw [e2, zi_s]
        have f1 : zFr (fun k i j => (k = 20 ∧ (i = 52 ∨ i = 53)) ∨ (k = 9 ∧ i = 0 ∧ j = 6)) m (z_sI (z_sI (z_sI m 20 52 c (Int32.ofNat (a.rno c))) 20 53 (a.rno c) (Int32.ofNat c)) 9 0 6 (Int32.ofNat (a.rno c + 1))) :=
          zFr.sI (zFr.sI (zFr.sI (zFr.refl m) _ (.inl ⟨rfl, .inl rfl⟩)) _ (.inl ⟨rfl, .inr rfl⟩)) _ (.inr ⟨rfl, rfl, rfl⟩)
        obtain ⟨m', p1, p2, p3⟩ := s_beg_20 v j (c + 1) _ hcn hj2 (hb.keep f1 (by omega)) (hf.keep f1 fun j => by omega) ⟨by rw [zm_row, if_pos rfl, zG.rno_s, hq]; rfl, fun x hx h => by
          rw [zm_ot _ _ _ _ (by omega), zm_ot _ _ _ _ (by omega), zm_row, zm_ot _ _ _ _ (by omega), zm_row, zm_ot _ _ _ _ (by omega)]
          by_cases z : x = c
          · rw [if_pos z, z, if_pos rfl]; exact ⟨rfl, rfl⟩
          · have : a.rno x ≠ a.rno c := fun y => z (zG.rno_inj h hq y)
            rw [if_neg z, if_neg this]
            exact hr.2 x (by omega) h⟩
        exact ⟨m', p1, f1.trans p2, p3⟩
theorem s_begins (v : zGV a) (hg : g < 11) (r : zGR m g a) (hb : zSb a m) (hf : zFd a m) : ∃ m', f_X8_beginReaches g m = some m' ∧ zFr zPbr m m' ∧ zBr a a.n m' ∧ ∀ x, x < 64 → m'.1 20 55 x = 0 := by
  have n64 := v.n64
  unfold f_X8_beginReaches
  rw [s_fill, Option.bind_some]
  have f1 : zFr zPbr m (z_sI (zm_fill m 20 55 (z_alen 20) 0) 9 0 6 0) := zFr.sI (zf_fill fun j => .inl ⟨rfl, by omega, by omega⟩) _ (.inr ⟨rfl, rfl, rfl⟩)
  have e1 : ∀ x, x < 64 → (z_sI (zm_fill m 20 55 (z_alen 20) 0) 9 0 6 0).1 20 55 x = 0 := fun x hx => by rw [zm_ot _ _ _ _ (by omega), zm_fillr hx]
  have e2 : (z_sI (zm_fill m 20 55 (z_alen 20) 0) 9 0 6 0).1 9 0 6 = 0 := by rw [zm_row, if_pos rfl]
  generalize z_sI (zm_fill m 20 55 (z_alen 20) 0) 9 0 6 0 = m1 at f1 e1 e2
  rw [s_size v (r.keep f1 fun k i j w => by unfold zGp at w; unfold zPbr; omega), Option.bind_some]
  obtain ⟨m', p1, p2, p3⟩ := s_beg_20 (g := g) v zF 0 m1 (Nat.zero_le _) (zF_lt (by omega)) (hb.keep f1 (by unfold zPbr; omega)) (hf.keep f1 fun j => by unfold zPbr; omega) ⟨e2, fun x h => absurd h (Nat.not_lt_zero _)⟩
  exact ⟨m', p1, f1.trans (p2.mono fun k i j w => by unfold zPbr; omega), p3, fun x hx => by rw [(p2 20 55 x (by omega)).1]; exact e1 x hx⟩
/-- how many cells of a reach were looked at -/
noncomputable def zG.lg (a : zG) (s : Nat → Nat) (k r : Nat) : Nat := z_cnt (fun x => a.str x && decide (a.rl x = r) && zin s k x) a.n
def zFo (a : zG) (s : Nat → Nat) (k : Nat) (m : zM) : Prop :=
  (∀ x, x < a.n → a.str x = true → (a.beg x = true ∨ ∃ e, a.fe x e = true ∧ zin s k e = true) → m.1 20 52 x = Int32.ofNat (a.rl x)) ∧ (∀ r, r < a.rno a.n → m.1 20 55 r = Int32.ofNat (a.lg s k r)) ∧ ∀ i, i < k → a.str (s i) = true → (∀ i', i < i' → i' < k → a.str (s i') = true → a.rl (s i') ≠ a.rl (s i)) → m.1 20 54 (a.rl (s i)) = Int32.ofNat (s i)
theorem zG.rl_lt (v : zGV a) {x : Nat} (hx : a.str x = true) : a.rl x < a.rno a.n :=
  zG.rno_lt (zG.beg_n (zG.hd_beg v x (zG.str_iff.mp hx).1 hx)) (zG.hd_beg v x (zG.str_iff.mp hx).1 hx)
abbrev zPfo (k i _j : Nat) : Prop := k = 20 ∧ (i = 52 ∨ i = 54 ∨ i = 55)
theorem s_fol_2 (v : zGV a) : ∀ (j k : Nat) (m : zM), k ≤ a.n → a.n - k < j → zTr a m s → zSb a m → zFd a m → zFo a s k m → ∃ m', f_X8_followReaches_2 j (Int32.ofNat k) m = some m' ∧ zFr zPfo m m' ∧ zFo a s a.n m'
  | 0, _, _, _, h, _, _, _, _ => absurd h (Nat.not_lt_zero _)
  | j + 1, k, m, hk, hj, ht, hb, hf, ho => by
    have n64 := v.n64
    have hs := ht.2.2.2.2.1
    unfold f_X8_followReaches_2
    rw [ht.1]
    by_cases he : k = a.n
    · subst he
      rw [if_pos (by rw [zi_le (by omega) (by omega)]; omega)]
      exact ⟨m, rfl, zFr.refl m, ho⟩
    · have hkn : k < a.n := by omega
      have hj2 : a.n - (k + 1) < j := by omega
      obtain ⟨b1, b2⟩ := hs.1 k hkn
      have b3 : s k < 64 := by omega
      have zk : ∀ y, zin s (k + 1) y = (zin s k y || decide (s k = y)) := fun y => rfl
      have znew := hs.new hkn
      rw [if_neg (by rw [zi_le (by omega) (by omega)]; omega), s_at' 20 40 (show k < 64 by omega), Option.bind_some, b1, s_has _ b3, Option.bind_some, hb _ b3, zi_s]
      cases hst : a.str (s k) with
      | false =>
        rw [if_pos (by decide)]
        refine s_fol_2 v j (k + 1) m hkn hj2 ht hb hf ⟨fun x hx hsx w => ho.1 x hx hsx ?_, fun r hr => ?_, fun i hi hsi w => ?_⟩
        · rcases w with w | ⟨e, w1, w2⟩
          · exact .inl w
          · refine .inr ⟨e, w1, ?_⟩
            rw [zk, Bool.or_eq_true, decide_eq_true_eq] at w2
            rcases w2 with w2 | w2
            · exact w2
            · have := (zG.fe_iff.mp w1).2
              rw [← w2, hst] at this
              cases this
        · rw [ho.2.1 r hr]
          congr 1
          refine z_cnt_ext fun x _ => ?_
          rw [zk]
          by_cases z : s k = x
          · rw [← z, hst]; simp
          · simp [z]
        · by_cases z : i = k
          · rw [z, hst] at hsi; cases hsi
          · exact ho.2.2 i (by omega) hsi fun i' h1 h2 h3 => w i' h1 (by omega) h3
      | true =>
        have rlt := zG.rl_lt v hst
        have rle := zG.rno_le (a := a) a.n
        have r64 : a.rl (s k) < 64 := by omega
        have e52 : m.1 20 52 (s k) = Int32.ofNat (a.rl (s k)) := ho.1 (s k) b2 hst (by
          by_cases w : a.fn (s k) = 1
          · obtain ⟨e, he⟩ := zG.one_fe w
            exact .inr ⟨e, he, hs.all hkn (zG.fe_n he) (zG.fe_iff.mp he).1⟩
          · exact .inl (zG.beg_iff.mpr ⟨hst, w⟩))
        have lg1 : ∀ r, a.lg s (k + 1) r = if r = a.rl (s k) then a.lg s k r + 1 else a.lg s k r := fun r => by
          unfold zG.lg
          by_cases z : r = a.rl (s k)
          · rw [if_pos z]
            exact z_cnt_one b2 (fun x _ y => by rw [zk]; simp [Ne.symm y]) (by rw [znew]; simp) (by rw [zk, hst, z]; simp)
          · rw [if_neg z]
            refine z_cnt_ext fun x _ => ?_
            rw [zk]
            by_cases y : s k = x
            · have : ¬ a.rl x = r := fun u => z (by rw [← u, y])
              simp [this]
            · simp [y]
        rw [if_neg (by decide), s_at' 20 52 b3, Option.bind_some, e52, s_put 20 54 r64, Option.bind_some, s_add 20 55 r64, Option.bind_some]
        have e55 : (z_sI m 20 54 (a.rl (s k)) (Int32.ofNat (s k))).1 20 55 (a.rl (s k)) + 1 = Int32.ofNat (a.lg s (k + 1) (a.rl (s k))) := by
          rw [zm_ot _ _ _ _ (by omega), ho.2.1 _ rlt, zi_s, lg1, if_pos rfl]
        rw [e55]
        have f1 : zFr (fun k i j => k = 20 ∧ (i = 54 ∨ i = 55)) m (z_sI (z_sI m 20 54 (a.rl (s k)) (Int32.ofNat (s k))) 20 55 (a.rl (s k)) (Int32.ofNat (a.lg s (k + 1) (a.rl (s k))))) := zFr.sI (zFr.sI (zFr.refl m) _ ⟨rfl, .inl rfl⟩) _ ⟨rfl, .inr rfl⟩
        have t1 : zTr a (z_sI (z_sI m 20 54 (a.rl (s k)) (Int32.ofNat (s k))) 20 55 (a.rl (s k)) (Int32.ofNat (a.lg s (k + 1) (a.rl (s k))))) s := ht.keep f1 fun k i j w => by unfold zPtr at w; omega
        have g55 : ∀ r, r < a.rno a.n → (z_sI (z_sI m 20 54 (a.rl (s k)) (Int32.ofNat (s k))) 20 55 (a.rl (s k)) (Int32.ofNat (a.lg s (k + 1) (a.rl (s k))))).1 20 55 r = Int32.ofNat (a.lg s (k + 1) r) := fun r hr => by
          rw [zm_row]
          by_cases z : r = a.rl (s k)
          · rw [if_pos z, z]
          · rw [if_neg z, zm_ot _ _ _ _ (by omega), ho.2.1 r hr, lg1, if_neg z]
        have g54 : ∀ i, i < k + 1 → a.str (s i) = true → (∀ i', i < i' → i' < k + 1 → a.str (s i') = true → a.rl (s i') ≠ a.rl (s i)) → (z_sI (z_sI m 20 54 (a.rl (s k)) (Int32.ofNat (s k))) 20 55 (a.rl (s k)) (Int32.ofNat (a.lg s (k + 1) (a.rl (s k))))).1 20 54 (a.rl (s i)) = Int32.ofNat (s i) := fun i hi hsi w => by
          rw [zm_ot _ _ _ _ (by omega), zm_row]
          by_cases z : i = k
          · rw [z, if_pos rfl]
          · rw [if_neg (w k (by omega) (by omega) hst).symm]
            exact ho.2.2 i (by omega) hsi fun i' h1 h2 h3 => w i' h1 (by omega) h3
        have g52 : ∀ x, (z_sI (z_sI m 20 54 (a.rl (s k)) (Int32.ofNat (s k))) 20 55 (a.rl (s k)) (Int32.ofNat (a.lg s (k + 1) (a.rl (s k))))).1 20 52 x = m.1 20 52 x := fun x => by rw [zm_ot _ _ _ _ (by omega), zm_ot _ _ _ _ (by omega)]
        have sb1 := hb.keep f1 (by omega)
        have fd1 := hf.keep f1 fun j => by omega
        generalize z_sI (z_sI m 20 54 (a.rl (s k)) (Int32.ofNat (s k))) 20 55 (a.rl (s k)) (Int32.ofNat (a.lg s (k + 1) (a.rl (s k)))) = m1 at f1 t1 g55 g54 g52 sb1 fd1
        rw [s_at' 20 39 b3, Option.bind_some, (t1.2.2.2.1 _ b2).2.2]
        have fp : zFr zPfo m m1 := f1.mono fun k i j w => by unfold zPfo; omega
        have stay : (∀ y, a.to (s k) = some y → a.str y = true → a.beg y = true) → ∃ m', f_X8_followReaches_2 j (Int32.ofNat (k + 1)) m1 = some m' ∧ zFr zPfo m m' ∧ zFo a s a.n m' := fun w => by
          obtain ⟨m', p1, p2, p3⟩ := s_fol_2 v j (k + 1) m1 hkn hj2 t1 sb1 fd1 ⟨fun x hx hsx y => by
            rw [g52]
            refine ho.1 x hx hsx ?_
            rcases y with y | ⟨e, w1, w2⟩
            · exact .inl y
            · rw [zk, Bool.or_eq_true, decide_eq_true_eq] at w2
              rcases w2 with w2 | w2
              · exact .inr ⟨e, w1, w2⟩
              · exact .inl (w x (by rw [w2]; exact (zG.fe_iff.mp w1).1) hsx), g55, g54⟩
          exact ⟨m', p1, fp.trans p2, p3⟩
        cases hto : a.to (s k) with
        | none =>
          rw [zo_none, s_hasn _ (by decide), Option.bind_some, if_pos (by decide)]
          exact stay fun y w => by rw [hto] at w; cases w
        | some y =>
          have hy := zG.to_n v b2 hto
          rw [zo_some, s_has _ (show y < 64 by omega), Option.bind_some, sb1 y (by omega)]
          cases hsy : a.str y with
          | false =>
            rw [if_pos (by decide)]
            exact stay fun z w1 w2 => by rw [hto] at w1; cases w1; rw [hsy] at w2; cases w2
          | true =>
            rw [if_neg (by decide), s_begin v sb1 fd1 hy, Option.bind_some]
            cases hby : a.beg y with
            | true =>
              rw [if_neg (by decide)]
              exact stay fun z w1 w2 => by rw [hto] at w1; cases w1; exact hby
            | false =>
              have fn1 : a.fn y = 1 := Classical.byContradiction fun w => by
                rw [zG.beg_iff.mpr ⟨hsy, w⟩] at hby
                cases hby
              have rle := (zG.next_rl v hst hto hsy).mpr fn1
              rw [if_pos (by decide), s_put 20 52 (show y < 64 by omega), Option.bind_some]
              have f2 : zFr (fun k i j => k = 20 ∧ i = 52) m1 (z_sI m1 20 52 y (Int32.ofNat (a.rl (s k)))) := zFr.sI (zFr.refl m1) _ ⟨rfl, rfl⟩
              obtain ⟨m', p1, p2, p3⟩ := s_fol_2 v j (k + 1) _ hkn hj2 (t1.keep f2 fun k i j w => by unfold zPtr at w; omega) (sb1.keep f2 (by omega)) (fd1.keep f2 fun j => by omega) ⟨fun x hx hsx w => by
                rw [zm_row]
                by_cases z : x = y
                · rw [if_pos z, z, rle]
                · rw [if_neg z, g52]
                  refine ho.1 x hx hsx ?_
                  rcases w with w | ⟨e, w1, w2⟩
                  · exact .inl w
                  · rw [zk, Bool.or_eq_true, decide_eq_true_eq] at w2
                    rcases w2 with w2 | w2
                    · exact .inr ⟨e, w1, w2⟩
                    · have := (zG.fe_iff.mp w1).1
                      rw [← w2, hto] at this
                      cases this
                      exact absurd rfl z, fun r hr => by rw [zm_ot _ _ _ _ (by omega)]; exact g55 r hr, fun i hi hsi w => by rw [zm_ot _ _ _ _ (by omega)]; exact g54 i hi hsi w⟩
              exact ⟨m', p1, (fp.trans (f2.mono fun k i j w => by unfold zPfo; omega)).trans p2, p3⟩
/-- the class's streams -/
def zSt (a : zG) (m : zM) : Prop := zSb a m ∧ zFd a m ∧ m.1 9 0 6 = Int32.ofNat (a.rno a.n) ∧ (∀ x, x < a.n → m.1 20 48 x = if a.str x = true then Int32.ofNat (a.or x) else 0) ∧ (∀ x, x < a.n → a.str x = true → m.1 20 52 x = Int32.ofNat (a.rl x)) ∧ ∀ x, a.beg x = true → m.1 20 53 (a.rno x) = Int32.ofNat x ∧ m.1 20 54 (a.rno x) = Int32.ofNat (a.tl x) ∧ m.1 20 55 (a.rno x) = Int32.ofNat (z_cnt (fun y => a.str y && decide (a.rl y = a.rno x)) a.n)
theorem zSq.tl (v : zGV a) (h : zSq a m s) : ∀ c, c < a.n → a.str c = true → ∀ i, i < a.n → s i = c → ∃ i', i ≤ i' ∧ i' < a.n ∧ s i' = a.tl c :=
  zG.down v fun c hc ih hs i hi he => by
    cases hn : a.nx c with
    | none => rw [zG.tl0 hn]; exact ⟨i, Nat.le_refl _, hi, he⟩
    | some y =>
      obtain ⟨h1, h2, h3⟩ := zG.nx_to hn
      obtain ⟨i1, q1, q2, q3⟩ := h.after v hi (show a.to (s i) = some y by rw [he]; exact h1)
      obtain ⟨i', p1, p2, p3⟩ := ih y h1 h2 i1 q2 q3
      rw [zG.tl1 v hc hn]
      exact ⟨i', by omega, p2, p3⟩
theorem s_find (v : zGV a) (hg : g < 11) (r : zGR m g a) (ht : zTr a m s) (hw : ∀ d, d < a.n → m.1 20 45 d = Int32.ofNat (a.wa d)) : ∃ m', f_X8_find g m = some m' ∧ zFr zPsc m m' ∧ zSt a m' := by
  have n64 := v.n64
  unfold f_X8_find
  obtain ⟨m1, p1, p2, p3⟩ := s_cells v hg r hw
  rw [p1, Option.bind_some]
  have t1 : zTr a m1 s := ht.keep p2 fun k i j w => by unfold zPtr at w; omega
  obtain ⟨m2, q1, q2, q3⟩ := s_orders v t1 p3
  rw [q1, Option.bind_some]
  have hs := ht.2.2.2.2.1
  have zall : ∀ x, x < a.n → zin s a.n x = true := fun x hx => zin_iff.mpr (hs.2.1 x hx)
  have t2 : zTr a m2 s := t1.keep q2 fun k i j w => by unfold zPtr at w; unfold zPor; omega
  have sb2 : zSb a m2 := zSb.keep p3 q2 (by unfold zPor; omega)
  have fd2 : zFd a m2 := fun x hx hsx => by
    rw [(q3 x hx).2.1 hsx]
    congr 1
    exact z_cnt_ext fun e he => by rw [zall e he, Bool.and_true]
  have r2 : zGR m2 g a := (r.keep p2 fun k i j w => by unfold zGp at w; omega).keep q2 fun k i j w => by unfold zGp at w; unfold zPor; omega
  obtain ⟨m3, u1, u2, u3, u4⟩ := s_begins v hg r2 sb2 fd2
  rw [u1, Option.bind_some]
  have t3 : zTr a m3 s := t2.keep u2 fun k i j w => by unfold zPtr at w; unfold zPbr; omega
  have sb3 : zSb a m3 := sb2.keep u2 (by unfold zPbr; omega)
  have fd3 : zFd a m3 := fd2.keep u2 fun j => by unfold zPbr; omega
  unfold f_X8_followReaches
  have rle := zG.rno_le (a := a) a.n
  obtain ⟨m4, w1, w2, w3⟩ := s_fol_2 v zF 0 m3 (Nat.zero_le _) (zF_lt (by omega)) t3 sb3 fd3 ⟨fun x hx hsx w => by
    rcases w with w | ⟨e, _, w⟩
    · rw [(u3.2 x hx w).1]
      unfold zG.rl
      rw [zG.beg_hd w]
    · exact absurd (show false = true from w) Bool.false_ne_true, fun r hr => by
    rw [u4 r (by omega)]
    unfold zG.lg
    rw [z_cnt_0.mpr fun e _ => by simp [zin]]
    rfl, fun i hi => absurd hi (Nat.not_lt_zero _)⟩
  rw [show (0 : Int32) = Int32.ofNat 0 from rfl, w1, Option.bind_some]
  have f4 : zFr zPsc m m4 := (((p2.mono fun k i j w => by unfold zPsc; omega).trans (q2.mono fun k i j w => by unfold zPor at w; unfold zPsc; omega)).trans (u2.mono fun k i j w => by unfold zPbr at w; unfold zPsc; omega)).trans (w2.mono fun k i j w => by unfold zPfo at w; unfold zPsc; omega)
  refine ⟨m4, rfl, f4, sb3.keep w2 (by unfold zPfo; omega), fd3.keep w2 fun j => by unfold zPfo; omega, ?_, fun x hx => ?_, fun x hx hsx => ?_, fun x hx => ?_⟩
  · rw [(w2 9 0 6 (by unfold zPfo; omega)).1]; exact u3.1
  · rw [(w2 20 48 x (by unfold zPfo; omega)).1, (u2 20 48 x (by unfold zPbr; omega)).1, (q3 x hx).1, zall x hx]
    simp
  · refine w3.1 x hx hsx ?_
    by_cases w : a.fn x = 1
    · obtain ⟨e, he⟩ := zG.one_fe w
      exact .inr ⟨e, he, zall e (zG.fe_n he)⟩
    · exact .inl (zG.beg_iff.mpr ⟨hsx, w⟩)
  · have hxn := zG.beg_n hx
    have hsx := (zG.beg_iff.mp hx).1
    have hxl : a.rl x = a.rno x := by unfold zG.rl; rw [zG.beg_hd hx]
    have rlt := zG.rl_lt v hsx
    rw [hxl] at rlt
    obtain ⟨t1', t2', t3'⟩ := zG.tl_of v x hxn hsx
    refine ⟨by rw [(w2 20 53 _ (by unfold zPfo; omega)).1]; exact (u3.2 x hxn hx).2, ?_, ?_⟩
    · obtain ⟨i, i1, i2⟩ := hs.2.1 (a.tl x) (zG.str_iff.mp t1').1
      have := w3.2.2 i i1 (by rw [i2]; exact t1') fun i' h1 h2 h3 h4 => by
        have e1 := zG.rl_hd v h3 (by rw [i2]; exact t1') h4
        rw [i2, t2', zG.beg_hd hx] at e1
        obtain ⟨j, j1, j2, j3⟩ := hs.tl v (s i') (hs.1 i' h2).2 h3 i' h2 rfl
        have e2 := zG.tl_hd v (s i') (hs.1 i' h2).2 h3
        rw [e1] at e2
        have := hs.2.2.1 j i j2 i1 (by rw [j3, i2, ← e2])
        omega
      have e3 : a.rl (a.tl x) = a.rno x := by unfold zG.rl; rw [t2', zG.beg_hd hx]
      rw [i2, e3] at this
      exact this
    · rw [w3.2.1 _ rlt]
      congr 1
      exact z_cnt_ext fun y hy => by rw [zall y hy, Bool.and_true]
end
