/-! The reference's lakes: its search with a stack. -/
abbrev zPk (k i j : Nat) : Prop := (k = 20 ∧ (i = 65 ∨ i = 66)) ∨ (k = 13 ∧ i = 0 ∧ j = 18)
def zLx (a : zG) (m : zM) : Prop := zMR (m.1 23 0) a ∧ ∀ d, d < a.n → m.1 20 59 d = Int32.ofNat (a.lv d)
theorem zLx.keep {a : zG} {m m' : zM} (h : zLx a m) (f : zFr zPk m m') : zLx a m' :=
  ⟨by rw [f.row (fun j => by unfold zPk; omega)]; exact h.1, fun d hd => by rw [(f 20 59 d (by unfold zPk; omega)).1]; exact h.2 d hd⟩
section
variable {a : zG}
theorem zG.nb4 {c i e : Nat} (h : a.nb c i = some e) : ∃ d, d < 4 ∧ a.nb c d = some e := by
  by_cases w : i < 4
  · exact ⟨i, w, h⟩
  · refine ⟨3, by omega, ?_⟩
    have : a.nb c i = a.nb c 3 := by
      unfold zG.nb
      split <;> first | omega | rfl
    rw [← this]
    exact h
theorem s_mdepth (v : zGV a) {m : zM} (h : zLx a m) {c : Nat} (hc : c < a.n) : f_X12_depth (Int32.ofNat c) m = some (Int32.ofNat (a.lv c - a.ht c)) := by
  have n64 := v.n64
  unfold f_X12_depth
  rw [z_gdt (z_in64 (by omega)), s_mheight h.1 (by omega), Option.bind_some, zi_nat (by omega), h.2 c hc, zi_sub (zG.lv_ht v hc)]
theorem zG.dry (v : zGV a) {c : Nat} (hc : c < a.n) : Int32.ofNat (a.lv c - a.ht c) = 0 ↔ a.wet c = false := by
  have h1 := zG.lv99 v hc
  rw [zi_0 (by omega)]
  have h2 := zG.wet_iff (a := a) (d := c)
  cases hw : a.wet c with
  | true =>
    have := h2.mp hw
    exact ⟨fun q => by omega, fun q => by cases q⟩
  | false =>
    refine ⟨fun _ => rfl, fun _ => ?_⟩
    have : ¬ (c < a.n ∧ a.ht c < a.lv c) := fun q => by rw [h2.mpr q] at hw; cases hw
    omega
/-- a search in the lake of c: T is visited, t the stack with q cells; x is being looked at -/
def zDf (a : zG) (c : Nat) (T : Nat → Bool) (t : Nat → Nat) (q : Nat) (x : Option Nat) (m : zM) : Prop :=
  m.1 13 0 18 = Int32.ofNat (a.num c) ∧ (∀ d, d < a.n → m.1 20 65 d = if a.wet d = true ∧ a.fi d < c then Int32.ofNat (a.lk d) else if T d = true then Int32.ofNat (a.num c) else -1) ∧ q ≤ z_cnt T a.n ∧ (∀ k, k < q → m.1 20 66 k = Int32.ofNat (t k) ∧ t k < a.n ∧ T (t k) = true) ∧ (∀ d, T d = true → a.com c d) ∧ T c = true ∧ ∀ d, T d = true → (∃ k, k < q ∧ t k = d) ∨ some d = x ∨ ∀ i e, a.nb d i = some e → a.wl (a.lv c) e = true → T e = true
theorem zG.lk_num (v : zGV a) {c d : Nat} (hc : a.mnb c = true) (h : a.com c d) : a.lk d = a.num c := by
  unfold zG.mnb at hc
  simp only [Bool.and_eq_true, decide_eq_true_eq] at hc
  unfold zG.lk
  rw [zG.fi_eq v h, hc.2]
theorem zG.fi_mnb (v : zGV a) {c d : Nat} (hc : a.mnb c = true) (h : a.com c d) : a.fi d = c := by
  unfold zG.mnb at hc
  simp only [Bool.and_eq_true, decide_eq_true_eq] at hc
  rw [zG.fi_eq v h, hc.2]
theorem s_ml_101 (v : zGV a) (K : Int32 → zM → Option zM) (K2 : Int32 → Int32 → zM → Option zM) {c x : Nat} (hcn : c < a.n) (hm : a.mnb c = true) (hx : x < a.n) : ∀ (j d q : Nat) (T : Nat → Bool) (t : Nat → Nat) (m : zM), d ≤ 4 → 4 - d < j → zLx a m → zDf a c T t q (some x) m → T x = true → (∀ i e, i < d → a.nb x i = some e → a.wl (a.lv c) e = true → T e = true) →
    ∃ m' T' t' q', f_X12_lakes_101 K K2 j (Int32.ofNat c) (Int32.ofNat q) (Int32.ofNat x) (Int32.ofNat d) m = K2 (Int32.ofNat c) (Int32.ofNat q') m' ∧ zFr zPk m m' ∧ zDf a c T' t' q' none m' ∧ q' + z_cnt T a.n = q + z_cnt T' a.n ∧ z_cnt T a.n ≤ z_cnt T' a.n
  | 0, _, _, _, _, _, _, h, _, _, _, _ => absurd h (Nat.not_lt_zero _)
  | j + 1, d, q, T, t, m, hd, hj, r, hs, hT, hi => by
    have n64 := v.n64
    have hqn : q ≤ 64 := Nat.le_trans hs.2.2.1 (Nat.le_trans (z_cnt_le _ _) n64)
    unfold f_X12_lakes_101
    rw [show (4 : Int32) = Int32.ofNat 4 from rfl]
    by_cases he : d = 4
    · subst he
      rw [if_pos (by rw [zi_le (by omega) (by omega)]; omega)]
      refine ⟨m, T, t, q, rfl, zFr.refl m, ⟨hs.1, hs.2.1, hs.2.2.1, hs.2.2.2.1, hs.2.2.2.2.1, hs.2.2.2.2.2.1, fun y hy => ?_⟩, rfl, Nat.le_refl _⟩
      rcases hs.2.2.2.2.2.2 y hy with w | w | w
      · exact .inl w
      · cases w
        refine .inr (.inr fun i e q1 q2 => ?_)
        obtain ⟨i', q3, q4⟩ := zG.nb4 q1
        exact hi i' e q3 q4 q2
      · exact .inr (.inr w)
    · have hj2 : d + 1 ≤ 4 ∧ 4 - (d + 1) < j := by omega
      rw [if_neg (by rw [zi_le (by omega) (by omega)]; omega), s_next v r.1 hx (by omega), Option.bind_some, zi_s, zi_s]
      have skip : (∀ e, a.nb x d = some e → a.wl (a.lv c) e = true → T e = true) → ∃ m' T' t' q', f_X12_lakes_101 K K2 j (Int32.ofNat c) (Int32.ofNat q) (Int32.ofNat x) (Int32.ofNat (d + 1)) m = K2 (Int32.ofNat c) (Int32.ofNat q') m' ∧ zFr zPk m m' ∧ zDf a c T' t' q' none m' ∧ q' + z_cnt T a.n = q + z_cnt T' a.n ∧ z_cnt T a.n ≤ z_cnt T' a.n := fun w =>
        s_ml_101 v K K2 hcn hm hx j (d + 1) q T t m hj2.1 hj2.2 r hs hT fun i e q1 q2 q3 => by
          by_cases z : i = d
          · rw [z] at q2; exact w e q2 q3
          · exact hi i e (by omega) q2 q3
      cases hn : a.nb x d with
      | none =>
        rw [if_pos (show zo none < 0 by decide)]
        exact skip fun e w => by rw [hn] at w; cases w
      | some f =>
        have hf := zG.nb_n v hx hn
        have hlf := zG.lv99 v hf
        have hlc := zG.lv99 v hcn
        have hlab := hs.2.1 f hf
        rw [zo_some, if_neg (zi_z (by omega)), z_gdt (z_in64 (by omega)), zi_nat (k := f) (by omega), s_mdepth v r hf, Option.bind_some, z_gdt (z_in64 (c := f) (by omega)), z_gdt (z_in64 (c := c) (by omega)), zi_nat (k := c) (by omega), r.2 f hf, r.2 c hcn, z_gdt (z_in64 (c := f) (by omega)), hs.1]
        have nb : ∀ k, a.num k ≤ k := zG.num_le
        by_cases w1 : a.wet f = true ∧ a.fi f < c
        · rw [if_pos w1] at hlab
          have : a.lk f ≤ a.fi f := nb _
          rw [hlab, if_pos (zi_zl (by omega))]
          refine skip fun e q1 q2 => ?_
          rw [hn] at q1
          cases q1
          have hc : a.com c f := (hs.2.2.2.2.1 x hT).step hn q2
          have := zG.fi_mnb v hm hc
          omega
        · rw [if_neg w1] at hlab
          by_cases w2 : T f = true
          · rw [if_pos w2] at hlab
            have := nb c
            rw [hlab, if_pos (zi_zl (by omega))]
            exact skip fun e q1 q2 => by rw [hn] at q1; cases q1; exact w2
          · rw [if_neg w2] at hlab
            rw [hlab, if_neg (by decide)]
            have hdr := zG.dry v hf
            cases w3 : a.wet f with
            | false =>
              rw [if_pos (hdr.mpr w3)]
              refine skip fun e q1 q2 => ?_
              rw [hn] at q1
              cases q1
              have := (zG.wl_iff.mp q2).1
              rw [w3] at this
              cases this
            | true =>
              rw [if_neg (fun z => by rw [hdr.mp z] at w3; cases w3)]
              by_cases w4 : a.lv f = a.lv c
              · have hwl : a.wl (a.lv c) f = true := zG.wl_iff.mpr ⟨w3, w4⟩
                have hc : a.com c f := (hs.2.2.2.2.1 x hT).step hn hwl
                have w2' : T f = false := by cases y : T f <;> simp_all
                have hlt := z_cnt_lt (p := T) (q := fun _ => true) (n := a.n) (c := f) (fun _ _ _ => rfl) hf w2' rfl
                have hle := z_cnt_le (fun _ => true) a.n
                have hq := hs.2.2.1
                have hq64 : q < 64 := by clear hs hi skip; omega
                rw [if_pos (by rw [w4]), z_gdt (z_in64 hq64), zi_nat (k := q) (by omega)]
                have f1 : zFr zPk m (z_sI (z_sI m 20 65 f (Int32.ofNat (a.num c))) 20 66 q (Int32.ofNat f)) := zFr.sI (zFr.sI (zFr.refl m) _ (.inl ⟨rfl, .inl rfl⟩)) _ (.inl ⟨rfl, .inr rfl⟩)
                have hcnt : z_cnt (fun y => T y || decide (y = f)) a.n = z_cnt T a.n + 1 := z_cnt_one (x := f) hf (fun y _ z => by simp [z]) w2' (by simp)
                have hs1 : zDf a c (fun y => T y || decide (y = f)) (fun k => if k = q then f else t k) (q + 1) (some x) (z_sI (z_sI m 20 65 f (Int32.ofNat (a.num c))) 20 66 q (Int32.ofNat f)) := by
                  refine ⟨by rw [zm_ot _ _ _ _ (by omega), zm_ot _ _ _ _ (by omega)]; exact hs.1, fun y hy => ?_, by omega, fun k hk => ?_, fun y hy => ?_, by simp [hs.2.2.2.2.2.1], fun y hy => ?_⟩
                  · rw [zm_ot _ _ _ _ (by omega), zm_row]
                    by_cases z : y = f
                    · rw [if_pos z, z, if_neg w1]
                      simp
                    · rw [if_neg z, hs.2.1 y hy]
                      simp [z]
                  · rw [zm_row]
                    by_cases z : k = q
                    · simp [z, hf]
                    · obtain ⟨q1, q2, q3⟩ := hs.2.2.2.1 k (by omega)
                      rw [if_neg z, zm_ot _ _ _ _ (by omega), q1]
                      simp [z, q2, q3]
                  · simp only [Bool.or_eq_true, decide_eq_true_eq] at hy
                    rcases hy with hy | hy
                    · exact hs.2.2.2.2.1 y hy
                    · rw [hy]; exact hc
                  · simp only [Bool.or_eq_true, decide_eq_true_eq] at hy
                    by_cases z : y = f
                    · exact .inl ⟨q, Nat.lt_succ_self _, by simp [z]⟩
                    · have hy := hy.resolve_right z
                      rcases hs.2.2.2.2.2.2 y hy with ⟨k, q1, q2⟩ | q1 | q1
                      · exact .inl ⟨k, by omega, by simp [show k ≠ q by omega, q2]⟩
                      · exact .inr (.inl q1)
                      · exact .inr (.inr fun i e y1 y2 => by simp [q1 i e y1 y2])
                obtain ⟨m', T', t', q', p1, p2, p3, p4, p5⟩ := s_ml_101 v K K2 hcn hm hx j (d + 1) (q + 1) _ _ _ hj2.1 hj2.2 (r.keep f1) hs1 (by simp [hT]) fun i e q1 q2 q3 => by
                  by_cases z : i = d
                  · rw [z, hn] at q2
                    cases q2
                    simp
                  · simp [hi i e (by omega) q2 q3]
                exact ⟨m', T', t', q', p1, f1.trans p2, p3, by omega, by omega⟩
              · rw [if_neg (by rw [zi_eq (by omega) (by omega)]; exact w4)]
                refine skip fun e q1 q2 => ?_
                rw [hn] at q1
                cases q1
                exact absurd (zG.wl_iff.mp q2).2 w4
theorem s_ml_84 (v : zGV a) (K : Int32 → zM → Option zM) {c : Nat} (hcn : c < a.n) (hm : a.mnb c = true) : ∀ (j q : Nat) (T : Nat → Bool) (t : Nat → Nat) (m : zM), q + 2 * (a.n - z_cnt T a.n) < j → zLx a m → zDf a c T t q none m →
    ∃ m', f_X12_lakes_84 K j (Int32.ofNat c) (Int32.ofNat q) m = K (Int32.ofNat (c + 1)) m' ∧ zFr zPk m m' ∧ m'.1 13 0 18 = Int32.ofNat (a.num (c + 1)) ∧ ∀ d, d < a.n → m'.1 20 65 d = if a.wet d = true ∧ a.fi d < c + 1 then Int32.ofNat (a.lk d) else -1
  | 0, _, _, _, _, h, _, _ => absurd h (Nat.not_lt_zero _)
  | j + 1, q, T, t, m, hj, r, hs => by
    have n64 := v.n64
    have hqn : q ≤ 64 := Nat.le_trans hs.2.2.1 (Nat.le_trans (z_cnt_le _ _) n64)
    unfold f_X12_lakes_84
    rw [show (0 : Int32) = Int32.ofNat 0 from rfl]
    by_cases hq : q = 0
    · subst hq
      rw [if_pos (by rw [zi_le (by omega) (by omega)]; omega), zi_s, hs.1, zi_s]
      refine ⟨_, rfl, zFr.sI (zFr.refl m) _ (.inr ⟨rfl, rfl, rfl⟩), ?_, fun d hd => ?_⟩
      · rw [zm_row, if_pos rfl, zG.num_succ, if_pos hm]
      · rw [zm_ot _ _ _ _ (by omega), hs.2.1 d hd]
        have all : ∀ y, a.com c y → T y = true := fun y hy => by
          refine hy (fun y => T y = true) (fun y h1 h2 => ?_) fun y i e h1 h2 h3 => ?_
          · rw [z_one_iff.mp h1]; exact hs.2.2.2.2.2.1
          · rcases hs.2.2.2.2.2.2 y h1 with ⟨k, w, _⟩ | w | w
            · exact absurd w (Nat.not_lt_zero _)
            · cases w
            · exact w i e h2 h3
        by_cases w1 : a.wet d = true ∧ a.fi d < c
        · rw [if_pos w1, if_pos ⟨w1.1, by omega⟩]
        · rw [if_neg w1]
          by_cases w2 : T d = true
          · have hc := hs.2.2.2.2.1 d w2
            have h1 := zG.fi_mnb v hm hc
            rw [if_pos w2, if_pos ⟨(zG.com_in hc).1, by omega⟩, zG.lk_num v hm hc]
          · rw [if_neg w2, if_neg]
            rintro ⟨h1, h2⟩
            have h3 : a.fi d = c := by
              have : ¬ a.fi d < c := fun z => w1 ⟨h1, z⟩
              omega
            have h4 := zG.com_sym v (zG.fi_com v h1)
            rw [h3] at h4
            exact w2 (all d h4)
    · have hq1 : q - 1 < q := by omega
      obtain ⟨g1, g2, g3⟩ := hs.2.2.2.1 (q - 1) hq1
      rw [if_neg (by rw [zi_le (by omega) (by omega)]; omega), zi_p (by omega), z_gdt (z_in64 (by omega)), zi_nat (by omega), g1]
      have hs1 : zDf a c T t (q - 1) (some (t (q - 1))) m := by
        refine ⟨hs.1, hs.2.1, by have := hs.2.2.1; omega, fun k hk => hs.2.2.2.1 k (by omega), hs.2.2.2.2.1, hs.2.2.2.2.2.1, fun d hd => ?_⟩
        rcases hs.2.2.2.2.2.2 d hd with ⟨k, w1, w2⟩ | w | w
        · by_cases z : k = q - 1
          · exact .inr (.inl (by rw [← w2, z]))
          · exact .inl ⟨k, by omega, w2⟩
        · cases w
        · exact .inr (.inr w)
      obtain ⟨m1, T1, t1, q1, p1, p2, p3, p4, p5⟩ := s_ml_101 v K (f_X12_lakes_84 K j) hcn hm g2 zF 0 (q - 1) T t m (by omega) (zF_lt (by omega)) r hs1 g3 fun i e w => absurd w (Nat.not_lt_zero _)
      rw [p1]
      have hle := z_cnt_le T1 a.n
      obtain ⟨m', y1, y2, y3⟩ := s_ml_84 v K hcn hm j q1 T1 t1 m1 (by omega) (r.keep p2) p3
      exact ⟨m', y1, p2.trans y2, y3⟩
/-- the reference's lakes -/
def zMk (a : zG) (c : Nat) (m : zM) : Prop := m.1 13 0 18 = Int32.ofNat (a.num c) ∧ ∀ d, d < a.n → m.1 20 65 d = if a.wet d = true ∧ a.fi d < c then Int32.ofNat (a.lk d) else -1
theorem s_ml_34 (v : zGV a) : ∀ (j c : Nat) (m : zM), c ≤ a.n → a.n - c < j → zLx a m → zMk a c m → ∃ m', f_X12_lakes_34 j (Int32.ofNat c) m = some m' ∧ zFr zPk m m' ∧ zMk a a.n m'
  | 0, _, _, _, h, _, _ => absurd h (Nat.not_lt_zero _)
  | j + 1, c, m, hc, hj, r, hk => by
    have n64 := v.n64
    unfold f_X12_lakes_34
    rw [s_mcells r.1, Option.bind_some]
    by_cases he : c = a.n
    · subst he
      rw [if_pos (by rw [zi_le (by omega) (by omega)]; omega)]
      exact ⟨m, rfl, zFr.refl m, hk⟩
    · have hcn : c < a.n := by omega
      have hj2 : a.n - (c + 1) < j := by omega
      have nl := zG.num_le (a := a) c
      rw [if_neg (by rw [zi_le (by omega) (by omega)]; omega), s_mdepth v r hcn, Option.bind_some, zi_s, z_gdt (z_in64 (by omega)), z_gdt (show z_inb (0 : Int32) (z_alen 20) = true by decide), z_gdt (z_in64 (by omega)), zi_nat (k := c) (by omega), z_c0]
      have skip : a.mnb c = false → ∃ m', f_X12_lakes_34 j (Int32.ofNat (c + 1)) m = some m' ∧ zFr zPk m m' ∧ zMk a a.n m' := fun w => by
        refine s_ml_34 v j (c + 1) m hcn hj2 r ⟨?_, fun d hd => ?_⟩
        · rw [hk.1, zG.num_succ, w]; simp
        · rw [hk.2 d hd]
          have : (a.wet d = true ∧ a.fi d < c) ↔ (a.wet d = true ∧ a.fi d < c + 1) := by
            constructor
            · exact fun q => ⟨q.1, by omega⟩
            · rintro ⟨q1, q2⟩
              refine ⟨q1, ?_⟩
              by_cases z : a.fi d = c
              · have := zG.mnb_fi v q1
                rw [z, w] at this
                cases this
              · omega
          simp only [this]
      have hdr := zG.dry v hcn
      cases hw : a.wet c with
      | false =>
        rw [if_pos (hdr.mpr hw)]
        exact skip (by unfold zG.mnb; rw [hw]; rfl)
      | true =>
        rw [if_neg (fun z => by rw [hdr.mp z] at hw; cases hw)]
        have hcom := zG.com_refl hw
        have hfi := zG.fi_le v hcom
        have hrow := hk.2 c hcn
        by_cases w : a.fi c < c
        · rw [if_pos ⟨hw, w⟩] at hrow
          have := zG.num_le (a := a) (a.fi c)
          rw [hrow, if_neg (zi_z (by unfold zG.lk; omega))]
          refine skip ?_
          unfold zG.mnb
          rw [hw]
          simp
          omega
        · rw [if_neg (fun z => w z.2)] at hrow
          rw [hrow, if_pos (by decide), zm_ot _ _ _ _ (by omega), hk.1]
          have hm : a.mnb c = true := by
            unfold zG.mnb
            rw [hw]
            simp
            omega
          have f1 : zFr zPk m (z_sI (z_sI m 20 66 0 (Int32.ofNat c)) 20 65 c (Int32.ofNat (a.num c))) := zFr.sI (zFr.sI (zFr.refl m) _ (.inl ⟨rfl, .inr rfl⟩)) _ (.inl ⟨rfl, .inl rfl⟩)
          have hT : z_cnt (fun y => decide (y = c)) a.n = 1 := by
            have := z_cnt_one (p := fun _ => false) (q := fun y => decide (y = c)) (n := a.n) (x := c) hcn (fun y _ z => by simp [z]) rfl (by simp)
            rw [this, z_cnt_0.mpr fun _ _ => rfl]
          obtain ⟨m1, p1, p2, p3, p4⟩ := s_ml_84 v (f_X12_lakes_34 j) hcn hm zF 1 (fun y => decide (y = c)) (fun _ => c) _ (zF_lt (by omega)) (r.keep f1) ⟨by rw [zm_ot _ _ _ _ (by omega), zm_ot _ _ _ _ (by omega)]; exact hk.1, fun d hd => by
            rw [zm_row]
            by_cases z : d = c
            · rw [if_pos z, z, if_neg fun y => w y.2]; simp
            · rw [if_neg z, zm_ot _ _ _ _ (by omega), hk.2 d hd]; simp [z], by omega, fun k hk0 => by
            rw [zm_ot _ _ _ _ (by omega), zm_row, if_pos (by omega)]
            exact ⟨rfl, hcn, by simp⟩, fun d hd => by
            rw [decide_eq_true_eq] at hd
            rw [hd]; exact hcom, by simp, fun d hd => by
            rw [decide_eq_true_eq] at hd
            exact .inl ⟨0, by omega, hd.symm⟩⟩
          rw [show (0 : Int32) + 1 = Int32.ofNat 1 from rfl, p1]
          obtain ⟨m', q1, q2, q3⟩ := s_ml_34 v j (c + 1) m1 hcn hj2 ((r.keep f1).keep p2) ⟨p3, p4⟩
          exact ⟨m', q1, (f1.trans p2).trans q2, q3⟩
theorem s_ml_6 (v : zGV a) : ∀ (j c : Nat) (m : zM), c ≤ a.n → a.n - c < j → zLx a m → (∀ d, d < c → m.1 20 65 d = -1) → ∃ m', f_X12_lakes_6 j (Int32.ofNat c) m = some m' ∧ zFr zPk m m' ∧ zMk a a.n m'
  | 0, _, _, _, h, _, _ => absurd h (Nat.not_lt_zero _)
  | j + 1, c, m, hc, hj, r, hk => by
    have n64 := v.n64
    unfold f_X12_lakes_6
    rw [s_mcells r.1, Option.bind_some]
    by_cases he : c = a.n
    · subst he
      rw [if_pos (by rw [zi_le (by omega) (by omega)]; omega)]
      have f1 : zFr zPk m (z_sI m 13 0 18 0) := zFr.sI (zFr.refl m) _ (.inr ⟨rfl, rfl, rfl⟩)
      obtain ⟨m', q1, q2, q3⟩ := s_ml_34 v zF 0 (z_sI m 13 0 18 0) (Nat.zero_le _) (zF_lt (by omega)) (r.keep f1) ⟨by rw [zm_row, if_pos rfl]; rfl, fun d hd => by rw [zm_ot _ _ _ _ (by omega), hk d hd, if_neg (fun w => Nat.not_lt_zero _ w.2)]⟩
      exact ⟨m', q1, f1.trans q2, q3⟩
    · have hcn : c < a.n := by omega
      have hj2 : a.n - (c + 1) < j := by omega
      rw [if_neg (by rw [zi_le (by omega) (by omega)]; omega), z_gdt (z_in64 (by omega)), zi_s, zi_nat (by omega)]
      have f1 : zFr zPk m (z_sI m 20 65 c (-1)) := zFr.sI (zFr.refl m) _ (.inl ⟨rfl, .inl rfl⟩)
      obtain ⟨m', q1, q2, q3⟩ := s_ml_6 v j (c + 1) _ hcn hj2 (r.keep f1) fun d hd => by
        rw [zm_row]
        by_cases w : d = c
        · rw [if_pos w]
        · rw [if_neg w]; exact hk d (by omega)
      exact ⟨m', q1, f1.trans q2, q3⟩
abbrev zPlk (k i j : Nat) : Prop := (k = 20 ∧ 59 ≤ i ∧ i ≤ 66) ∨ (k = 13 ∧ i = 0 ∧ j = 18)
theorem s_mlakes (v : zGV a) {m : zM} (r : zMR (m.1 23 0) a) : ∃ m', f_X12_lakes m = some m' ∧ zFr zPlk m m' ∧ zML a m' ∧ zMk a a.n m' := by
  have n64 := v.n64
  unfold f_X12_lakes
  obtain ⟨m1, p1, p2, p3⟩ := s_looks v r
  rw [p1, Option.bind_some]
  obtain ⟨m', q1, q2, q3⟩ := s_ml_6 v zF 0 m1 (Nat.zero_le _) (zF_lt (by omega)) ⟨by rw [p2.row (fun j => by unfold zPlo; omega)]; exact r, p3.1.1⟩ fun d w => absurd w (Nat.not_lt_zero _)
  refine ⟨m', q1, (p2.mono fun k i j w => by unfold zPlo at w; unfold zPlk; omega).trans (q2.mono fun k i j w => by unfold zPk at w; unfold zPlk; omega), ⟨⟨fun d hd => ?_, fun d hd => ?_⟩, fun d hd => ⟨?_, ?_⟩⟩, q3⟩
  · rw [(q2 20 59 d (by unfold zPk; omega)).1]; exact p3.1.1 d hd
  · rw [(q2 20 60 d (by unfold zPk; omega)).1]; exact p3.1.2 d hd
  · rw [(q2 20 61 d (by unfold zPk; omega)).1]; exact (p3.2 d hd).1
  · rw [(q2 20 62 d (by unfold zPk; omega)).1]; exact (p3.2 d hd).2
end
