/-! The class's and the reference's depressions. -/
theorem zb_onef {c : Nat} (h : c < 64) : zb (z_shl 1 (Int32.ofNat c)) = z_one c := by
  funext d
  by_cases w : d < 64
  · rw [zb_one h w]; rfl
  · rw [zb_big _ (by omega)]
    have : ¬ d = c := by omega
    simp [z_one, this]
section
variable {a : zG} {m : zM} {g : Nat}
theorem zG.in_reach {W L : Nat → Bool} {c : Nat} (h1 : ∀ d, L d = true → W d = true) (h2 : ∀ d, zRch a W (z_one c) d → L d = true) {d : Nat} : zRch a L (z_one c) d ↔ zRch a W (z_one c) d := by
  constructor
  · exact fun h => h.mono h1 fun e q1 q2 => zRch.base q1 (h1 e q2)
  · intro h
    refine (h (fun d => zRch a L (z_one c) d ∧ zRch a W (z_one c) d) (fun e q1 q2 => ?_) fun e i f q1 q2 q3 => ?_).1
    · have q4 : zRch a W (z_one c) e := zRch.base q1 q2
      exact ⟨zRch.base q1 (h2 e q4), q4⟩
    · have q4 := q1.2.step q2 q3
      exact ⟨q1.1.step q2 (h2 f q4), q4⟩
theorem zG.dpl_end (t c : Nat) (D : zDS) : ∀ i, (∀ e, c ≤ e → e < c + i → a.lead t e = false) → a.dpl t (c + i) D = a.dpl t c D
  | 0, _ => rfl
  | i + 1, h => by
    show a.dst t (c + i) (a.dpl t (c + i) D) = _
    unfold zG.dst
    rw [h (c + i) (by omega) (by omega), if_neg (by decide)]
    exact zG.dpl_end t c D i fun e h1 h2 => h e h1 (by omega)
theorem zG.lead_ml (v : zGV a) {t c : Nat} (hp : a.pc t c = true) : a.lead t c = true ↔ c ≤ a.ml (a.lo t) c := by
  have h1 := zG.ml_le (W := a.lo t) v (fun _ => zG.lo_n) (zG.cm_refl (zG.pc_iff.mp hp).1)
  rw [zG.lead_iff]
  exact ⟨fun h => by omega, fun h => ⟨hp, by omega⟩⟩
theorem zG.ml_lead (v : zGV a) {t c d : Nat} (hc : a.lead t c = true) (hd : a.lo t d = true) : a.cs (a.lo t) c d = true ↔ a.ml (a.lo t) d = c := by
  obtain ⟨h1, h2⟩ := zG.lead_iff.mp hc
  rw [zG.cs_iff]
  constructor
  · intro h
    rw [zG.ml_eq (W := a.lo t) v (fun _ => zG.lo_n) h, h2]
  · intro h
    exact zG.ml_same (W := a.lo t) v (fun _ => zG.lo_n) (zG.pc_iff.mp h1).1 hd (by omega)
theorem s_find_28 (v : zGV a) (hg : g < 11) (K : Int32 → Int32 → zM → Option zM) {t : Nat} (ht : t ≤ 99) : ∀ (j c : Nat) (x : Int64) (m : zM), c ≤ a.n → a.n - c < j → zGR m g a → m.1 3 0 0 = Int32.ofNat (a.dpl t c (a.dp t)).k → zDr (a.dpl t c (a.dp t)) 0 0 m → (∀ d, zb x d = true ↔ a.pc t d = true ∧ c ≤ a.ml (a.lo t) d) →
    ∃ m', f_X1_find_28 g K j (Int32.ofNat a.n) (Int32.ofNat t) x (Int32.ofNat c) m = K (Int32.ofNat a.n) (Int32.ofNat (t + 1)) m' ∧ zFr zPde m m' ∧ m'.1 3 0 0 = Int32.ofNat (a.dp (t + 1)).k ∧ zDr (a.dp (t + 1)) 0 0 m'
  | 0, _, _, _, _, h, _, _, _, _ => absurd h (Nat.not_lt_zero _)
  | j + 1, c, x, m, hc, hj, r, hn, hr, hx => by
    have n64 := v.n64
    unfold f_X1_find_28
    rw [zi_s]
    by_cases he : c = a.n
    · subst he
      rw [if_pos (by rw [zi_le (by omega) (by omega)]; omega)]
      exact ⟨m, rfl, zFr.refl m, hn, hr⟩
    · have hcn : c < a.n := by clear hx; omega
      have c64 : c < 64 := by omega
      have hj2 : a.n - (c + 1) < j := by clear hx; omega
      have inv := zDv.dpl v (zDv.dp v t) c
      rw [if_neg (by rw [zi_le (by omega) (by omega)]; clear hx; omega)]
      by_cases h0 : x = 0
      · rw [if_pos (by rw [zb_lc]; exact h0)]
        have := zG.dpl_end (a := a) t c (a.dp t) (a.n - c) fun e h1 h2 => by
          cases w : a.lead t e with
          | false => rfl
          | true =>
            obtain ⟨w1, w2⟩ := zG.lead_iff.mp w
            have := (hx e).mpr ⟨w1, by omega⟩
            rw [h0, zb_0] at this
            cases this
        rw [show c + (a.n - c) = a.n by clear hx; omega] at this
        refine ⟨m, rfl, zFr.refl m, ?_, ?_⟩
        · show m.1 3 0 0 = Int32.ofNat (a.dpl t a.n (a.dp t)).k
          rw [this]; exact hn
        · show zDr (a.dpl t a.n (a.dp t)) 0 0 m
          rw [this]; exact hr
      · rw [if_neg (by rw [zb_lc]; exact h0), s_has _ c64, Option.bind_some, zi_s]
        cases hb : zb x c with
        | false =>
          rw [if_pos (by decide)]
          have hl : a.lead t c = false := by
            cases w : a.lead t c with
            | false => rfl
            | true =>
              obtain ⟨w1, w2⟩ := zG.lead_iff.mp w
              have := (hx c).mpr ⟨w1, by omega⟩
              rw [hb] at this
              cases this
          have e1 : a.dpl t (c + 1) (a.dp t) = a.dpl t c (a.dp t) := by
            show a.dst t c (a.dpl t c (a.dp t)) = _
            unfold zG.dst
            rw [hl, if_neg (by decide)]
          refine s_find_28 v hg K ht j (c + 1) x m hcn hj2 r (by rw [e1]; exact hn) (by rw [e1]; exact hr) fun d => ?_
          rw [hx d]
          refine ⟨fun ⟨q1, q2⟩ => ⟨q1, ?_⟩, fun ⟨q1, q2⟩ => ⟨q1, by omega⟩⟩
          refine Nat.lt_of_le_of_ne q2 fun w => ?_
          have h3 := zG.ml_cm (W := a.lo t) v (fun _ => zG.lo_n) (zG.pc_iff.mp q1).1
          rw [← w] at h3
          have h4 := zG.ml_eq (W := a.lo t) v (fun _ => zG.lo_n) h3
          have := (hx c).mpr ⟨zG.pc_cm v q1 h3, by omega⟩
          rw [hb] at this
          cases this
        | true =>
          rw [if_neg (by decide)]
          have hxc := (hx c).mp hb
          have hl : a.lead t c = true := (zG.lead_ml v hxc.1).mpr hxc.2
          obtain ⟨Z, z1, z2⟩ := s_reachable v r (S := z_shl 1 (Int32.ofNat c)) (W := x) fun d _ q => zG.pc_n ((hx d).mp q).1
          have hZ : ∀ d, zb Z d = a.cs (a.lo t) c d := fun d => by
            rw [Bool.eq_iff_iff, z2 d, zb_onef c64, zG.cs_iff]
            refine zG.in_reach (fun e q => (zG.pc_iff.mp ((hx e).mp q).1).1) fun e q => (hx e).mpr ⟨zG.pc_cm v hxc.1 q, ?_⟩
            rw [zG.ml_eq (W := a.lo t) v (fun _ => zG.lo_n) q]
            exact hxc.2
          have hpk := (inv.put v hl).2
          obtain ⟨m1, p1, p2, p3, p4⟩ := s_place hZ ht hpk hn hr
          have e1 : a.dpl t (c + 1) (a.dp t) = (a.dpl t c (a.dp t)).put (a.cs (a.lo t) c) t := by
            show a.dst t c (a.dpl t c (a.dp t)) = _
            unfold zG.dst
            rw [hl, if_pos rfl]
          rw [z1, Option.bind_some, p1, Option.bind_some]
          obtain ⟨m', q1, q2, q3⟩ := s_find_28 v hg K ht j (c + 1) (x &&& (Z ^^^ (-1))) m1 hcn hj2 (r.keep p2 fun k i j w => by unfold zGp at w; unfold zPde; omega) (by rw [e1]; exact p3) (by rw [e1]; exact p4) fun d => by
            rw [zb_and, Bool.and_eq_true, hx d]
            by_cases w : d < 64
            · rw [zb_not _ w, hZ d]
              constructor
              · rintro ⟨⟨q1, q2⟩, q3⟩
                refine ⟨q1, Nat.lt_of_le_of_ne q2 fun y => ?_⟩
                rw [(zG.ml_lead v hl (zG.pc_iff.mp q1).1).mpr y.symm] at q3
                cases q3
              · rintro ⟨q1, q2⟩
                refine ⟨⟨q1, by omega⟩, ?_⟩
                cases y : a.cs (a.lo t) c d with
                | false => rfl
                | true =>
                  have := (zG.ml_lead v hl (zG.pc_iff.mp q1).1).mp y
                  omega
            · rw [zb_big _ (by omega)]
              constructor
              · rintro ⟨_, q⟩; cases q
              · rintro ⟨q, _⟩
                have := zG.pc_n q
                omega
          exact ⟨m', q1, p2.trans q2, q3⟩
theorem s_find_12 (v : zGV a) (hg : g < 11) : ∀ (j t : Nat) (m : zM), t ≤ 100 → 100 - t < j → zGR m g a → m.1 3 0 0 = Int32.ofNat (a.dp t).k → zDr (a.dp t) 0 0 m →
    ∃ m', f_X1_find_12 g j (Int32.ofNat a.n) (Int32.ofNat t) m = some m' ∧ zFr zPde m m' ∧ m'.1 3 0 0 = Int32.ofNat (a.dp 100).k ∧ zDr (a.dp 100) 0 0 m'
  | 0, _, _, _, h, _, _, _ => absurd h (Nat.not_lt_zero _)
  | j + 1, t, m, ht, hj, r, hn, hr => by
    have n64 := v.n64
    unfold f_X1_find_12
    rw [show (99 : Int32) = Int32.ofNat 99 from rfl]
    by_cases he : t = 100
    · subst he
      rw [if_pos (by rw [zi_lt (by omega) (by omega)]; omega)]
      exact ⟨m, rfl, zFr.refl m, hn, hr⟩
    · rw [if_neg (by rw [zi_lt (by omega) (by omega)]; omega)]
      obtain ⟨S, s1, s2⟩ := s_pools v r (t := t) (by omega)
      rw [s1, Option.bind_some]
      obtain ⟨m1, p1, p2, p3, p4⟩ := s_find_28 v hg (f_X1_find_12 g j) (t := t) (by omega) zF 0 S m (Nat.zero_le _) (zF_lt (by omega)) r hn hr fun d => by rw [s2]; exact ⟨fun q => ⟨q, Nat.zero_le _⟩, fun q => q.1⟩
      rw [show (0 : Int32) = Int32.ofNat 0 from rfl, p1]
      obtain ⟨m', q1, q2, q3⟩ := s_find_12 v hg j (t + 1) m1 (by omega) (by omega) (r.keep p2 fun k i j w => by unfold zGp at w; unfold zPde; omega) p3 p4
      exact ⟨m', q1, p2.trans q2, q3⟩
/-- the class's depressions -/
theorem s_dfind (v : zGV a) (hg : g < 11) (r : zGR m g a) : ∃ m', f_X1_find g m = some m' ∧ zFr zPde m m' ∧ m'.1 3 0 0 = Int32.ofNat (a.dp 100).k ∧ zDr (a.dp 100) 0 0 m' := by
  unfold f_X1_find
  have f1 : zFr zPde m (z_sI m 3 0 0 0) := zFr.sI (zFr.refl m) _ (.inr (.inr ⟨rfl, rfl, rfl⟩))
  have r1 := r.keep f1 fun k i j w => by unfold zGp at w; unfold zPde; omega
  rw [s_size v r1, Option.bind_some]
  obtain ⟨m', q1, q2, q3⟩ := s_find_12 v hg zF 0 _ (by omega) (zF_lt (by omega)) r1 (by rw [zm_row, if_pos rfl]; rfl) ⟨by show 0 ≤ 128; omega, fun d (hd : d < 0) => absurd hd (Nat.not_lt_zero _)⟩
  exact ⟨m', q1, f1.trans q2, q3⟩
/-! The reference. -/
theorem zG.dpl_k (t : Nat) (D : zDS) : ∀ c, D.k ≤ (a.dpl t c D).k ∧ ∀ d, D.k ≤ d → d < (a.dpl t c D).k → (a.dpl t c D).l d = t
  | 0 => ⟨Nat.le_refl _, fun d h1 h2 => by exact absurd h2 (Nat.not_lt.mpr h1)⟩
  | c + 1 => by
    obtain ⟨h1, h2⟩ := zG.dpl_k t D c
    show D.k ≤ (a.dst t c (a.dpl t c D)).k ∧ ∀ d, D.k ≤ d → d < (a.dst t c (a.dpl t c D)).k → (a.dst t c (a.dpl t c D)).l d = t
    generalize a.dpl t c D = E at h1 h2
    unfold zG.dst
    by_cases w : a.lead t c = true
    · rw [if_pos w]
      unfold zDS.put
      by_cases w2 : z_cnt (zDS.w E (a.cs (a.lo t) c) t) (zDS.k E) = 1
      · rw [if_pos w2]
        refine ⟨h1, fun d q1 q2 => ?_⟩
        show (if d = zfst (zDS.w E (a.cs (a.lo t) c) t) (zDS.k E) then t else zDS.l E d) = t
        by_cases z : d = zfst (zDS.w E (a.cs (a.lo t) c) t) (zDS.k E)
        · rw [if_pos z]
        · rw [if_neg z]; exact h2 d q1 q2
      · rw [if_neg w2]
        refine ⟨Nat.le_succ_of_le h1, fun d q1 q2 => ?_⟩
        have q2' : d < zDS.k E + 1 := q2
        show (if d = zDS.k E then t else zDS.l E d) = t
        by_cases z : d = zDS.k E
        · rw [if_pos z]
        · rw [if_neg z]; exact h2 d q1 (by omega)
    · rw [if_neg w]
      exact ⟨h1, h2⟩
abbrev zPdm (k i j : Nat) : Prop := (k = 21 ∧ 3 ≤ i ∧ i ≤ 5) ∨ (k = 31 ∧ (i = 2 ∨ i = 3)) ∨ (k = 13 ∧ i = 0 ∧ (j = 20 ∨ j = 21)) ∨ (k = 20 ∧ i = 66)
theorem z_within (x y : Int64) : lg_cmp (x &&& (y ^^^ (-1))) 0 = 0 ↔ ∀ c, zb x c = true → zb y c = true := by
  rw [zb_lc]
  constructor
  · intro e c hc
    have c64 : c < 64 := by
      by_cases w : c < 64
      · exact w
      · rw [zb_big _ (by omega)] at hc; cases hc
    have := congrArg (fun z => zb z c) e
    simp only [zb_and, zb_not y c64, zb_0, hc] at this
    cases q : zb y c with
    | true => rfl
    | false => rw [q] at this; cases this
  · intro h
    refine zb_ext fun c hc => ?_
    rw [zb_and, zb_not y hc, zb_0]
    cases q : zb x c with
    | false => rfl
    | true => rw [h c q]; rfl
theorem z_in21 {c : Nat} (h : c < 128) : z_inb (Int32.ofNat c) (z_alen 21) = true := by
  rw [zi_inb (by omega), decide_eq_true_eq]
  exact h
theorem z_in31 {c : Nat} (h : c < 128) : z_inb (Int32.ofNat c) (z_alen 31) = true := by
  rw [zi_inb (by omega), decide_eq_true_eq]
  exact h
variable {D : zDS}
theorem zDv.wiff (v : zGV a) {t c : Nat} (h : zDv a t c D) {d : Nat} (hd : d < D.k) : D.w (a.cs (a.lo t) c) t d = true ↔ D.l d + 1 = t ∧ ∀ y, D.t d y = true → a.cs (a.lo t) c y = true := by
  constructor
  · exact fun w => ⟨(zDS.w_iff.mp w).1, h.sub v hd w⟩
  · rintro ⟨h1, h2⟩
    obtain ⟨_, _, x, q3, q4, _⟩ := h.1 d hd
    have h3 : D.t d x = true := by rw [q4, zG.cs_iff]; exact zG.cm_refl (zG.pc_iff.mp q3).1
    have := zG.pc_n q3
    have := v.n64
    exact zDS.w_iff.mpr ⟨h1, x, by omega, h3, h2 x h3⟩
theorem s_match {t c : Nat} (hr : zDr D 3 2 m) (hS : ∀ d, zb (m.2.1 13 0 20) d = a.cs (a.lo t) c d) (ht : t ≤ 99) {d : Nat} (hd : d < D.k) (hw : D.w (a.cs (a.lo t) c) t d = true ↔ D.l d + 1 = t ∧ ∀ y, D.t d y = true → a.cs (a.lo t) c y = true) (A B : Option zM) :
    (z_gd (z_inb (Int32.ofNat d) (z_alen 21)) <| if (m.1 21 4 (Int32.toNatClampNeg (Int32.ofNat d))) = (Int32.ofNat t - (1 : Int32)) then z_gd (z_inb (Int32.ofNat d) (z_alen 31)) <| if (lg_cmp ((m.2.1 31 3 (Int32.toNatClampNeg (Int32.ofNat d))) &&& ((m.2.1 13 0 20) ^^^ (-1 : Int64))) (0 : Int64)) = 0 then A else B else B) = if D.w (a.cs (a.lo t) c) t d = true then A else B := by
  have hk := hr.1
  obtain ⟨_, q2, q3, _, _, q6⟩ := hr.2 d hd
  rw [z_gdt (z_in21 (by omega)), z_gdt (z_in31 (by omega)), zi_nat (by omega), show m.1 21 4 d = Int32.ofNat (D.l d) from q2]
  by_cases w : D.l d + 1 = t
  · have e : Int32.ofNat t - 1 = Int32.ofNat (D.l d) := by rw [← w]; exact zi_q (by omega)
    rw [if_pos e.symm]
    by_cases w2 : ∀ y, D.t d y = true → a.cs (a.lo t) c y = true
    · rw [if_pos (hw.mpr ⟨w, w2⟩), if_pos ((z_within _ _).mpr fun y hy => by rw [hS]; rw [show zb (m.2.1 31 3 d) y = D.t d y from q6 y] at hy; exact w2 y hy)]
    · rw [if_neg (fun y => w2 (hw.mp y).2), if_neg fun y => w2 fun z hz => by rw [← hS]; exact (z_within _ _).mp y z (by rw [show zb (m.2.1 31 3 d) z = D.t d z from q6 z]; exact hz)]
  · have e : ¬ Int32.ofNat (D.l d) = Int32.ofNat t - 1 := fun q => by
      by_cases t0 : t = 0
      · rw [t0] at q
        exact zi_m1 (k := D.l d) (by omega) q
      · rw [zi_q (by omega), zi_eq (by omega) (by omega)] at q
        omega
    rw [if_neg e, if_neg (fun y => w (hw.mp y).1)]
theorem s_dep_179 (v : zGV a) (K7 : Int32 → zM → Option zM) (K : Int32 → Int64 → Int32 → Int32 → zM → Option zM) {t c b : Nat} (h : zDv a t c D) (ht : t ≤ 99) (hb : b ≤ D.k) (hbl : ∀ d, b ≤ d → d < D.k → D.l d = t) (hk : D.k < 128) (h1 : z_cnt (D.w (a.cs (a.lo t) c) t) D.k ≠ 1) {u : Int64} : ∀ (j d : Nat) (m : zM), d ≤ b → b - d < j → m.1 13 0 21 = Int32.ofNat D.k → zDr (D.1, D.2.1, D.2.2.1, (fun e => if e < d ∧ D.w (a.cs (a.lo t) c) t e = true then some D.k else D.p e), D.2.2.2.2) 3 2 m → (∀ d, zb (m.2.1 13 0 20) d = a.cs (a.lo t) c d) →
    ∃ m', f_X12_depressions_179 K7 K j (Int32.ofNat t) u (Int32.ofNat b) (Int32.ofNat c) (Int32.ofNat d) m = K (Int32.ofNat t) u (Int32.ofNat b) (Int32.ofNat (c + 1)) m' ∧ zFr zPdm m m' ∧ m'.1 13 0 21 = Int32.ofNat (D.put (a.cs (a.lo t) c) t).k ∧ zDr (D.put (a.cs (a.lo t) c) t) 3 2 m'
  | 0, _, _, _, h, _, _, _ => absurd h (Nat.not_lt_zero _)
  | j + 1, d, m, hd, hj, hn, hr, hS => by
    unfold f_X12_depressions_179
    by_cases he : d = b
    · subst he
      rw [if_pos (by rw [zi_le (by omega) (by omega)]; omega)]
      have L1 : ∀ (m : zM) (i j : Nat) (v : Int32), (z_sI m 21 i j v).1 13 0 21 = m.1 13 0 21 := fun m i j v => zm_ot _ _ _ _ (by omega)
      have L4 : ∀ (m : zM) (i j : Nat) (v : Int64), (z_sL m 31 i j v).2.1 13 0 20 = m.2.1 13 0 20 := fun m i j v => by rw [zm_L, if_neg (by omega)]
      have L5 : ∀ (m : zM) (i j : Nat) (v : Int64), (z_sL m 31 i j v).1 13 0 21 = m.1 13 0 21 := fun m i j v => rfl
      have L6 : ∀ (m : zM) (i j : Nat) (v : Int32), (z_sI m 21 i j v).2.1 13 0 20 = m.2.1 13 0 20 := fun m i j v => rfl
      have L7 : ∀ (m : zM) (v : Int32), (z_sI m 13 0 21 v).2.1 13 0 20 = m.2.1 13 0 20 := fun m v => rfl
      have hkn : Int32.toNatClampNeg (Int32.ofNat D.k) = D.k := zi_nat (by omega)
      simp only [L1, L4, L5, L6, L7, hn, hkn, z_in21 hk, z_in31 hk, zi_s]
      rw [z_gdt rfl, z_gdt rfl, z_gdt rfl, z_gdt rfl, z_gdt rfl]
      have f1 : zFr zPdm m (z_sL (z_sI (z_sL (z_sI (z_sI (z_sI m 21 3 D.k (Int32.ofNat t)) 21 4 D.k (Int32.ofNat t)) 21 5 D.k (-1)) 31 2 D.k (m.2.1 13 0 20)) 13 0 21 (Int32.ofNat (D.k + 1))) 31 3 D.k (m.2.1 13 0 20)) :=
        zFr.sL (zFr.sI (zFr.sL (zFr.sI (zFr.sI (zFr.sI (zFr.refl m) _ (.inl ⟨rfl, by omega, by omega⟩)) _ (.inl ⟨rfl, by omega, by omega⟩)) _ (.inl ⟨rfl, by omega, by omega⟩)) _ (.inr (.inl ⟨rfl, .inl rfl⟩))) _ (.inr (.inr (.inl ⟨rfl, rfl, .inr rfl⟩)))) _ (.inr (.inl ⟨rfl, .inr rfl⟩))
      have e : D.put (a.cs (a.lo t) c) t = (D.k + 1, (fun d => if d = D.k then t else D.f d), (fun d => if d = D.k then t else D.l d), (fun d => if d = D.k then none else if D.w (a.cs (a.lo t) c) t d = true then some D.k else D.p d), (fun d => if d = D.k then a.cs (a.lo t) c else D.u d), fun d => if d = D.k then a.cs (a.lo t) c else D.t d) := by
        unfold zDS.put
        rw [if_neg h1]
      refine ⟨_, rfl, f1, by rw [zm_LI, zm_row, if_pos rfl, e]; rfl, ?_⟩
      rw [e]
      refine ⟨by show D.k + 1 ≤ 128; omega, fun e (he : e < D.k + 1) => ?_⟩
      rw [zm_LI, zm_ot _ _ _ _ (by omega), zm_ot _ _ _ _ (by omega), zm_ot _ _ _ _ (by omega), zm_LI]
      rw [zm_ot _ _ _ _ (by omega), zm_ot _ _ _ _ (by omega), zm_row, zm_ot _ _ _ _ (by omega), zm_row, zm_row]
      rw [zm_L, zm_L, zm_IL, zm_L, zm_L, zm_IL, zm_IL, zm_IL]
      show (if e = D.k then Int32.ofNat t else _) = Int32.ofNat (if e = D.k then t else D.f e) ∧ (if e = D.k then Int32.ofNat t else _) = Int32.ofNat (if e = D.k then t else D.l e) ∧ (if e = D.k then t else D.l e) ≤ 99 ∧ (if e = D.k then (-1 : Int32) else _) = zo (if e = D.k then none else if D.w (a.cs (a.lo t) c) t e = true then some D.k else D.p e) ∧ (∀ y, _ = (if e = D.k then a.cs (a.lo t) c else D.u e) y) ∧ ∀ y, _ = (if e = D.k then a.cs (a.lo t) c else D.t e) y
      by_cases z : e = D.k
      · rw [if_pos z, if_pos z, if_pos z, if_pos z, if_pos z, if_pos z, if_pos z, if_pos z]
        refine ⟨rfl, rfl, ht, rfl, fun y => ?_, fun y => ?_⟩
        · rw [if_neg (by omega), if_pos ⟨rfl, rfl, z⟩]; exact hS y
        · rw [if_pos ⟨rfl, rfl, z⟩]; exact hS y
      · rw [if_neg z, if_neg z, if_neg z, if_neg z, if_neg z, if_neg z, if_neg z, if_neg z]
        have hd' : e < D.k := by omega
        obtain ⟨q1, q2, q3, q4, q5, q6⟩ := hr.2 e hd'
        refine ⟨q1, by rw [zm_ot _ _ _ _ (by omega)]; exact q2, q3, ?_, fun y => ?_, fun y => ?_⟩
        · rw [zm_ot _ _ _ _ (by omega), zm_ot _ _ _ _ (by omega)]
          refine q4.trans ?_
          show zo (if e < d ∧ D.w (a.cs (a.lo t) c) t e = true then some D.k else D.p e) = _
          by_cases y : e < d
          · simp only [y, true_and]
          · have : ¬ D.w (a.cs (a.lo t) c) t e = true := fun q => by
              have q7 := (zDS.w_iff.mp q).1
              have q8 := hbl e (by omega) hd'
              omega
            simp [this]
        · rw [if_neg (by omega), if_neg (fun w => z w.2.2)]; exact q5 y
        · rw [if_neg (fun w => z w.2.2), if_neg (by omega)]; exact q6 y
    · have hdk : d < D.k := by omega
      have hj2 : b - (d + 1) < j := by omega
      rw [if_neg (by rw [zi_le (by omega) (by omega)]; omega), s_match hr hS ht hdk (h.wiff v hdk), zi_s]
      rw [show zDS.w (D.1, D.2.1, D.2.2.1, (fun e => if e < d ∧ D.w (a.cs (a.lo t) c) t e = true then some D.k else D.p e), D.2.2.2.2) (a.cs (a.lo t) c) t d = D.w (a.cs (a.lo t) c) t d from rfl]
      cases hq : D.w (a.cs (a.lo t) c) t d with
      | false =>
        rw [if_neg (by decide)]
        refine s_dep_179 v K7 K h ht hb hbl hk h1 j (d + 1) m (by omega) hj2 hn ⟨hr.1, fun e he => ?_⟩ hS
        obtain ⟨q1, q2, q3, q4, q5⟩ := hr.2 e he
        refine ⟨q1, q2, q3, ?_, q5⟩
        rw [q4]
        show zo (if e < d ∧ D.w (a.cs (a.lo t) c) t e = true then some D.k else D.p e) = zo (if e < d + 1 ∧ D.w (a.cs (a.lo t) c) t e = true then some D.k else D.p e)
        by_cases z : e = d
        · rw [z, hq]; simp
        · have : e < d ↔ e < d + 1 := by omega
          simp only [this]
      | true =>
        rw [if_pos rfl, z_gdt (z_in21 (by omega)), zi_nat (by omega), hn]
        have f1 : zFr zPdm m (z_sI m 21 5 d (Int32.ofNat D.k)) := zFr.sI (zFr.refl m) _ (.inl ⟨rfl, by omega, by omega⟩)
        obtain ⟨m', p1, p2, p3⟩ := s_dep_179 v K7 K h ht hb hbl hk h1 (u := u) j (d + 1) (z_sI m 21 5 d (Int32.ofNat D.k)) (by omega) hj2 (by rw [zm_ot _ _ _ _ (by omega)]; exact hn) ⟨hr.1, fun e he => by
          obtain ⟨q1, q2, q3, q4, q5, q6⟩ := hr.2 e he
          refine ⟨by rw [zm_ot _ _ _ _ (by omega)]; exact q1, by rw [zm_ot _ _ _ _ (by omega)]; exact q2, q3, ?_, by rw [zm_IL]; exact q5, by rw [zm_IL]; exact q6⟩
          rw [zm_row]
          show _ = zo (if e < d + 1 ∧ D.w (a.cs (a.lo t) c) t e = true then some D.k else D.p e)
          by_cases z : e = d
          · rw [if_pos z, z, hq, if_pos ⟨by omega, rfl⟩]; rfl
          · rw [if_neg z]
            refine q4.trans ?_
            show zo (if e < d ∧ D.w (a.cs (a.lo t) c) t e = true then some D.k else D.p e) = _
            have : e < d ↔ e < d + 1 := by omega
            simp only [this]⟩ hS
        exact ⟨m', p1, f1.trans p2, p3⟩
theorem s_dep_91 (v : zGV a) (K7 : Int32 → zM → Option zM) (K : Int32 → Int64 → Int32 → Int32 → zM → Option zM) {t c b : Nat} (h : zDv a t c D) (ht : t ≤ 99) (hb : b ≤ D.k) (hbl : ∀ d, b ≤ d → d < D.k → D.l d = t) (hk : D.k < 128) {u : Int64} {m : zM} (hn : m.1 13 0 21 = Int32.ofNat D.k) (hr : zDr D 3 2 m) (hS : ∀ d, zb (m.2.1 13 0 20) d = a.cs (a.lo t) c d) : ∀ (j d : Nat) (y : Int32), d ≤ b → b - d < j → (0 < z_cnt (D.w (a.cs (a.lo t) c) t) d → y = Int32.ofNat (zfst (D.w (a.cs (a.lo t) c) t) d)) →
    ∃ m', f_X12_depressions_91 K7 K j (Int32.ofNat t) u (Int32.ofNat b) (Int32.ofNat c) (Int32.ofNat (z_cnt (D.w (a.cs (a.lo t) c) t) d)) y (Int32.ofNat d) m = K (Int32.ofNat t) u (Int32.ofNat b) (Int32.ofNat (c + 1)) m' ∧ zFr zPdm m m' ∧ m'.1 13 0 21 = Int32.ofNat (D.put (a.cs (a.lo t) c) t).k ∧ zDr (D.put (a.cs (a.lo t) c) t) 3 2 m'
  | 0, _, _, _, h, _ => absurd h (Nat.not_lt_zero _)
  | j + 1, d, y, hd, hj, hy => by
    have hcl := z_cnt_le (D.w (a.cs (a.lo t) c) t) d
    unfold f_X12_depressions_91
    by_cases he : d = b
    · subst he
      rw [if_pos (by rw [zi_le (by omega) (by omega)]; omega)]
      have tail : ∀ i, z_cnt (D.w (a.cs (a.lo t) c) t) (d + i) = z_cnt (D.w (a.cs (a.lo t) c) t) d ∨ D.k < d + i := fun i => by
        induction i with
        | zero => exact .inl rfl
        | succ i ih =>
          rcases ih with ih | ih
          · by_cases w : d + i < D.k
            · left
              show z_cnt (D.w (a.cs (a.lo t) c) t) (d + i) + (if D.w (a.cs (a.lo t) c) t (d + i) = true then 1 else 0) = _
              have : ¬ D.w (a.cs (a.lo t) c) t (d + i) = true := fun q => by
                have q7 := (zDS.w_iff.mp q).1
                have q8 := hbl (d + i) (by omega) w
                omega
              rw [if_neg this, ih, Nat.add_zero]
            · exact .inr (by omega)
          · exact .inr (by omega)
      have tot : z_cnt (D.w (a.cs (a.lo t) c) t) D.k = z_cnt (D.w (a.cs (a.lo t) c) t) d := by
        rcases tail (D.k - d) with w | w
        · rw [show d + (D.k - d) = D.k by omega] at w; exact w
        · omega
      by_cases w : z_cnt (D.w (a.cs (a.lo t) c) t) d = 1
      · obtain ⟨e, e1, e2⟩ := z_cnt_pos.mp (show 0 < z_cnt (D.w (a.cs (a.lo t) c) t) d by omega)
        have e3 := zfst_eq w e1 e2
        have e4 := zfst_eq (tot.trans w) (show e < D.k by omega) e2
        rw [if_pos (by rw [w]; rfl), hy (by omega), e3, z_gdt (z_in21 (by omega)), z_gdt (z_in31 (by omega)), zi_nat (by omega), zi_s, zm_IL]
        have ep : D.put (a.cs (a.lo t) c) t = (D.k, D.f, (fun d => if d = e then t else D.l d), D.p, D.u, fun d => if d = e then a.cs (a.lo t) c else D.t d) := by
          unfold zDS.put
          rw [if_pos (tot.trans w), e4]
        have f1 : zFr zPdm m (z_sL (z_sI m 21 4 e (Int32.ofNat t)) 31 3 e (m.2.1 13 0 20)) := zFr.sL (zFr.sI (zFr.refl m) _ (.inl ⟨rfl, by omega, by omega⟩)) _ (.inr (.inl ⟨rfl, .inr rfl⟩))
        refine ⟨_, rfl, f1, by rw [zm_LI, zm_ot _ _ _ _ (by omega), ep]; exact hn, ?_⟩
        rw [ep]
        refine ⟨hr.1, fun d (hd : d < D.k) => ?_⟩
        obtain ⟨q1, q2, q3, q4, q5, q6⟩ := hr.2 d hd
        rw [zm_LI, zm_ot _ _ _ _ (by omega), zm_row, zm_ot _ _ _ _ (by omega), zm_L, zm_L, zm_IL]
        show _ ∧ _ = Int32.ofNat (if d = e then t else D.l d) ∧ (if d = e then t else D.l d) ≤ 99 ∧ _ ∧ _ ∧ ∀ y, _ = (if d = e then a.cs (a.lo t) c else D.t d) y
        by_cases z : d = e
        · rw [if_pos z, if_pos z, if_pos z]
          refine ⟨q1, rfl, ht, q4, fun y => ?_, fun y => ?_⟩
          · rw [if_neg (by omega)]; exact q5 y
          · rw [if_pos ⟨rfl, rfl, z⟩]; exact hS y
        · rw [if_neg z, if_neg z, if_neg z]
          refine ⟨q1, q2, q3, q4, fun y => ?_, fun y => ?_⟩
          · rw [if_neg (by omega)]; exact q5 y
          · rw [if_neg (fun w => z w.2.2)]; exact q6 y
      · rw [if_neg (by rw [show (1 : Int32) = Int32.ofNat 1 from rfl, zi_eq (by omega) (by omega)]; exact w)]
        refine s_dep_179 v K7 K h ht hb hbl hk (by rw [tot]; exact w) zF 0 m (Nat.zero_le _) (zF_lt (by omega)) hn ?_ hS
        refine ⟨hr.1, fun e he => ?_⟩
        obtain ⟨q1, q2, q3, q4, q5⟩ := hr.2 e he
        refine ⟨q1, q2, q3, ?_, q5⟩
        rw [q4]
        show _ = zo (if e < 0 ∧ D.w (a.cs (a.lo t) c) t e = true then some D.k else D.p e)
        rw [if_neg (fun w => Nat.not_lt_zero _ w.1)]
    · have hdk : d < D.k := by omega
      have hj2 : b - (d + 1) < j := by omega
      rw [if_neg (by rw [zi_le (by omega) (by omega)]; omega), s_match hr hS ht hdk (h.wiff v hdk), zi_s, zi_s]
      have cs : z_cnt (D.w (a.cs (a.lo t) c) t) (d + 1) = z_cnt (D.w (a.cs (a.lo t) c) t) d + if D.w (a.cs (a.lo t) c) t d = true then 1 else 0 := rfl
      have zs : zfst (D.w (a.cs (a.lo t) c) t) (d + 1) = if D.w (a.cs (a.lo t) c) t d = true then d else zfst (D.w (a.cs (a.lo t) c) t) d := rfl
      have ih := fun y h' => s_dep_91 v K7 K h ht hb hbl hk (u := u) hn hr hS j (d + 1) y (by omega) hj2 h'
      cases hq : D.w (a.cs (a.lo t) c) t d with
      | false =>
        rw [if_neg (by decide)]
        rw [cs, zs, hq] at ih
        exact ih y hy
      | true =>
        rw [if_pos rfl]
        rw [cs, zs, hq] at ih
        exact ih _ fun _ => rfl
theorem s_dep_24 (v : zGV a) (K7 : Int32 → zM → Option zM) {t : Nat} (ht : t ≤ 99) : ∀ (j c : Nat) (x : Int64) (m : zM), c ≤ a.n → a.n - c < j → zMR (m.1 23 0) a → m.1 13 0 21 = Int32.ofNat (a.dpl t c (a.dp t)).k → zDr (a.dpl t c (a.dp t)) 3 2 m → (∀ d, zb x d = true ↔ a.lo t d = true ∧ a.ml (a.lo t) d < c) →
    ∃ m', f_X12_depressions_24 K7 j (Int32.ofNat t) x (Int32.ofNat (a.dp t).k) (Int32.ofNat c) m = K7 (Int32.ofNat (t + 1)) m' ∧ zFr zPdm m m' ∧ m'.1 13 0 21 = Int32.ofNat (a.dp (t + 1)).k ∧ zDr (a.dp (t + 1)) 3 2 m'
  | 0, _, _, _, _, h, _, _, _, _ => absurd h (Nat.not_lt_zero _)
  | j + 1, c, x, m, hc, hj, r, hn, hr, hx => by
    have n64 := v.n64
    unfold f_X12_depressions_24
    rw [s_mcells r, Option.bind_some, zi_s]
    by_cases he : c = a.n
    · subst he
      rw [if_pos (by rw [zi_le (by omega) (by omega)]; omega)]
      exact ⟨m, rfl, zFr.refl m, hn, hr⟩
    · have hcn : c < a.n := by clear hx; omega
      have c64 : c < 64 := by omega
      have hht := v.ht c
      have hj2 : a.n - (c + 1) < j := by clear hx; omega
      have inv := zDv.dpl v (zDv.dp v t) c
      rw [if_neg (by rw [zi_le (by omega) (by omega)]; clear hx; omega), s_mheight r c64, Option.bind_some, zi_s]
      have stay : a.lead t c = false → a.dpl t (c + 1) (a.dp t) = a.dpl t c (a.dp t) := fun hl => by
        show a.dst t c (a.dpl t c (a.dp t)) = _
        unfold zG.dst
        rw [hl, if_neg (by decide)]
      have skip : a.lead t c = false → (∀ d, a.lo t d = true → a.ml (a.lo t) d ≠ c) → ∃ m', f_X12_depressions_24 K7 j (Int32.ofNat t) x (Int32.ofNat (a.dp t).k) (Int32.ofNat (c + 1)) m = K7 (Int32.ofNat (t + 1)) m' ∧ zFr zPdm m m' ∧ m'.1 13 0 21 = Int32.ofNat (a.dp (t + 1)).k ∧ zDr (a.dp (t + 1)) 3 2 m' := fun hl hno => by
        refine s_dep_24 v K7 ht j (c + 1) x m hcn hj2 r (by rw [stay hl]; exact hn) (by rw [stay hl]; exact hr) fun d => ?_
        rw [hx d]
        refine ⟨fun ⟨q1, q2⟩ => ⟨q1, by omega⟩, fun ⟨q1, q2⟩ => ⟨q1, ?_⟩⟩
        have := hno d q1
        omega
      by_cases w1 : t < a.ht c
      · rw [if_pos (by rw [zi_lt (by omega) (by omega)]; exact w1)]
        have nlo : a.lo t c = false := by
          cases q : a.lo t c with
          | false => rfl
          | true => have := (zG.lo_iff.mp q).2; omega
        refine skip ?_ fun d h1 h2 => ?_
        · cases q : a.lead t c with
          | false => rfl
          | true =>
            have := (zG.pc_iff.mp (zG.lead_iff.mp q).1).1
            rw [nlo] at this
            cases this
        · have h3 := zG.ml_cm (W := a.lo t) v (fun _ => zG.lo_n) h1
          rw [h2] at h3
          have := zRch.inW h3
          rw [nlo] at this
          cases this
      · have hlo : a.lo t c = true := zG.lo_iff.mpr ⟨hcn, by omega⟩
        have hmle := zG.ml_le (W := a.lo t) v (fun _ => zG.lo_n) (zG.cm_refl hlo)
        rw [if_neg (by rw [zi_lt (by omega) (by omega)]; exact w1)]
        by_cases w2 : zb x c = true
        · rw [if_pos ((z_tst _ c64).mpr w2)]
          have h1 := ((hx c).mp w2).2
          refine skip ?_ fun d h2 h3 => ?_
          · cases q : a.lead t c with
            | false => rfl
            | true => have := (zG.lead_iff.mp q).2; omega
          · have h4 := zG.ml_cm (W := a.lo t) v (fun _ => zG.lo_n) h2
            rw [h3] at h4
            have := zG.ml_eq (W := a.lo t) v (fun _ => zG.lo_n) h4
            omega
        · have hmc : a.ml (a.lo t) c = c := by
            have : ¬ a.ml (a.lo t) c < c := fun q => w2 ((hx c).mpr ⟨hlo, q⟩)
            omega
          rw [if_neg (mt (z_tst _ c64).mp w2)]
          obtain ⟨m1, p1, p2, p3⟩ := s_land v (lo := 0) (hi := t) (by omega) ht (c := c) (by rw [zG.rg0]; exact hlo) r
          rw [show (0 : Int32) = Int32.ofNat 0 from rfl, p1, Option.bind_some]
          have p2' : zFr zPdm m m1 := p2.mono fun k i j w => by unfold zPln at w; unfold zPdm; omega
          have r1 : zMR (m1.1 23 0) a := by rw [p2.row (fun j => by unfold zPln; omega)]; exact r
          have hS : ∀ d, zb (m1.2.1 13 0 20) d = a.cs (a.lo t) c d := fun d => by
            rw [Bool.eq_iff_iff, p3 d, zG.rg0, zG.cs_iff]
          have hn1 : m1.1 13 0 21 = Int32.ofNat (a.dpl t c (a.dp t)).k := by rw [(p2 13 0 21 (by unfold zPln; omega)).1]; exact hn
          have hr1 : zDr (a.dpl t c (a.dp t)) 3 2 m1 := ⟨hr.1, fun d hd => by
            obtain ⟨q1, q2, q3, q4, q5, q6⟩ := hr.2 d hd
            refine ⟨?_, ?_, q3, ?_, fun y => ?_, fun y => ?_⟩
            · rw [(p2 21 3 d (by unfold zPln; omega)).1]; exact q1
            · rw [(p2 21 (3 + 1) d (by unfold zPln; omega)).1]; exact q2
            · rw [(p2 21 (3 + 2) d (by unfold zPln; omega)).1]; exact q4
            · rw [(p2 31 2 d (by unfold zPln; omega)).2.1]; exact q5 y
            · rw [(p2 31 (2 + 1) d (by unfold zPln; omega)).2.1]; exact q6 y⟩
          obtain ⟨bo, b1, b2⟩ := s_isPool v r1
          rw [b1, Option.bind_some]
          have bits : ∀ d, zb (x ||| m1.2.1 13 0 20) d = true ↔ a.lo t d = true ∧ a.ml (a.lo t) d < c + 1 := fun d => by
            rw [zb_or, Bool.or_eq_true, hx d, hS d, zG.cs_iff]
            constructor
            · rintro (⟨q1, q2⟩ | q)
              · exact ⟨q1, by omega⟩
              · have := zG.ml_eq (W := a.lo t) v (fun _ => zG.lo_n) q
                exact ⟨zRch.inW q, by omega⟩
            · rintro ⟨q1, q2⟩
              by_cases z : a.ml (a.lo t) d = c
              · exact .inr (zG.ml_same (W := a.lo t) v (fun _ => zG.lo_n) hlo q1 (by omega))
              · exact .inl ⟨q1, by omega⟩
          have hpool : bo = true ↔ a.pc t c = true := by
            rw [b2, zG.pool_iff v hlo]
            constructor
            · exact fun q d h1 => q d (zG.lo_n (zRch.inW h1)) (by rw [hS, zG.cs_iff]; exact h1)
            · exact fun q d _ h1 => q d (by rw [hS, zG.cs_iff] at h1; exact h1)
          cases hbo : bo with
          | false =>
            have hl : a.lead t c = false := by
              cases q : a.lead t c with
              | false => rfl
              | true =>
                have := hpool.mpr (zG.lead_iff.mp q).1
                rw [hbo] at this
                cases this
            rw [if_pos (by decide)]
            obtain ⟨m', q1, q2, q3⟩ := s_dep_24 v K7 ht j (c + 1) _ m1 hcn hj2 r1 (by rw [stay hl]; exact hn1) (by rw [stay hl]; exact hr1) bits
            exact ⟨m', q1, p2'.trans q2, q3⟩
          | true =>
            have hl : a.lead t c = true := zG.lead_iff.mpr ⟨hpool.mp hbo, hmc⟩
            have hpk := (inv.put v hl).2
            have hkk := zG.dpl_k (a := a) t (a.dp t) c
            rw [if_neg (by decide)]
            obtain ⟨m2, u1, u2, u3, u4⟩ := s_dep_91 v K7 (f_X12_depressions_24 K7 j) inv ht hkk.1 hkk.2 hpk (u := x ||| m1.2.1 13 0 20) hn1 hr1 hS zF 0 (-1) (Nat.zero_le _) (zF_lt (by have := hr.1; omega)) fun w => absurd w (Nat.lt_irrefl _)
            rw [show Int32.ofNat (z_cnt (zDS.w (a.dpl t c (a.dp t)) (a.cs (a.lo t) c) t) 0) = Int32.ofNat 0 from rfl] at u1
            rw [u1]
            have e1 : a.dpl t (c + 1) (a.dp t) = (a.dpl t c (a.dp t)).put (a.cs (a.lo t) c) t := by
              show a.dst t c (a.dpl t c (a.dp t)) = _
              unfold zG.dst
              rw [hl, if_pos rfl]
            obtain ⟨m', q1, q2, q3⟩ := s_dep_24 v K7 ht j (c + 1) _ m2 hcn hj2 (by rw [u2.row (fun j => by unfold zPdm; omega)]; exact r1) (by rw [e1]; exact u3) (by rw [e1]; exact u4) bits
            exact ⟨m', q1, (p2'.trans u2).trans q2, q3⟩
theorem s_dep_7 (v : zGV a) : ∀ (j t : Nat) (m : zM), t ≤ 100 → 100 - t < j → zMR (m.1 23 0) a → m.1 13 0 21 = Int32.ofNat (a.dp t).k → zDr (a.dp t) 3 2 m →
    ∃ m', f_X12_depressions_7 j (Int32.ofNat t) m = some m' ∧ zFr zPdm m m' ∧ m'.1 13 0 21 = Int32.ofNat (a.dp 100).k ∧ zDr (a.dp 100) 3 2 m'
  | 0, _, _, _, h, _, _, _ => absurd h (Nat.not_lt_zero _)
  | j + 1, t, m, ht, hj, r, hn, hr => by
    have n64 := v.n64
    unfold f_X12_depressions_7
    rw [show (100 : Int32) = Int32.ofNat 100 from rfl]
    by_cases he : t = 100
    · subst he
      rw [if_pos (by rw [zi_le (by omega) (by omega)]; omega)]
      exact ⟨m, rfl, zFr.refl m, hn, hr⟩
    · rw [if_neg (by rw [zi_le (by omega) (by omega)]; omega), hn]
      obtain ⟨m1, p1, p2, p3, p4⟩ := s_dep_24 v (f_X12_depressions_7 j) (t := t) (by omega) zF 0 0 m (Nat.zero_le _) (zF_lt (by omega)) r hn hr fun d => by rw [zb_0]; exact ⟨fun q => (by cases q), fun q => absurd q.2 (Nat.not_lt_zero _)⟩
      rw [show (0 : Int32) = Int32.ofNat 0 from rfl, p1]
      obtain ⟨m', q1, q2, q3⟩ := s_dep_7 v j (t + 1) m1 (by omega) (by omega) (by rw [p2.row (fun j => by unfold zPdm; omega)]; exact r) p3 p4
      exact ⟨m', q1, p2.trans q2, q3⟩
/-- the reference's depressions -/
theorem s_mdeps (v : zGV a) (r : zMR (m.1 23 0) a) : ∃ m', f_X12_depressions m = some m' ∧ zFr zPdm m m' ∧ m'.1 13 0 21 = Int32.ofNat (a.dp 100).k ∧ zDr (a.dp 100) 3 2 m' := by
  unfold f_X12_depressions
  have f1 : zFr zPdm m (z_sI m 13 0 21 0) := zFr.sI (zFr.refl m) _ (.inr (.inr (.inl ⟨rfl, rfl, .inr rfl⟩)))
  obtain ⟨m', q1, q2, q3⟩ := s_dep_7 v zF 0 _ (by omega) (zF_lt (by omega)) (by rw [f1.row (fun j => by unfold zPdm; omega)]; exact r) (by rw [zm_row, if_pos rfl]; rfl) ⟨by show 0 ≤ 128; omega, fun d (hd : d < 0) => absurd hd (Nat.not_lt_zero _)⟩
  exact ⟨m', q1, f1.trans q2, q3⟩
end
