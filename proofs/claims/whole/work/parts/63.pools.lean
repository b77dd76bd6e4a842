/-! Parts of a set: cells joined by ways within it. -/
noncomputable def zG.ml (a : zG) (W : Nat → Bool) (d : Nat) : Nat := z_cnt (fun e => @decide (∀ f, f ≤ e → ¬ zRch a W (z_one d) f) (Classical.propDecidable _)) 64
noncomputable def zG.cs (a : zG) (W : Nat → Bool) (c d : Nat) : Bool := @decide (zRch a W (z_one c) d) (Classical.propDecidable _)
theorem zG.cs_iff {a : zG} {W : Nat → Bool} {c d : Nat} : a.cs W c d = true ↔ zRch a W (z_one c) d := z_dec
section
variable {a : zG} {W : Nat → Bool}
theorem zG.cm_refl {c : Nat} (h : W c = true) : zRch a W (z_one c) c := zRch.base (z_one_iff.mpr rfl) h
theorem zG.ml_le (v : zGV a) (hW : ∀ c, W c = true → c < a.n) {d e : Nat} (h : zRch a W (z_one d) e) : a.ml W d ≤ e := by
  have hn := v.n64
  have he := hW e (zRch.inW h)
  have := z_cnt_down (p := fun e => @decide (∀ f, f ≤ e → ¬ zRch a W (z_one d) f) (Classical.propDecidable _)) (n := 64) (fun t q => z_dec.mpr fun f hf => z_dec.mp q f (by omega)) e (by omega)
  refine Nat.not_lt.mp fun w => ?_
  exact z_dec.mp (this.mpr w) e (Nat.le_refl _) h
theorem zG.ml_cm (v : zGV a) (hW : ∀ c, W c = true → c < a.n) {d : Nat} (h : W d = true) : zRch a W (z_one d) (a.ml W d) := by
  have hn := v.n64
  have hd := hW d h
  have h1 := zG.ml_le v hW (zG.cm_refl h)
  refine Classical.byContradiction fun hno => ?_
  have key : ∀ e, e < 64 → ((∀ f, f ≤ e → ¬ zRch a W (z_one d) f) ↔ e < a.ml W d) := fun e he => z_dec.symm.trans (z_cnt_down (p := fun e => @decide (∀ f, f ≤ e → ¬ zRch a W (z_one d) f) (Classical.propDecidable _)) (n := 64) (fun t q => z_dec.mpr fun f hf => z_dec.mp q f (by omega)) e he)
  have h2 := (key (a.ml W d) (by omega)).mp fun f hf hc => by
    have h3 := zG.ml_le v hW hc
    have : f = a.ml W d := by omega
    exact hno (this ▸ hc)
  omega
theorem zG.ml_eq (v : zGV a) (hW : ∀ c, W c = true → c < a.n) {c d : Nat} (h : zRch a W (z_one c) d) : a.ml W d = a.ml W c := by
  have hs := zRch.sym v hW h
  have h1 := zG.ml_le v hW (zRch.trans h (zG.ml_cm v hW (zRch.inW h)))
  have h2 := zG.ml_le v hW (zRch.trans hs (zG.ml_cm v hW (zRch.inW hs)))
  omega
theorem zG.ml_same (v : zGV a) (hW : ∀ c, W c = true → c < a.n) {c d : Nat} (hc : W c = true) (hd : W d = true) (h : a.ml W c = a.ml W d) : zRch a W (z_one c) d := by
  have h1 := zG.ml_cm v hW hc
  have h2 := zRch.sym v hW (zG.ml_cm v hW hd)
  rw [h] at h1
  exact zRch.trans h1 h2
/-- what is left of a set when the parts whose least cells lie before c were taken -/
theorem zG.left_reach (v : zGV a) (hW : ∀ c, W c = true → c < a.n) {L : Nat → Bool} {c k : Nat} (hL : ∀ d, L d = true ↔ W d = true ∧ k ≤ a.ml W d) (hc : L c = true) {d : Nat} : zRch a L (z_one c) d ↔ zRch a W (z_one c) d := by
  constructor
  · intro h
    exact h.mono (fun e he => ((hL e).mp he).1) fun e h1 h2 => zRch.base h1 ((hL e).mp h2).1
  · intro h
    refine (h (fun d => zRch a L (z_one c) d ∧ zRch a W (z_one c) d) (fun e h1 h2 => ?_) fun e i f h1 h2 h3 => ?_).1
    · rw [z_one_iff.mp h1] at h2 ⊢
      exact ⟨zG.cm_refl hc, zG.cm_refl h2⟩
    · have h4 := h1.2.step h2 h3
      refine ⟨h1.1.step h2 ((hL f).mpr ⟨h3, ?_⟩), h4⟩
      rw [zG.ml_eq v hW h4]
      exact ((hL c).mp hc).2
/-! Pools. -/
noncomputable def zG.pc (a : zG) (t d : Nat) : Bool := a.lo t d && !(@decide (zRch a (a.lo t) a.ou d) (Classical.propDecidable _))
theorem zG.pc_iff {t d : Nat} : a.pc t d = true ↔ a.lo t d = true ∧ ¬ zRch a (a.lo t) a.ou d := by
  unfold zG.pc
  rw [Bool.and_eq_true, Bool.not_eq_true']
  constructor
  · rintro ⟨h1, h2⟩
    refine ⟨h1, fun h => ?_⟩
    rw [z_dec.mpr h] at h2
    cases h2
  · rintro ⟨h1, h2⟩
    refine ⟨h1, ?_⟩
    cases w : @decide (zRch a (a.lo t) a.ou d) (Classical.propDecidable _) with
    | false => rfl
    | true => exact absurd (z_dec.mp w) h2
theorem zG.lo_n {t d : Nat} (h : a.lo t d = true) : d < a.n := (zG.lo_iff.mp h).1
theorem zG.pc_n {t d : Nat} (h : a.pc t d = true) : d < a.n := zG.lo_n (zG.pc_iff.mp h).1
theorem zG.rg0 (t : Nat) : a.rg 0 t = a.lo t := by
  funext d
  unfold zG.rg zG.lo
  simp
theorem zG.pool_iff (v : zGV a) {t c : Nat} (h : a.lo t c = true) : a.pc t c = true ↔ ∀ d, zRch a (a.lo t) (z_one c) d → a.ou d = false := by
  rw [zG.pc_iff]
  constructor
  · rintro ⟨_, h2⟩ d hd
    cases w : a.ou d with
    | false => rfl
    | true =>
      refine absurd ?_ h2
      have hs := zRch.sym v (fun _ => zG.lo_n) hd
      exact hs.mono (fun _ q => q) fun e h3 h4 => by
        rw [z_one_iff] at h3
        subst h3
        exact zRch.base w h4
  · intro h2
    refine ⟨h, fun h3 => ?_⟩
    have : ∃ o, a.ou o = true ∧ zRch a (a.lo t) (z_one o) c := by
      refine h3 (fun e => ∃ o, a.ou o = true ∧ zRch a (a.lo t) (z_one o) e) (fun e h4 h5 => ⟨e, h4, zG.cm_refl h5⟩) fun e i f h4 h5 h6 => ?_
      obtain ⟨o, h7, h8⟩ := h4
      exact ⟨o, h7, h8.step h5 h6⟩
    obtain ⟨o, h4, h5⟩ := this
    have := h2 o (zRch.sym v (fun _ => zG.lo_n) h5)
    rw [h4] at this
    cases this
theorem zG.pc_cm (v : zGV a) {t c d : Nat} (hc : a.pc t c = true) (h : zRch a (a.lo t) (z_one c) d) : a.pc t d = true := by
  have h1 := (zG.pool_iff v (zG.pc_iff.mp hc).1).mp hc
  exact (zG.pool_iff v (zRch.inW h)).mpr fun e he => h1 e (zRch.trans h he)
/-- ways among pool cells are ways among low cells -/
theorem zG.pc_reach (v : zGV a) {t c d : Nat} (hc : a.pc t c = true) : zRch a (a.pc t) (z_one c) d ↔ zRch a (a.lo t) (z_one c) d := by
  constructor
  · exact fun h => h.mono (fun e he => (zG.pc_iff.mp he).1) fun e h1 h2 => zRch.base h1 (zG.pc_iff.mp h2).1
  · intro h
    refine (h (fun d => zRch a (a.pc t) (z_one c) d ∧ zRch a (a.lo t) (z_one c) d) (fun e h1 h2 => ?_) fun e i f h1 h2 h3 => ?_).1
    · rw [z_one_iff.mp h1] at h2 ⊢
      exact ⟨zG.cm_refl hc, zG.cm_refl h2⟩
    · have h4 := h1.2.step h2 h3
      exact ⟨h1.1.step h2 (zG.pc_cm v hc h4), h4⟩
theorem s_pools (v : zGV a) {m : zM} {g : Nat} (r : zGR m g a) {t : Nat} (ht : t ≤ 99) : ∃ S, f_X4_poolCells g (Int32.ofNat t) m = some S ∧ ∀ d, zb S d = a.pc t d := by
  have n64 := v.n64
  unfold f_X4_poolCells
  obtain ⟨A, h1, h2⟩ := s_atMost v r ht
  rw [h1, Option.bind_some]
  have hA : zb A = a.lo t := by
    funext d
    by_cases w : d < 64
    · rw [h2 d w]; rfl
    · rw [zb_big _ (by omega)]
      cases q : a.lo t d with
      | false => rfl
      | true => have := zG.lo_n q; omega
  have hO : ∀ d, zb (m.2.1 6 g 3) d = a.ou d := fun d => by
    by_cases w : d < 64
    · exact r.ou d w
    · rw [zb_big _ (by omega)]
      cases q : a.ou d with
      | false => rfl
      | true => have := v.ob d q; omega
  obtain ⟨Z, h3, h4⟩ := s_reachable v r (S := m.2.1 6 g 3) (W := A) fun c _ q => by rw [hA] at q; exact zG.lo_n q
  rw [h3, Option.bind_some]
  refine ⟨_, rfl, fun d => ?_⟩
  rw [hA, show zb (m.2.1 6 g 3) = a.ou from funext hO] at h4
  rw [zb_and]
  by_cases w : d < 64
  · rw [zb_not _ w, hA]
    unfold zG.pc
    congr 2
    rw [Bool.eq_iff_iff, h4 d]
    exact z_dec.symm
  · rw [zb_big A (by omega), Bool.false_and]
    cases q : a.pc t d with
    | false => rfl
    | true => have := zG.pc_n q; omega
end
/-! Depressions: number, first and last numbers, parents, first and last pools. -/
abbrev zDS : Type := Nat × (Nat → Nat) × (Nat → Nat) × (Nat → Option Nat) × (Nat → Nat → Bool) × (Nat → Nat → Bool)
def zDS.k (D : zDS) : Nat := D.1
def zDS.f (D : zDS) : Nat → Nat := D.2.1
def zDS.l (D : zDS) : Nat → Nat := D.2.2.1
def zDS.p (D : zDS) : Nat → Option Nat := D.2.2.2.1
def zDS.u (D : zDS) : Nat → Nat → Bool := D.2.2.2.2.1
def zDS.t (D : zDS) : Nat → Nat → Bool := D.2.2.2.2.2
/-- a depression whose last pool has the number before, and meets a set -/
def zDS.w (D : zDS) (S : Nat → Bool) (t d : Nat) : Bool := decide (D.l d + 1 = t) && decide (0 < z_cnt (fun x => D.t d x && S x) 64)
def zDS.put (D : zDS) (S : Nat → Bool) (t : Nat) : zDS :=
  if z_cnt (D.w S t) D.k = 1 then (D.k, D.f, fun d => if d = zfst (D.w S t) D.k then t else D.l d, D.p, D.u, fun d => if d = zfst (D.w S t) D.k then S else D.t d)
  else (D.k + 1, fun d => if d = D.k then t else D.f d, fun d => if d = D.k then t else D.l d, fun d => if d = D.k then none else if D.w S t d = true then some D.k else D.p d, fun d => if d = D.k then S else D.u d, fun d => if d = D.k then S else D.t d)
/-- how rows hold depressions -/
def zDr (D : zDS) (ri li : Nat) (m : zM) : Prop := D.k ≤ 128 ∧ ∀ d, d < D.k → m.1 21 ri d = Int32.ofNat (D.f d) ∧ m.1 21 (ri + 1) d = Int32.ofNat (D.l d) ∧ D.l d ≤ 99 ∧ m.1 21 (ri + 2) d = zo (D.p d) ∧ (∀ x, zb (m.2.1 31 li d) x = D.u d x) ∧ ∀ x, zb (m.2.1 31 (li + 1) d) x = D.t d x
section
variable {D : zDS} {m : zM}
theorem zl_21 : z_alen 21 = 128 := rfl
theorem zl_31 : z_alen 31 = 128 := rfl
theorem z_meet (x y : Int64) : ¬ lg_cmp (x &&& y) 0 = 0 ↔ 0 < z_cnt (fun c => zb x c && zb y c) 64 := by
  rw [zb_lc]
  constructor
  · intro h
    refine Nat.pos_of_ne_zero fun q => h (zb_ext fun c hc => ?_)
    rw [zb_and, zb_0]
    exact z_cnt_0.mp q c hc
  · intro h e
    obtain ⟨c, hc, q⟩ := z_cnt_pos.mp h
    have := congrArg (fun z => zb z c) e
    simp only [zb_and, zb_0] at this
    rw [this] at q
    cases q
theorem s_isWithin {S : Nat → Bool} (h : zDr D 0 0 m) {x : Int64} (hx : ∀ c, zb x c = S c) {t d : Nat} (ht : t ≤ 99) (hd : d < D.k) : f_X1_isWithin (Int32.ofNat d) x (Int32.ofNat t) m = some (D.w S t d) := by
  obtain ⟨_, q2, q3, _, _, q6⟩ := h.2 d hd
  have hk := h.1
  unfold f_X1_isWithin zDS.w
  rw [s_at' 21 1 (by rw [zl_21]; omega), Option.bind_some, q2]
  by_cases w : D.l d + 1 = t
  · have e : Int32.ofNat t - 1 = Int32.ofNat (D.l d) := by rw [← w]; exact zi_q (by omega)
    rw [if_pos e.symm, s_al 31 1 (by rw [zl_31]; omega), Option.bind_some]
    have hm := z_meet (m.2.1 31 1 d) x
    simp only [q6, hx] at hm
    by_cases w2 : 0 < z_cnt (fun x => D.t d x && S x) 64
    · rw [if_neg (hm.mpr w2)]
      simp [w, w2]
    · rw [if_pos (Classical.byContradiction fun y => w2 (hm.mp y))]
      simp [w2]
  · have e : ¬ Int32.ofNat (D.l d) = Int32.ofNat t - 1 := fun q => by
      by_cases t0 : t = 0
      · rw [t0] at q
        exact zi_m1 (k := D.l d) (by omega) q
      · rw [zi_q (by omega), zi_eq (by omega) (by omega)] at q
        omega
    rw [if_neg e]
    simp [w]
abbrev zPde (k i j : Nat) : Prop := (k = 21 ∧ i ≤ 2) ∨ (k = 31 ∧ i ≤ 1) ∨ (k = 3 ∧ i = 0 ∧ j = 0)
theorem zo_lt {D : zDS} {ri li : Nat} (h : zDr D ri li m) : D.k ≤ 128 := h.1
theorem s_place_84 {S : Nat → Bool} {x : Int64} (hx : ∀ c, zb x c = S c) {t : Nat} (ht : t ≤ 99) (hk : D.k < 128) (h1 : z_cnt (D.w S t) D.k ≠ 1) : ∀ (j d : Nat) (m : zM), d ≤ D.k → D.k - d < j → m.1 3 0 0 = Int32.ofNat D.k → zDr (D.1, D.2.1, D.2.2.1, (fun e => if e < d ∧ D.w S t e = true then some D.k else D.p e), D.2.2.2.2) 0 0 m →
    ∃ m', f_X1_place_84 j x (Int32.ofNat t) (Int32.ofNat d) m = some m' ∧ zFr zPde m m' ∧ m'.1 3 0 0 = Int32.ofNat (D.put S t).k ∧ zDr (D.put S t) 0 0 m'
  | 0, _, _, _, h, _, _ => absurd h (Nat.not_lt_zero _)
  | j + 1, d, m, hd, hj, hn, hr => by
    unfold f_X1_place_84
    rw [hn]
    by_cases he : d = D.k
    · subst he
      rw [if_pos (by rw [zi_le (by omega) (by omega)]; omega)]
      unfold f_X1_begin
      have n1 : ∀ (i : Nat) (u : Int32) (m : zM), m.1 3 0 0 = Int32.ofNat D.k → f_X7_put 21 i (m.1 3 0 0) u m = some (z_sI m 21 i D.k u) ∧ (z_sI m 21 i D.k u).1 3 0 0 = Int32.ofNat D.k := fun i u m h => ⟨by rw [h]; exact s_put 21 i (by rw [zl_21]; exact hk) u m, by rw [zm_ot _ _ _ _ (by omega)]; exact h⟩
      have n2 : ∀ (i : Nat) (u : Int64) (m : zM), m.1 3 0 0 = Int32.ofNat D.k → f_X7_put_ 31 i (m.1 3 0 0) u m = some (z_sL m 31 i D.k u) ∧ (z_sL m 31 i D.k u).1 3 0 0 = Int32.ofNat D.k := fun i u m h => ⟨by rw [h]; exact s_putl 31 i (by rw [zl_31]; exact hk) u m, by rw [zm_LI]; exact h⟩
      obtain ⟨a1, b1⟩ := n1 0 (Int32.ofNat t) m hn
      rw [a1, Option.bind_some]
      obtain ⟨a2, b2⟩ := n1 1 (Int32.ofNat t) _ b1
      rw [a2, Option.bind_some]
      obtain ⟨a3, b3⟩ := n1 2 (-1) _ b2
      rw [a3, Option.bind_some]
      obtain ⟨a4, b4⟩ := n2 0 x _ b3
      rw [a4, Option.bind_some]
      obtain ⟨a5, b5⟩ := n2 1 x _ b4
      rw [a5, Option.bind_some, Option.bind_some, b5, zi_s]
      have f1 : zFr zPde m (z_sI (z_sL (z_sL (z_sI (z_sI (z_sI m 21 0 D.k (Int32.ofNat t)) 21 1 D.k (Int32.ofNat t)) 21 2 D.k (-1)) 31 0 D.k x) 31 1 D.k x) 3 0 0 (Int32.ofNat (D.k + 1))) :=
        zFr.sI (zFr.sL (zFr.sL (zFr.sI (zFr.sI (zFr.sI (zFr.refl m) _ (.inl ⟨rfl, by omega⟩)) _ (.inl ⟨rfl, by omega⟩)) _ (.inl ⟨rfl, by omega⟩)) _ (.inr (.inl ⟨rfl, by omega⟩))) _ (.inr (.inl ⟨rfl, by omega⟩))) _ (.inr (.inr ⟨rfl, rfl, rfl⟩))
      have e : D.put S t = (D.k + 1, (fun d => if d = D.k then t else D.f d), (fun d => if d = D.k then t else D.l d), (fun d => if d = D.k then none else if D.w S t d = true then some D.k else D.p d), (fun d => if d = D.k then S else D.u d), fun d => if d = D.k then S else D.t d) := by
        unfold zDS.put
        rw [if_neg h1]
      refine ⟨_, rfl, f1, by rw [zm_row, if_pos rfl, e]; rfl, ?_⟩
      rw [e]
      refine ⟨by show D.k + 1 ≤ 128; omega, fun d (hd : d < D.k + 1) => ?_⟩
      rw [zm_ot _ _ _ _ (by omega), zm_ot _ _ _ _ (by omega), zm_ot _ _ _ _ (by omega), zm_LI, zm_LI]
      rw [zm_ot _ _ _ _ (by omega), zm_ot _ _ _ _ (by omega), zm_row, zm_ot _ _ _ _ (by omega), zm_row, zm_row]
      rw [zm_IL, zm_L, zm_L, zm_L, zm_L, zm_IL, zm_IL, zm_IL]
      show (if d = D.k then Int32.ofNat t else _) = Int32.ofNat (if d = D.k then t else D.f d) ∧ (if d = D.k then Int32.ofNat t else _) = Int32.ofNat (if d = D.k then t else D.l d) ∧ (if d = D.k then t else D.l d) ≤ 99 ∧ (if d = D.k then (-1 : Int32) else _) = zo (if d = D.k then none else if D.w S t d = true then some D.k else D.p d) ∧ (∀ y, _ = (if d = D.k then S else D.u d) y) ∧ ∀ y, _ = (if d = D.k then S else D.t d) y
      by_cases z : d = D.k
      · rw [if_pos z, if_pos z, if_pos z, if_pos z, if_pos z, if_pos z, if_pos z, if_pos z]
        refine ⟨rfl, rfl, ht, rfl, fun y => ?_, fun y => ?_⟩
        · rw [if_neg (by omega), if_pos ⟨rfl, rfl, z⟩]; exact hx y
        · rw [if_pos ⟨rfl, rfl, z⟩]; exact hx y
      · rw [if_neg z, if_neg z, if_neg z, if_neg z, if_neg z, if_neg z, if_neg z, if_neg z]
        have hd' : d < D.k := by omega
        obtain ⟨q1, q2, q3, q4, q5, q6⟩ := hr.2 d hd'
        refine ⟨q1, by rw [zm_ot _ _ _ _ (by omega)]; exact q2, q3, ?_, fun y => ?_, fun y => ?_⟩
        · rw [zm_ot _ _ _ _ (by omega), zm_ot _ _ _ _ (by omega)]
          refine q4.trans ?_
          show zo (if d < D.k ∧ D.w S t d = true then some D.k else D.p d) = _
          simp only [hd', true_and]
        · rw [if_neg (by omega), if_neg (fun w => z w.2.2)]; exact q5 y
        · rw [if_neg (fun w => z w.2.2), if_neg (by omega)]; exact q6 y
    · have hdk : d < D.k := by omega
      have hj2 : D.k - (d + 1) < j := by omega
      have hw := s_isWithin hr hx (t := t) ht (d := d) hdk
      rw [show zDS.w (D.1, D.2.1, D.2.2.1, (fun e => if e < d ∧ D.w S t e = true then some D.k else D.p e), D.2.2.2.2) S t d = D.w S t d from rfl] at hw
      rw [if_neg (by rw [zi_le (by omega) (by omega)]; omega), hw, Option.bind_some, zi_s]
      cases hq : D.w S t d with
      | false =>
        rw [if_pos (by decide)]
        refine s_place_84 hx ht hk h1 j (d + 1) m hdk hj2 hn ⟨hr.1, fun e he => ?_⟩
        obtain ⟨q1, q2, q3, q4, q5⟩ := hr.2 e he
        refine ⟨q1, q2, q3, ?_, q5⟩
        rw [q4]
        show zo (if e < d ∧ D.w S t e = true then some D.k else D.p e) = zo (if e < d + 1 ∧ D.w S t e = true then some D.k else D.p e)
        by_cases z : e = d
        · rw [z, hq]; simp
        · have : e < d ↔ e < d + 1 := by omega
          simp only [this]
      | true =>
        rw [if_neg (by decide), s_put 21 2 (by rw [zl_21]; omega), Option.bind_some]
        have f1 : zFr zPde m (z_sI m 21 2 d (Int32.ofNat D.k)) := zFr.sI (zFr.refl m) _ (.inl ⟨rfl, by omega⟩)
        obtain ⟨m', p1, p2, p3⟩ := s_place_84 hx ht hk h1 j (d + 1) (z_sI m 21 2 d (Int32.ofNat D.k)) hdk hj2 (by rw [zm_ot _ _ _ _ (by omega)]; exact hn) ⟨hr.1, fun e he => by
          obtain ⟨q1, q2, q3, q4, q5, q6⟩ := hr.2 e he
          refine ⟨by rw [zm_ot _ _ _ _ (by omega)]; exact q1, by rw [zm_ot _ _ _ _ (by omega)]; exact q2, q3, ?_, by rw [zm_IL]; exact q5, by rw [zm_IL]; exact q6⟩
          rw [zm_row]
          show _ = zo (if e < d + 1 ∧ D.w S t e = true then some D.k else D.p e)
          by_cases z : e = d
          · rw [if_pos z, z, hq, if_pos ⟨by omega, rfl⟩]; rfl
          · rw [if_neg z, q4]
            show zo (if e < d ∧ D.w S t e = true then some D.k else D.p e) = _
            have : e < d ↔ e < d + 1 := by omega
            simp only [this]⟩
        exact ⟨m', p1, f1.trans p2, p3⟩
theorem s_place_9 {S : Nat → Bool} {x : Int64} (hx : ∀ c, zb x c = S c) {t : Nat} (ht : t ≤ 99) (hk : D.k < 128) : ∀ (j d : Nat) (y : Int32) (m : zM), d ≤ D.k → D.k - d < j → m.1 3 0 0 = Int32.ofNat D.k → zDr D 0 0 m → (0 < z_cnt (D.w S t) d → y = Int32.ofNat (zfst (D.w S t) d)) →
    ∃ m', f_X1_place_9 j x (Int32.ofNat t) (Int32.ofNat (z_cnt (D.w S t) d)) y (Int32.ofNat d) m = some m' ∧ zFr zPde m m' ∧ m'.1 3 0 0 = Int32.ofNat (D.put S t).k ∧ zDr (D.put S t) 0 0 m'
  | 0, _, _, _, _, h, _, _, _ => absurd h (Nat.not_lt_zero _)
  | j + 1, d, y, m, hd, hj, hn, hr, hy => by
    have hcl := z_cnt_le (D.w S t) d
    unfold f_X1_place_9
    rw [hn]
    by_cases he : d = D.k
    · subst he
      rw [if_pos (by rw [zi_le (by omega) (by omega)]; omega)]
      by_cases w : z_cnt (D.w S t) D.k = 1
      · obtain ⟨e, e1, e2⟩ := z_cnt_pos.mp (show 0 < z_cnt (D.w S t) D.k by omega)
        have e3 := zfst_eq w e1 e2
        rw [if_pos (by rw [w]; rfl), hy (by omega), e3, s_put 21 1 (by rw [zl_21]; omega), Option.bind_some, s_putl 31 1 (by rw [zl_31]; omega), Option.bind_some]
        have ep : D.put S t = (D.k, D.f, (fun d => if d = e then t else D.l d), D.p, D.u, fun d => if d = e then S else D.t d) := by
          unfold zDS.put
          rw [if_pos w, e3]
        have f1 : zFr zPde m (z_sL (z_sI m 21 1 e (Int32.ofNat t)) 31 1 e x) := zFr.sL (zFr.sI (zFr.refl m) _ (.inl ⟨rfl, by omega⟩)) _ (.inr (.inl ⟨rfl, by omega⟩))
        refine ⟨_, rfl, f1, by rw [zm_LI, zm_ot _ _ _ _ (by omega), ep]; exact hn, ?_⟩
        rw [ep]
        refine ⟨hr.1, fun d (hd : d < D.k) => ?_⟩
        obtain ⟨q1, q2, q3, q4, q5, q6⟩ := hr.2 d hd
        rw [zm_LI, zm_ot _ _ _ _ (by omega), zm_row, zm_ot _ _ _ _ (by omega), zm_L, zm_L, zm_IL]
        show _ ∧ _ = Int32.ofNat (if d = e then t else D.l d) ∧ (if d = e then t else D.l d) ≤ 99 ∧ _ ∧ _ ∧ ∀ y, _ = (if d = e then S else D.t d) y
        by_cases z : d = e
        · rw [if_pos z, if_pos z, if_pos z]
          refine ⟨q1, rfl, ht, q4, fun y => ?_, fun y => ?_⟩
          · rw [if_neg (by omega)]; exact q5 y
          · rw [if_pos ⟨rfl, rfl, z⟩]; exact hx y
        · rw [if_neg z, if_neg z, if_neg z]
          refine ⟨q1, q2, q3, q4, fun y => ?_, fun y => ?_⟩
          · rw [if_neg (by omega)]; exact q5 y
          · rw [if_neg (fun w => z w.2.2)]; exact q6 y
      · rw [if_neg (by rw [show (1 : Int32) = Int32.ofNat 1 from rfl, zi_eq (by omega) (by omega)]; exact w), if_neg (by rw [show (128 : Int32) = Int32.ofNat 128 from rfl, zi_le (by omega) (by omega)]; omega)]
        refine s_place_84 hx ht hk w zF 0 m (Nat.zero_le _) (zF_lt (by omega)) hn ?_
        refine ⟨hr.1, fun e he => ?_⟩
        obtain ⟨q1, q2, q3, q4, q5⟩ := hr.2 e he
        refine ⟨q1, q2, q3, ?_, q5⟩
        rw [q4]
        show _ = zo (if e < 0 ∧ D.w S t e = true then some D.k else D.p e)
        rw [if_neg (fun w => Nat.not_lt_zero _ w.1)]
    · have hdk : d < D.k := by omega
      have hj2 : D.k - (d + 1) < j := by omega
      rw [if_neg (by rw [zi_le (by omega) (by omega)]; omega), s_isWithin hr hx ht hdk, Option.bind_some, zi_s, zi_s]
      have cs : z_cnt (D.w S t) (d + 1) = z_cnt (D.w S t) d + if D.w S t d = true then 1 else 0 := rfl
      have zs : zfst (D.w S t) (d + 1) = if D.w S t d = true then d else zfst (D.w S t) d := rfl
      have ih := fun y h => s_place_9 hx ht hk j (d + 1) y m hdk hj2 hn hr h
      cases hq : D.w S t d with
      | false =>
        rw [if_pos (by decide)]
        rw [cs, zs, hq] at ih
        exact ih y hy
      | true =>
        rw [if_neg (by decide)]
        rw [cs, zs, hq] at ih
        exact ih _ fun _ => rfl
theorem s_place {S : Nat → Bool} {x : Int64} (hx : ∀ c, zb x c = S c) {t : Nat} (ht : t ≤ 99) (hk : D.k < 128) (hn : m.1 3 0 0 = Int32.ofNat D.k) (hr : zDr D 0 0 m) : ∃ m', f_X1_place x (Int32.ofNat t) m = some m' ∧ zFr zPde m m' ∧ m'.1 3 0 0 = Int32.ofNat (D.put S t).k ∧ zDr (D.put S t) 0 0 m' :=
  s_place_9 hx ht hk zF 0 _ m (Nat.zero_le _) (zF_lt (by omega)) hn hr fun w => absurd w (Nat.lt_irrefl _)
end
