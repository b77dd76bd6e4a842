/-! How depressions grow: what always holds of them. -/
noncomputable def zG.lead (a : zG) (t c : Nat) : Bool := a.pc t c && decide (a.ml (a.lo t) c = c)
noncomputable def zG.dst (a : zG) (t c : Nat) (D : zDS) : zDS := if a.lead t c = true then D.put (a.cs (a.lo t) c) t else D
noncomputable def zG.dpl (a : zG) (t : Nat) : Nat → zDS → zDS
  | 0, D => D
  | c + 1, D => a.dst t c (a.dpl t c D)
def zD0 : zDS := (0, fun _ => 0, fun _ => 0, fun _ => none, fun _ _ => false, fun _ _ => false)
noncomputable def zG.dp (a : zG) : Nat → zDS
  | 0 => zD0
  | t + 1 => a.dpl t a.n (a.dp t)
def zDS.vv (D : zDS) (t d : Nat) : Bool := decide (D.p d = none) && (decide (D.l d = t) || decide (D.l d + 1 = t))
def zDS.uu (D : zDS) (y : Nat) : Bool := decide (0 < z_cnt (fun d => D.t d y) D.k)
theorem zDS.uu_iff {D : zDS} {y : Nat} : D.uu y = true ↔ ∃ d, d < D.k ∧ D.t d y = true := by
  unfold zDS.uu
  rw [decide_eq_true_eq, z_cnt_pos]
def zDv (a : zG) (t c : Nat) (D : zDS) : Prop :=
  (∀ d, d < D.k → D.f d ≤ D.l d ∧ D.l d ≤ t ∧ ∃ x, a.pc (D.l d) x = true ∧ (∀ y, D.t d y = a.cs (a.lo (D.l d)) x y) ∧ (D.l d = t → a.ml (a.lo t) x < c)) ∧
  ((∀ s y, s + 1 = t → a.pc s y = true → ∃ d, d < D.k ∧ D.t d y = true ∧ (D.l d + 1 = t ∨ D.l d = t)) ∧ ∀ y, a.pc t y = true → a.ml (a.lo t) y < c → ∃ d, d < D.k ∧ D.t d y = true ∧ D.l d = t) ∧
  (∀ d e, d < D.k → D.p d = some e → d < e ∧ e < D.k ∧ D.l d + 1 ≤ t ∧ (D.l d + 1 = t → D.l e = t ∧ ∀ y, D.t d y = true → D.t e y = true)) ∧
  (D.k + z_cnt (D.vv t) D.k ≤ 2 * z_cnt D.uu 64) ∧
  (∀ d, d < D.k → (∀ y, D.u d y = true → D.t d y = true) ∧ ∃ x, a.pc (D.f d) x = true ∧ ∀ y, D.u d y = a.cs (a.lo (D.f d)) x y) ∧
  ∀ d, d < D.k → ∀ s, D.f d ≤ s → s ≤ D.l d → ∀ y, a.pc s y = true → D.t d y = true → ∀ x, D.u d x = true → zRch a (a.lo s) (z_one y) x
section
variable {a : zG} {D : zDS} {t c : Nat}
theorem zG.lead_iff : a.lead t c = true ↔ a.pc t c = true ∧ a.ml (a.lo t) c = c := by
  unfold zG.lead
  rw [Bool.and_eq_true, decide_eq_true_eq]
theorem zG.cm_up {s x y z : Nat} (h : s ≤ t) (h1 : zRch a (a.lo s) (z_one x) y) (v : zGV a) (h2 : zRch a (a.lo t) (z_one c) y) (h3 : zRch a (a.lo s) (z_one x) z) : zRch a (a.lo t) (z_one c) z := by
  have up : ∀ {p q}, zRch a (a.lo s) (z_one p) q → zRch a (a.lo t) (z_one p) q := fun {p q} w => w.mono (fun e he => zG.lo_mono h he) fun e q1 q2 => zRch.base q1 (zG.lo_mono h q2)
  exact zRch.trans h2 (zRch.trans (zRch.sym v (fun _ => zG.lo_n) (up h1)) (up h3))
theorem zG.pc_low (v : zGV a) {s y : Nat} (h : s ≤ t) (h1 : a.pc t y = true) (h2 : a.lo s y = true) : a.pc s y = true := by
  have h3 := (zG.pool_iff v (zG.pc_iff.mp h1).1).mp h1
  refine (zG.pool_iff v h2).mpr fun d hd => h3 d ?_
  exact hd.mono (fun e he => zG.lo_mono h he) fun e q1 q2 => zRch.base q1 (zG.lo_mono h q2)
theorem zDv.meet (v : zGV a) (h : zDv a t c D) (hc : a.lead t c = true) {d y : Nat} (hd : d < D.k) (h1 : D.t d y = true) (h2 : a.cs (a.lo t) c y = true) : D.l d < t := by
  obtain ⟨_, q2, x, q3, q4, q5⟩ := h.1 d hd
  refine Nat.lt_of_le_of_ne q2 fun w => ?_
  have h3 := q5 w
  rw [q4, w, zG.cs_iff] at h1
  rw [zG.cs_iff] at h2
  have e1 := zG.ml_eq (W := a.lo t) v (fun _ => zG.lo_n) h1
  have e2 := zG.ml_eq (W := a.lo t) v (fun _ => zG.lo_n) h2
  have e3 := (zG.lead_iff.mp hc).2
  omega
theorem zDv.hit (v : zGV a) (h : zDv a t c D) (hc : a.lead t c = true) {y : Nat} (h2 : a.cs (a.lo t) c y = true) {s : Nat} (hs : s < t) (h3 : a.lo s y = true) : ∃ d, d < D.k ∧ D.w (a.cs (a.lo t) c) t d = true ∧ D.t d y = true := by
  have hcp := (zG.lead_iff.mp hc).1
  have hp := zG.pc_cm v hcp (zG.cs_iff.mp h2)
  have hq := zG.pc_low v (show t - 1 ≤ t by omega) hp (zG.lo_mono (show s ≤ t - 1 by omega) h3)
  obtain ⟨d, d1, d2, d3⟩ := h.2.1.1 (t - 1) y (by omega) hq
  have d4 := h.meet v hc d1 d2 h2
  have yn : y < 64 := by have := zG.pc_n hp; have := v.n64; omega
  refine ⟨d, d1, ?_, d2⟩
  unfold zDS.w
  rw [Bool.and_eq_true, decide_eq_true_eq, decide_eq_true_eq]
  exact ⟨by omega, z_cnt_pos.mpr ⟨y, yn, by simp [d2, h2]⟩⟩
theorem zDS.w_iff {S : Nat → Bool} {d : Nat} : D.w S t d = true ↔ D.l d + 1 = t ∧ ∃ y, y < 64 ∧ D.t d y = true ∧ S y = true := by
  unfold zDS.w
  rw [Bool.and_eq_true, decide_eq_true_eq, decide_eq_true_eq, z_cnt_pos]
  simp only [Bool.and_eq_true]
theorem zDv.sub (v : zGV a) (h : zDv a t c D) {d : Nat} (hd : d < D.k) (hw : D.w (a.cs (a.lo t) c) t d = true) : ∀ y, D.t d y = true → a.cs (a.lo t) c y = true := fun y hy => by
  obtain ⟨w1, z, _, w3, w4⟩ := zDS.w_iff.mp hw
  obtain ⟨_, _, x, q3, q4, q5⟩ := h.1 d hd
  rw [q4, zG.cs_iff] at w3 hy
  rw [zG.cs_iff] at w4 ⊢
  exact zG.cm_up (by omega) w3 v w4 hy
theorem zDv.wp (v : zGV a) (h : zDv a t c D) (hc : a.lead t c = true) {d : Nat} (hd : d < D.k) (hw : D.w (a.cs (a.lo t) c) t d = true) : D.p d = none := by
  cases hp : D.p d with
  | none => rfl
  | some e =>
    obtain ⟨_, q2, _, q4⟩ := h.2.2.1 d e hd hp
    obtain ⟨w1, z, _, w3, w4⟩ := zDS.w_iff.mp hw
    obtain ⟨q5, q6⟩ := q4 w1
    have := h.meet v hc q2 (q6 z w3) w4
    omega
theorem zDv.skip (v : zGV a) (h : zDv a t c D) (hc : a.lead t c = false) : zDv a t (c + 1) D := by
  refine ⟨fun d hd => ?_, ⟨h.2.1.1, fun y h1 h2 => ?_⟩, h.2.2⟩
  · obtain ⟨q1, q2, x, q3, q4, q5⟩ := h.1 d hd
    exact ⟨q1, q2, x, q3, q4, fun w => by have := q5 w; omega⟩
  · refine h.2.1.2 y h1 ?_
    refine Nat.lt_of_le_of_ne (by omega) fun w => ?_
    have h3 := zG.ml_cm (W := a.lo t) v (fun _ => zG.lo_n) (zG.pc_iff.mp h1).1
    rw [w] at h3
    have h4 := zG.ml_eq (W := a.lo t) v (fun _ => zG.lo_n) h3
    have : a.lead t c = true := zG.lead_iff.mpr ⟨zG.pc_cm v h1 h3, by omega⟩
    rw [hc] at this
    cases this
theorem zDv.next (h : zDv a t a.n D) (v : zGV a) : zDv a (t + 1) 0 D := by
  refine ⟨fun d hd => ?_, ⟨fun s y h1 h2 => ?_, fun y h1 h2 => absurd h2 (Nat.not_lt_zero _)⟩, fun d e hd he => ?_, ?_, h.2.2.2.2.1, h.2.2.2.2.2⟩
  · obtain ⟨q1, q2, x, q3, q4, q5⟩ := h.1 d hd
    exact ⟨q1, by omega, x, q3, q4, fun w => by omega⟩
  · have : s = t := by omega
    subst this
    have hm := zG.ml_cm v (fun _ => zG.lo_n) (zG.pc_iff.mp h2).1
    obtain ⟨d, d1, d2, d3⟩ := h.2.1.2 y h2 (zG.lo_n (zRch.inW hm))
    exact ⟨d, d1, d2, .inl (by omega)⟩
  · obtain ⟨q1, q2, q3, _⟩ := h.2.2.1 d e hd he
    exact ⟨q1, q2, by omega, fun w => by omega⟩
  · refine Nat.le_trans (Nat.add_le_add_left (z_cnt_mono fun d hd => ?_) _) h.2.2.2.1
    have := (h.1 d hd).2.1
    unfold zDS.vv
    simp only [Bool.and_eq_true, Bool.or_eq_true, decide_eq_true_eq]
    rintro ⟨w1, w2⟩
    exact ⟨w1, by omega⟩
theorem z_cnt_sub {p q : Nat → Bool} : ∀ {n : Nat}, (∀ c, c < n → q c = true → p c = true) → z_cnt (fun c => p c && !(q c)) n + z_cnt q n = z_cnt p n
  | 0, _ => rfl
  | n + 1, h => by
    have ih := z_cnt_sub (n := n) fun c hc => h c (by omega)
    have h2 := h n (by omega)
    unfold z_cnt
    cases hq : q n with
    | false => simp; omega
    | true => simp [h2 hq]; omega
theorem zDv.put (v : zGV a) (h : zDv a t c D) (hc : a.lead t c = true) : zDv a t (c + 1) (D.put (a.cs (a.lo t) c) t) ∧ D.k < 128 := by
  have n64 := v.n64
  have hcp := (zG.lead_iff.mp hc).1
  have hcm := (zG.lead_iff.mp hc).2
  have hcn := zG.pc_n hcp
  have hself : a.cs (a.lo t) c c = true := zG.cs_iff.mpr (zG.cm_refl (zG.pc_iff.mp hcp).1)
  have inS : ∀ y, a.pc t y = true → a.ml (a.lo t) y = c → a.cs (a.lo t) c y = true := fun y h1 h2 => zG.cs_iff.mpr (zG.ml_same (W := a.lo t) v (fun _ => zG.lo_n) (zG.pc_iff.mp hcp).1 (zG.pc_iff.mp h1).1 (by omega))
  have ub : ∀ D : zDS, z_cnt D.uu 64 ≤ 64 := fun D => z_cnt_le _ _
  have inV : ∀ d, d < D.k → D.w (a.cs (a.lo t) c) t d = true → D.vv t d = true := fun d h1 h2 => by
    unfold zDS.vv
    rw [h.wp v hc h1 h2]
    simp [(zDS.w_iff.mp h2).1]
  by_cases w : z_cnt (D.w (a.cs (a.lo t) c) t) D.k = 1
  · obtain ⟨e, e1, e2⟩ := z_cnt_pos.mp (show 0 < z_cnt (D.w (a.cs (a.lo t) c) t) D.k by omega)
    have e3 := zfst_eq w e1 e2
    have uniq : ∀ d, d < D.k → D.w (a.cs (a.lo t) c) t d = true → d = e := fun d d1 d2 => by
      have := zfst_eq w d1 d2
      omega
    have el := (zDS.w_iff.mp e2).1
    have esub := h.sub v e1 e2
    have ep : D.put (a.cs (a.lo t) c) t = (D.k, D.f, (fun d => if d = e then t else D.l d), D.p, D.u, fun d => if d = e then a.cs (a.lo t) c else D.t d) := by
      unfold zDS.put
      rw [if_pos w, e3]
    rw [ep]
    have epn := h.wp v hc e1 e2
    refine ⟨⟨fun d (hd : d < D.k) => ?_, ⟨fun s y h1 h2 => ?_, fun y h1 h2 => ?_⟩, fun d e' (hd : d < D.k) (he : D.p d = some e') => ?_, ?_, fun d (hd : d < D.k) => ?_, fun d (hd : d < D.k) => ?_⟩, ?_⟩
    · show D.f d ≤ (if d = e then t else D.l d) ∧ (if d = e then t else D.l d) ≤ t ∧ ∃ x, a.pc (if d = e then t else D.l d) x = true ∧ (∀ y, (if d = e then a.cs (a.lo t) c else D.t d) y = a.cs (a.lo (if d = e then t else D.l d)) x y) ∧ ((if d = e then t else D.l d) = t → a.ml (a.lo t) x < c + 1)
      obtain ⟨q1, q2, x, q3, q4, q5⟩ := h.1 d hd
      by_cases z : d = e
      · rw [if_pos z, if_pos z]
        exact ⟨by omega, Nat.le_refl _, c, hcp, fun _ => rfl, fun _ => by omega⟩
      · rw [if_neg z, if_neg z]
        exact ⟨q1, q2, x, q3, q4, fun y => by have := q5 y; omega⟩
    · obtain ⟨d, d1, d2, d3⟩ := h.2.1.1 s y h1 h2
      refine ⟨d, d1, ?_⟩
      show (if d = e then a.cs (a.lo t) c else D.t d) y = true ∧ ((if d = e then t else D.l d) + 1 = t ∨ (if d = e then t else D.l d) = t)
      by_cases z : d = e
      · rw [if_pos z, if_pos z]
        exact ⟨esub y (z ▸ d2), .inr rfl⟩
      · rw [if_neg z, if_neg z]
        exact ⟨d2, d3⟩
    · by_cases z : a.ml (a.lo t) y = c
      · refine ⟨e, e1, ?_⟩
        show (if e = e then a.cs (a.lo t) c else D.t e) y = true ∧ (if e = e then t else D.l e) = t
        rw [if_pos rfl, if_pos rfl]
        exact ⟨inS y h1 z, rfl⟩
      · obtain ⟨d, d1, d2, d3⟩ := h.2.1.2 y h1 (by omega)
        refine ⟨d, d1, ?_⟩
        show (if d = e then a.cs (a.lo t) c else D.t d) y = true ∧ (if d = e then t else D.l d) = t
        have : d ≠ e := fun q => by rw [q] at d3; omega
        rw [if_neg this, if_neg this]
        exact ⟨d2, d3⟩
    · obtain ⟨q1, q2, q3, q4⟩ := h.2.2.1 d e' hd he
      have z : d ≠ e := fun q => by rw [q, epn] at he; cases he
      refine ⟨q1, q2, ?_⟩
      show (if d = e then t else D.l d) + 1 ≤ t ∧ ((if d = e then t else D.l d) + 1 = t → (if e' = e then t else D.l e') = t ∧ ∀ y, (if d = e then a.cs (a.lo t) c else D.t d) y = true → (if e' = e then a.cs (a.lo t) c else D.t e') y = true)
      rw [if_neg z, if_neg z]
      refine ⟨q3, fun q => ?_⟩
      obtain ⟨q5, q6⟩ := q4 q
      have z2 : e' ≠ e := fun y => by rw [y] at q5; omega
      rw [if_neg z2, if_neg z2]
      exact ⟨q5, q6⟩
    · refine Nat.le_trans ?_ (Nat.le_trans h.2.2.2.1 (Nat.mul_le_mul_left 2 (z_cnt_mono fun y _ hy => ?_)))
      · refine Nat.add_le_add_left (z_cnt_mono fun d hd => ?_) _
        show (decide (D.p d = none) && (decide ((if d = e then t else D.l d) = t) || decide ((if d = e then t else D.l d) + 1 = t))) = true → D.vv t d = true
        by_cases z : d = e
        · intro _
          rw [z]
          exact inV e e1 e2
        · rw [if_neg z]
          exact id
      · obtain ⟨d, d1, d2⟩ := zDS.uu_iff.mp hy
        refine zDS.uu_iff.mpr ⟨d, d1, ?_⟩
        show (if d = e then a.cs (a.lo t) c else D.t d) y = true
        by_cases z : d = e
        · rw [if_pos z]; exact esub y (z ▸ d2)
        · rw [if_neg z]; exact d2
    · obtain ⟨q1, q2⟩ := h.2.2.2.2.1 d hd
      refine ⟨fun y hy => ?_, q2⟩
      show (if d = e then a.cs (a.lo t) c else D.t d) y = true
      by_cases z : d = e
      · rw [if_pos z]; exact esub y (z ▸ q1 y hy)
      · rw [if_neg z]; exact q1 y hy
    · intro s h1 h2 y h3 h4 x hx
      have h2' : s ≤ if d = e then t else D.l d := h2
      have h4' : (if d = e then a.cs (a.lo t) c else D.t d) y = true := h4
      by_cases z : d = e
      · rw [if_pos z] at h2' h4'
        have hx' : D.u e x = true := z ▸ hx
        have hxs := esub x ((h.2.2.2.2.1 e e1).1 x hx')
        by_cases z2 : s = t
        · rw [z2]
          exact zRch.trans (zRch.sym v (fun _ => zG.lo_n) (zG.cs_iff.mp h4')) (zG.cs_iff.mp hxs)
        · obtain ⟨d', d1, d2, d3⟩ := h.hit v hc h4' (show s < t by omega) (zG.pc_iff.mp h3).1
          have := uniq d' d1 d2
          subst this
          exact h.2.2.2.2.2 d' d1 s (z ▸ h1) (by omega) y h3 d3 x hx'
      · rw [if_neg z] at h2' h4'
        exact h.2.2.2.2.2 d hd s h1 h2' y h3 h4' x hx
    · have h1 : 0 < z_cnt (D.vv t) D.k := z_cnt_pos.mpr ⟨e, e1, inV e e1 e2⟩
      have h2 := h.2.2.2.1
      have h3 := ub D
      omega
  · have ep : D.put (a.cs (a.lo t) c) t = (D.k + 1, (fun d => if d = D.k then t else D.f d), (fun d => if d = D.k then t else D.l d), (fun d => if d = D.k then none else if D.w (a.cs (a.lo t) c) t d = true then some D.k else D.p d), (fun d => if d = D.k then a.cs (a.lo t) c else D.u d), fun d => if d = D.k then a.cs (a.lo t) c else D.t d) := by
      unfold zDS.put
      rw [if_neg w]
    rw [ep]
    obtain ⟨D', hD'⟩ : ∃ D' : zDS, D' = (D.k + 1, (fun d => if d = D.k then t else D.f d), (fun d => if d = D.k then t else D.l d), (fun d => if d = D.k then none else if D.w (a.cs (a.lo t) c) t d = true then some D.k else D.p d), (fun d => if d = D.k then a.cs (a.lo t) c else D.u d), fun d => if d = D.k then a.cs (a.lo t) c else D.t d) := ⟨_, rfl⟩
    have bound : (D.k + 1) + z_cnt (D'.vv t) (D.k + 1) ≤ 2 * z_cnt D'.uu 64 ∧ 0 < z_cnt (D'.vv t) (D.k + 1) := by
      have vk : D'.vv t D.k = true := by
        rw [hD']
        show (decide ((if D.k = D.k then none else if D.w (a.cs (a.lo t) c) t D.k = true then some D.k else D.p D.k) = none) && (decide ((if D.k = D.k then t else D.l D.k) = t) || decide ((if D.k = D.k then t else D.l D.k) + 1 = t))) = true
        simp
      have vo : ∀ d, d < D.k → D'.vv t d = (D.vv t d && !(D.w (a.cs (a.lo t) c) t d)) := fun d hd => by
        rw [hD']
        show (decide ((if d = D.k then none else if D.w (a.cs (a.lo t) c) t d = true then some D.k else D.p d) = none) && (decide ((if d = D.k then t else D.l d) = t) || decide ((if d = D.k then t else D.l d) + 1 = t))) = _
        have z : d ≠ D.k := by omega
        rw [if_neg z, if_neg z]
        unfold zDS.vv
        cases hq : D.w (a.cs (a.lo t) c) t d with
        | true => simp
        | false => simp
      have vs : z_cnt (D'.vv t) (D.k + 1) = z_cnt (fun d => D.vv t d && !(D.w (a.cs (a.lo t) c) t d)) D.k + 1 := by
        show z_cnt (D'.vv t) D.k + (if D'.vv t D.k = true then 1 else 0) = _
        rw [vk, if_pos rfl, z_cnt_ext vo]
      have hsub := z_cnt_sub (p := D.vv t) (q := D.w (a.cs (a.lo t) c) t) (n := D.k) inV
      have u1 : ∀ y, D'.uu y = (D.uu y || a.cs (a.lo t) c y) := fun y => by
        rw [Bool.eq_iff_iff, zDS.uu_iff, Bool.or_eq_true, zDS.uu_iff, hD']
        constructor
        · rintro ⟨d, d1, d2⟩
          have d1' : d < D.k + 1 := d1
          have d2' : (if d = D.k then a.cs (a.lo t) c else D.t d) y = true := d2
          by_cases z : d = D.k
          · rw [if_pos z] at d2'; exact .inr d2'
          · rw [if_neg z] at d2'; exact .inl ⟨d, by omega, d2'⟩
        · rintro (⟨d, d1, d2⟩ | q)
          · refine ⟨d, Nat.lt_succ_of_lt d1, ?_⟩
            show (if d = D.k then a.cs (a.lo t) c else D.t d) y = true
            rw [if_neg (by omega)]
            exact d2
          · refine ⟨D.k, Nat.lt_succ_self _, ?_⟩
            show (if D.k = D.k then a.cs (a.lo t) c else D.t D.k) y = true
            rw [if_pos rfl]
            exact q
      have umono : z_cnt D.uu 64 ≤ z_cnt D'.uu 64 := z_cnt_mono fun y _ hy => by rw [u1, hy]; rfl
      have hb := h.2.2.2.1
      refine ⟨?_, by omega⟩
      by_cases w0 : z_cnt (D.w (a.cs (a.lo t) c) t) D.k = 0
      · have : z_cnt D.uu 64 < z_cnt D'.uu 64 := by
          refine z_cnt_lt (c := c) (fun y _ hy => by rw [u1, hy]; rfl) (by omega) ?_ (by rw [u1, hself, Bool.or_true])
          cases q : D.uu c with
          | false => rfl
          | true =>
            obtain ⟨d, d1, d2⟩ := zDS.uu_iff.mp q
            have d3 := h.meet v hc d1 d2 hself
            obtain ⟨_, _, x, q3, q4, q5⟩ := h.1 d d1
            rw [q4, zG.cs_iff] at d2
            obtain ⟨d', d1', d2', _⟩ := h.hit v hc hself d3 (zRch.inW d2)
            have := z_cnt_0.mp w0 d' d1'
            rw [d2'] at this
            cases this
        omega
      · omega
    have b3 := ub D'
    rw [hD'] at bound b3
    refine ⟨⟨fun d (hd : d < D.k + 1) => ?_, ⟨fun s y h1 h2 => ?_, fun y h1 h2 => ?_⟩, fun d e' (hd : d < D.k + 1) (he : (if d = D.k then none else if D.w (a.cs (a.lo t) c) t d = true then some D.k else D.p d) = some e') => ?_, bound.1, fun d (hd : d < D.k + 1) => ?_, fun d (hd : d < D.k + 1) => ?_⟩, ?_⟩
    · show (if d = D.k then t else D.f d) ≤ (if d = D.k then t else D.l d) ∧ (if d = D.k then t else D.l d) ≤ t ∧ ∃ x, a.pc (if d = D.k then t else D.l d) x = true ∧ (∀ y, (if d = D.k then a.cs (a.lo t) c else D.t d) y = a.cs (a.lo (if d = D.k then t else D.l d)) x y) ∧ ((if d = D.k then t else D.l d) = t → a.ml (a.lo t) x < c + 1)
      by_cases z : d = D.k
      · rw [if_pos z, if_pos z, if_pos z]
        exact ⟨Nat.le_refl _, Nat.le_refl _, c, hcp, fun _ => rfl, fun _ => by omega⟩
      · obtain ⟨q1, q2, x, q3, q4, q5⟩ := h.1 d (by omega)
        rw [if_neg z, if_neg z, if_neg z]
        exact ⟨q1, q2, x, q3, q4, fun y => by have := q5 y; omega⟩
    · obtain ⟨d, d1, d2, d3⟩ := h.2.1.1 s y h1 h2
      refine ⟨d, Nat.lt_succ_of_lt d1, ?_⟩
      show (if d = D.k then a.cs (a.lo t) c else D.t d) y = true ∧ ((if d = D.k then t else D.l d) + 1 = t ∨ (if d = D.k then t else D.l d) = t)
      have z : d ≠ D.k := by omega
      rw [if_neg z, if_neg z]
      exact ⟨d2, d3⟩
    · by_cases z : a.ml (a.lo t) y = c
      · refine ⟨D.k, Nat.lt_succ_self _, ?_⟩
        show (if D.k = D.k then a.cs (a.lo t) c else D.t D.k) y = true ∧ (if D.k = D.k then t else D.l D.k) = t
        rw [if_pos rfl, if_pos rfl]
        exact ⟨inS y h1 z, rfl⟩
      · obtain ⟨d, d1, d2, d3⟩ := h.2.1.2 y h1 (by omega)
        refine ⟨d, Nat.lt_succ_of_lt d1, ?_⟩
        show (if d = D.k then a.cs (a.lo t) c else D.t d) y = true ∧ (if d = D.k then t else D.l d) = t
        have z : d ≠ D.k := by omega
        rw [if_neg z, if_neg z]
        exact ⟨d2, d3⟩
    · show d < e' ∧ e' < D.k + 1 ∧ (if d = D.k then t else D.l d) + 1 ≤ t ∧ ((if d = D.k then t else D.l d) + 1 = t → (if e' = D.k then t else D.l e') = t ∧ ∀ y, (if d = D.k then a.cs (a.lo t) c else D.t d) y = true → (if e' = D.k then a.cs (a.lo t) c else D.t e') y = true)
      by_cases z : d = D.k
      · rw [if_pos z] at he; cases he
      · have hd' : d < D.k := by omega
        rw [if_neg z] at he
        rw [if_neg z, if_neg z]
        by_cases hw : D.w (a.cs (a.lo t) c) t d = true
        · rw [if_pos hw] at he
          cases he
          have := (zDS.w_iff.mp hw).1
          rw [if_pos rfl, if_pos rfl]
          exact ⟨hd', Nat.lt_succ_self _, by omega, fun _ => ⟨rfl, h.sub v hd' hw⟩⟩
        · rw [if_neg hw] at he
          obtain ⟨q1, q2, q3, q4⟩ := h.2.2.1 d e' hd' he
          have z2 : e' ≠ D.k := by omega
          rw [if_neg z2, if_neg z2]
          exact ⟨q1, by omega, q3, q4⟩
    · show (∀ y, (if d = D.k then a.cs (a.lo t) c else D.u d) y = true → (if d = D.k then a.cs (a.lo t) c else D.t d) y = true) ∧ ∃ x, a.pc (if d = D.k then t else D.f d) x = true ∧ ∀ y, (if d = D.k then a.cs (a.lo t) c else D.u d) y = a.cs (a.lo (if d = D.k then t else D.f d)) x y
      by_cases z : d = D.k
      · rw [if_pos z, if_pos z, if_pos z]
        exact ⟨fun _ => id, c, hcp, fun _ => rfl⟩
      · rw [if_neg z, if_neg z, if_neg z]
        exact h.2.2.2.2.1 d (by omega)
    · intro s h1 h2 y h3 h4 x hx
      have h1' : (if d = D.k then t else D.f d) ≤ s := h1
      have h2' : s ≤ if d = D.k then t else D.l d := h2
      have h4' : (if d = D.k then a.cs (a.lo t) c else D.t d) y = true := h4
      have hx' : (if d = D.k then a.cs (a.lo t) c else D.u d) x = true := hx
      by_cases z : d = D.k
      · rw [if_pos z] at h1' h2' h4' hx'
        have : s = t := by omega
        rw [this]
        exact zRch.trans (zRch.sym v (fun _ => zG.lo_n) (zG.cs_iff.mp h4')) (zG.cs_iff.mp hx')
      · rw [if_neg z] at h1' h2' h4' hx'
        exact h.2.2.2.2.2 d (by omega) s h1' h2' y h3 h4' x hx'
    · have h3 := bound.1
      have h4 := bound.2
      omega
theorem zDv.step (v : zGV a) (h : zDv a t c D) : zDv a t (c + 1) (a.dst t c D) := by
  unfold zG.dst
  cases hc : a.lead t c with
  | false => rw [if_neg (by decide)]; exact h.skip v hc
  | true => rw [if_pos rfl]; exact (h.put v hc).1
theorem zDv.dpl (v : zGV a) (h : zDv a t 0 D) : ∀ c, zDv a t c (a.dpl t c D)
  | 0 => h
  | c + 1 => (zDv.dpl v h c).step v
theorem zDv.dp (v : zGV a) : ∀ t, zDv a t 0 (a.dp t)
  | 0 => by
    refine ⟨fun d (hd : d < 0) => absurd hd (Nat.not_lt_zero _), ⟨fun s y h => by omega, fun y _ h => absurd h (Nat.not_lt_zero _)⟩, fun d e (hd : d < 0) => absurd hd (Nat.not_lt_zero _), ?_, fun d (hd : d < 0) => absurd hd (Nat.not_lt_zero _), fun d (hd : d < 0) => absurd hd (Nat.not_lt_zero _)⟩
    show 0 + 0 ≤ _
    omega
  | t + 1 => ((zDv.dp v t).dpl v a.n).next v
theorem zDv.kb (h : zDv a t c D) : D.k ≤ 128 := by
  have h1 := h.2.2.2.1
  have h2 := z_cnt_le D.uu 64
  omega
end
