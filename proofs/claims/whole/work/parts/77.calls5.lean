/-! depressionAt and depression. -/
def zff (Q : Nat → Bool) : Nat → Nat → Option Nat
  | 0, _ => none
  | i + 1, d => if Q d = true then some d else zff Q i (d + 1)
theorem zff_ext {P Q : Nat → Bool} : ∀ (i d : Nat), (∀ e, d ≤ e → e < d + i → P e = Q e) → zff P i d = zff Q i d
  | 0, _, _ => rfl
  | i + 1, d, h => by
    unfold zff
    rw [h d (Nat.le_refl _) (by omega), zff_ext i (d + 1) fun e h1 h2 => h e (by omega) (by omega)]
theorem zff_lt {Q : Nat → Bool} : ∀ (i d q : Nat), zff Q i d = some q → d ≤ q ∧ q < d + i
  | 0, _, _, h => by cases h
  | i + 1, d, q, h => by
    unfold zff at h
    by_cases w : Q d = true
    · rw [if_pos w] at h
      cases h
      omega
    · rw [if_neg w] at h
      have := zff_lt i (d + 1) q h
      omega
/-- an index below a number, or not -/
theorem z_idx (x : Int32) {k : Nat} (hk : k ≤ 1000) : (∃ q, q < k ∧ x = Int32.ofNat q ∧ ∀ m, f_X12_in (Int32.toInt64 x) (0 : Int64) (Int32.toInt64 (Int32.ofNat k - 1)) m = some true) ∨ ((x < 0 ∨ ∃ q, q < 2147483648 ∧ k ≤ q ∧ x = Int32.ofNat q) ∧ ∀ m, f_X12_in (Int32.toInt64 x) (0 : Int64) (Int32.toInt64 (Int32.ofNat k - 1)) m = some false) := by
  have e0 : (0 : Int64).toInt = 0 := rfl
  have e1 : (0 : Int32).toInt = 0 := rfl
  have ek : (Int32.ofNat k - 1).toInt = (k : Int) - 1 := by
    cases k with
    | zero => decide
    | succ k =>
      rw [zi_q (by omega), zi_toInt (by omega)]
      omega
  rcases zi_cases x with h | ⟨q, hq, rfl⟩
  · refine .inr ⟨.inl h, fun m => ?_⟩
    rw [s_in]
    congr 1
    rw [decide_eq_false_iff_not, Int64.le_iff_toInt_le, zi_64]
    rw [Int32.lt_iff_toInt_lt] at h
    omega
  · by_cases w : q < k
    · refine .inl ⟨q, w, rfl, fun m => ?_⟩
      rw [s_in]
      congr 1
      rw [decide_eq_true_eq, Int64.le_iff_toInt_le, Int64.le_iff_toInt_le, zi_64, zi_64, zi_toInt hq, ek]
      omega
    · refine .inr ⟨.inr ⟨q, hq, by omega, rfl⟩, fun m => ?_⟩
      rw [s_in]
      congr 1
      rw [decide_eq_false_iff_not, Int64.le_iff_toInt_le, Int64.le_iff_toInt_le, zi_64, zi_64, zi_toInt hq, ek]
      omega
section
variable {m : zM} {a : zG}
noncomputable def zDS.qa (D : zDS) (P : Nat → Bool) (t d : Nat) : Bool := decide (D.f d ≤ t) && decide (t ≤ D.l d) && decide (0 < z_cnt (fun y => D.t d y && P y) 64)
noncomputable def zDS.qb (D : zDS) (S : Nat → Bool) (t d : Nat) : Bool := decide (D.f d ≤ t) && decide (t ≤ D.l d) && @decide (∀ y, D.u d y = true → S y = true) (Classical.propDecidable _)
theorem zDv.qab (v : zGV a) {D : zDS} {T C : Nat} (h : zDv a T C D) {t c : Nat} (hc : a.lo t c = true) {d : Nat} (hd : d < D.k) : D.qa (fun y => a.pc t c && a.cs (a.lo t) c y) t d = D.qb (a.cs (a.lo t) c) t d := by
  have n64 := v.n64
  unfold zDS.qa zDS.qb
  by_cases w1 : D.f d ≤ t
  · by_cases w2 : t ≤ D.l d
    · simp only [w1, w2, decide_true, Bool.true_and]
      rw [Bool.eq_iff_iff, decide_eq_true_eq, z_cnt_pos, z_dec]
      constructor
      · rintro ⟨y, _, y2⟩ x hx
        simp only [Bool.and_eq_true] at y2
        obtain ⟨y3, y4, y5⟩ := y2
        have hy := zG.pc_cm v y4 (zG.cs_iff.mp y5)
        exact zG.cs_iff.mpr (zRch.trans (zG.cs_iff.mp y5) (h.2.2.2.2.2 d hd t w1 w2 y hy y3 x hx))
      · intro q
        obtain ⟨u1, x, u2, u3⟩ := h.2.2.2.2.1 d hd
        have ux : D.u d x = true := by rw [u3, zG.cs_iff]; exact zG.cm_refl (zG.pc_iff.mp u2).1
        have tx := u1 x ux
        have sx := zG.cs_iff.mp (q x ux)
        obtain ⟨_, _, r, r1, r2, _⟩ := h.1 d hd
        rw [r2, zG.cs_iff] at tx
        have px := zG.pc_cm v r1 tx
        have pt := zG.pc_low v w2 px (zRch.inW sx)
        have pcc := zG.pc_cm v pt (zRch.sym (W := a.lo t) v (fun _ => zG.lo_n) sx)
        refine ⟨x, by have := zG.pc_n u2; omega, ?_⟩
        rw [u1 x ux, pcc, q x ux]
        rfl
    · simp [w2]
  · simp [w1]
theorem zDv.qa0 {D : zDS} {t c : Nat} (hc : a.lo t c = false) (d : Nat) : D.qa (fun y => a.pc t c && a.cs (a.lo t) c y) t d = false := by
  have : a.pc t c = false := by
    cases w : a.pc t c with
    | false => rfl
    | true => have := (zG.pc_iff.mp w).1; rw [hc] at this; cases this
  unfold zDS.qa
  rw [this, z_cnt_0.mpr fun y _ => by simp]
  simp
theorem zff_none {Q : Nat → Bool} (h : ∀ d, Q d = false) : ∀ i d, zff Q i d = none
  | 0, _ => rfl
  | i + 1, d => by
    unfold zff
    rw [h d, if_neg Bool.false_ne_true]
    exact zff_none h i (d + 1)
theorem s_at_17 {D : zDS} (hn : m.1 3 0 0 = Int32.ofNat D.k) (hr : zDr D 0 0 m) (hf : ∀ d, d < D.k → D.f d ≤ 99) {P : Nat → Bool} {x : Int64} (hx : ∀ y, zb x y = P y) {t : Nat} (ht : t ≤ 99) : ∀ (j i d : Nat), d + i = D.k → i < j → f_X1_at_17 0 m j (Int32.ofNat t) x (Int32.ofNat d) = some (zo (zff (D.qa P t) i d))
  | 0, _, _, _, h => absurd h (Nat.not_lt_zero _)
  | j + 1, i, d, hd, hj => by
    have hk := hr.1
    unfold f_X1_at_17
    rw [hn]
    cases i with
    | zero =>
      rw [if_pos (by rw [zi_le (by omega) (by omega)]; omega)]
      rfl
    | succ i =>
      have hdk : d < D.k := by omega
      obtain ⟨q1, q2, q3, _, _, q6⟩ := hr.2 d hdk
      have hfd := hf d hdk
      have ih := s_at_17 hn hr hf hx ht j i (d + 1) (by omega) (by omega)
      have q2' : m.1 21 1 d = Int32.ofNat (D.l d) := q2
      have q6' : ∀ y, zb (m.2.1 31 1 d) y = D.t d y := q6
      have er : zff (D.qa P t) (i + 1) d = if D.qa P t d = true then some d else zff (D.qa P t) i (d + 1) := rfl
      rw [if_neg (by rw [zi_le (by omega) (by omega)]; omega), s_at' 21 0 (by rw [zl_21]; omega), Option.bind_some, q1, er]
      unfold zDS.qa
      by_cases w1 : D.f d ≤ t
      · rw [if_neg (by rw [zi_lt (by omega) (by omega)]; omega), s_at' 21 1 (by rw [zl_21]; omega), Option.bind_some, q2']
        by_cases w2 : t ≤ D.l d
        · rw [if_neg (by rw [zi_lt (by omega) (by omega)]; omega)]
          unfold f_X1_at_57
          rw [if_neg (by decide), s_al 31 1 (by rw [zl_31]; omega), Option.bind_some, zi_s]
          have hm := z_meet (m.2.1 31 1 d) x
          simp only [q6', hx] at hm
          by_cases w3 : 0 < z_cnt (fun y => D.t d y && P y) 64
          · rw [if_neg (hm.mpr w3), if_pos (by simp [w1, w2, w3])]
            rfl
          · rw [if_pos (Classical.byContradiction fun y => w3 (hm.mp y)), if_neg (by simp [w3])]
            exact ih
        · rw [if_pos (by rw [zi_lt (by omega) (by omega)]; omega), if_neg (by simp [w2])]
          unfold f_X1_at_56 f_X1_at_57
          rw [if_pos rfl, zi_s]
          exact ih
      · rw [if_pos (by rw [zi_lt (by omega) (by omega)]; omega), if_neg (by simp [w1])]
        unfold f_X1_at_56 f_X1_at_57
        rw [if_pos rfl, zi_s]
        exact ih
theorem s_dat_65 {D : zDS} (hn : m.1 13 0 21 = Int32.ofNat D.k) (hr : zDr D 3 2 m) (hf : ∀ d, d < D.k → D.f d ≤ 99) {S : Nat → Bool} (hS : ∀ y, zb (m.2.1 13 0 20) y = S y) {t : Nat} (ht : t ≤ 99) : ∀ (j i d : Nat), d + i = D.k → i < j → f_X12_depressionAt_65 j (Int32.ofNat t) (Int32.ofNat d) m = match zff (D.qb S t) i d with
    | none => some (0, z_sI m 13 0 0 3)
    | some q => some (Int32.ofNat q, m)
  | 0, _, _, _, h => absurd h (Nat.not_lt_zero _)
  | j + 1, i, d, hd, hj => by
    have hk := hr.1
    unfold f_X12_depressionAt_65
    rw [hn]
    cases i with
    | zero =>
      rw [if_pos (by rw [zi_le (by omega) (by omega)]; omega)]
      rfl
    | succ i =>
      have hdk : d < D.k := by omega
      obtain ⟨q1, q2, q3, _, q5, _⟩ := hr.2 d hdk
      have hfd := hf d hdk
      have ih := s_dat_65 hn hr hf hS ht j i (d + 1) (by omega) (by omega)
      have q2' : m.1 21 4 d = Int32.ofNat (D.l d) := q2
      have er : zff (D.qb S t) (i + 1) d = if D.qb S t d = true then some d else zff (D.qb S t) i (d + 1) := rfl
      rw [if_neg (by rw [zi_le (by omega) (by omega)]; omega), z_gdt (z_in21 (by omega)), zi_nat (by omega), q1, q2', s_in32 _ _ _ (by omega) (by omega) (by omega), Option.bind_some, zi_s, er]
      unfold zDS.qb
      by_cases w : D.f d ≤ t ∧ t ≤ D.l d
      · rw [if_neg (by rw [zi_bi0, decide_eq_false_iff_not]; exact fun y => y w), z_gdt (z_in31 (by omega))]
        have hw := z_within (m.2.1 31 2 d) (m.2.1 13 0 20)
        simp only [q5, hS] at hw
        by_cases w3 : ∀ y, D.u d y = true → S y = true
        · rw [if_pos (hw.mpr w3), if_pos (by rw [z_dec.mpr w3]; simp [w.1, w.2])]
        · rw [if_neg (mt hw.mp w3), if_neg (fun y => w3 (by rw [Bool.and_eq_true] at y; exact z_dec.mp y.2))]
          exact ih
      · rw [if_pos (by rw [zi_bi0, decide_eq_false_iff_not]; exact w), if_neg (fun y => w (by simp only [Bool.and_eq_true, decide_eq_true_eq] at y; exact y.1))]
        exact ih
theorem zDv.f99 {D : zDS} {c : Nat} (h : zDv a 100 c D) {ri li : Nat} (hr : zDr D ri li m) : ∀ d, d < D.k → D.f d ≤ 99 := fun d hd => by
  have h1 := (h.1 d hd).1
  have h2 := (hr.2 d hd).2.2.1
  omega
theorem t_depressionAt (I : zInv m) (x : Int32) (y : Int32) : zAg Int32.toInt64 (f_L_depressionAt x y m) (f_X12_depressionAt x y) := by
  obtain ⟨a, b, n, p, s, l, c, e, I'⟩ := I
  have v := I'.1
  have n64 := v.n64
  unfold f_L_depressionAt
  rcases z_cell v x with ⟨d, hd, rfl⟩ | hx
  · rcases z_rng y (lo := 0) (hi := 99) (by omega) (by omega) with ⟨t, _, t2, rfl, g1, g2⟩ | ⟨g0, g1, g2⟩
    · have hv := zDv.dp v 100
      have kb := hv.kb
      have hht := v.ht d
      obtain ⟨m1, h1, h2, h3, h4⟩ := s_dfind v (show 0 < 11 by omega) I'.2.1
      have r0 : zGR m1 0 a := I'.2.1.keep h2 fun k i j w => by unfold zGp at w; unfold zPde; omega
      obtain ⟨A, a1, a2⟩ := s_pools v r0 t2
      obtain ⟨Z, z1, z2⟩ := s_reachable v r0 (S := z_shl 1 (Int32.ofNat d)) (W := A) fun q _ w => by rw [a2] at w; exact zG.pc_n w
      have hZ : ∀ q, zb Z q = (a.pc t d && a.cs (a.lo t) d q) := fun q => by
        rw [Bool.eq_iff_iff, z2 q, zb_onef (by omega), show zb A = a.pc t from funext a2, Bool.and_eq_true, zG.cs_iff]
        constructor
        · intro w
          have hp : a.pc t d = true := by
            refine w (fun _ => a.pc t d = true) (fun e q1 q2 => ?_) fun _ _ _ w _ _ => w
            rw [z_one_iff] at q1
            rw [← q1]
            exact q2
          exact ⟨hp, (zG.pc_reach v hp).mp w⟩
        · rintro ⟨w1, w2⟩
          exact (zG.pc_reach v w1).mpr w2
      have hat := s_at_17 h3 h4 (hv.f99 h4) hZ t2 zF (a.dp 100).k 0 (by omega) (zF_lt (by omega))
      have lt := zff_lt (Q := (a.dp 100).qa (fun y => a.pc t d && a.cs (a.lo t) d y) t) (a.dp 100).k 0
      have cls : zCl (f_X11_depressionAt (Int32.ofNat d) (Int32.ofNat t) m) m (match zff ((a.dp 100).qa (fun y => a.pc t d && a.cs (a.lo t) d y) t) (a.dp 100).k 0 with
          | none => .inr 3
          | some q => .inl (Int32.ofNat q)) := by
        unfold f_X11_depressionAt f_X1_at zCl
        rw [s_req v I'.2.1 hd, zbx_l, show (0 : Int32) = Int32.ofNat 0 from rfl, show (99 : Int32) = Int32.ofNat 99 from rfl, g1, zbx_l, h1, Option.bind_some, a1, Option.bind_some, z1, Option.bind_some, hat, Option.bind_some]
        refine ⟨m1, ?_, h2.mono fun k i j => zPde_c⟩
        cases hq : zff ((a.dp 100).qa (fun y => a.pc t d && a.cs (a.lo t) d y) t) (a.dp 100).k 0 with
        | none => rw [zo_none, if_pos rfl]
        | some q =>
          have := lt q hq
          rw [zo_some, if_neg (zi_m1 (by omega))]
      have mod : ∀ m', zFr zSc m m' → zAn (f_X12_depressionAt (Int32.ofNat d) (Int32.ofNat t)) m' (match zff ((a.dp 100).qa (fun y => a.pc t d && a.cs (a.lo t) d y) t) (a.dp 100).k 0 with
          | none => .inr 3
          | some q => .inl (Int32.ofNat q)) := fun m' f => by
        have r1 := (I'.keep f).2.2.1.th 0
        obtain ⟨m2, q1, q2, q3, q4⟩ := s_mdeps v r1
        have r2 : zMR (m2.1 23 0) a := by rw [q2.row (fun j => by unfold zPdm; omega)]; exact r1
        unfold zAn f_X12_depressionAt
        rw [s_isCell v r1 hd, Option.bind_some, if_neg (by decide), show (0 : Int64) = Int32.toInt64 (Int32.ofNat 0) from rfl, show (99 : Int64) = Int32.toInt64 (Int32.ofNat 99) from rfl, g2, Option.bind_some, if_neg (by decide), q1, Option.bind_some, s_mheight r2 (by omega), Option.bind_some]
        have fr := (q2.mono fun k i j => zPdm_m).x13
        cases hlo : a.lo t d with
        | true =>
          obtain ⟨m3, u1, u2, u3⟩ := s_land v (lo := 0) (hi := t) (by omega) t2 (c := d) (by rw [zG.rg0]; exact hlo) r2
          have hS : ∀ y, zb (m3.2.1 13 0 20) y = a.cs (a.lo t) d y := fun y => by rw [Bool.eq_iff_iff, u3 y, zG.rg0, zG.cs_iff]
          have hr3 : zDr (a.dp 100) 3 2 m3 := q4.keep u2 fun k i j w => by unfold zPln; omega
          have hn3 : m3.1 13 0 21 = Int32.ofNat (a.dp 100).k := by rw [(u2 13 0 21 (by unfold zPln; omega)).1]; exact q3
          have h0 := s_dat_65 hn3 hr3 (hv.f99 hr3) hS t2 zF (a.dp 100).k 0 (by omega) (zF_lt (by omega))
          have ee : zff ((a.dp 100).qb (a.cs (a.lo t) d) t) (a.dp 100).k 0 = zff ((a.dp 100).qa (fun y => a.pc t d && a.cs (a.lo t) d y) t) (a.dp 100).k 0 := zff_ext _ _ fun e _ he => (zDv.qab v hv hlo (by omega)).symm
          rw [ee] at h0
          have fr2 := fr.trans (u2.mono fun k i j => zPln_m)
          have t0 : m3.1 13 0 0 = 0 := u2.t0 (by unfold zPln; omega) (q2.t0 (by unfold zPdm; omega) (z_th0 _ _))
          rw [if_pos (by rw [zi_le (by omega) (by omega)]; exact (zG.lo_iff.mp hlo).2), show (0 : Int32) = Int32.ofNat 0 from rfl, u1, Option.bind_some, h0]
          cases zff ((a.dp 100).qa (fun y => a.pc t d && a.cs (a.lo t) d y) t) (a.dp 100).k 0 with
          | none => exact ⟨0, _, rfl, fr2.trans (z_th _ 3), by decide, z_th0 _ _⟩
          | some q => exact ⟨_, m3, rfl, fr2, t0, rfl⟩
        | false =>
          have hno : ¬ a.ht d ≤ t := fun w => by rw [zG.lo_iff.mpr ⟨hd, w⟩] at hlo; cases hlo
          rw [if_neg (by rw [zi_le (by omega) (by omega)]; exact hno), zff_none (fun e => zDv.qa0 hlo e)]
          exact ⟨0, _, rfl, fr.trans (z_th _ 3), by decide, z_th0 _ _⟩
      cases hq : zff ((a.dp 100).qa (fun y => a.pc t d && a.cs (a.lo t) d y) t) (a.dp 100).k 0 with
      | none =>
        rw [hq] at cls mod
        exact zAg.ex Int32.toInt64 I'.of (x := 3) (k := 3) cls rfl mod
      | some q =>
        rw [hq] at cls mod
        exact zAg.ok Int32.toInt64 I'.of cls mod
    · refine zAg.ex Int32.toInt64 I'.of (x := 0) (k := 2) ?_ rfl fun m' f => ?_
      · unfold f_X11_depressionAt zCl
        rw [s_req v I'.2.1 hd, zbx_l, show (0 : Int32) = Int32.ofNat 0 from rfl, show (99 : Int32) = Int32.ofNat 99 from rfl, g1, zbx_r]
        exact ⟨m, rfl, zFr.refl m⟩
      · have r1 := (I'.keep f).2.2.1.th 0
        unfold zAn f_X12_depressionAt
        rw [s_isCell v r1 hd, Option.bind_some, if_neg (by decide), show (0 : Int64) = Int32.toInt64 (Int32.ofNat 0) from rfl, show (99 : Int64) = Int32.toInt64 (Int32.ofNat 99) from rfl, g2, Option.bind_some, if_pos (by decide)]
        exact ⟨0, _, rfl, (z_th m' 0).trans (z_th _ 2), by decide, z_th0 _ _⟩
  · refine zAg.ex Int32.toInt64 I'.of (x := 1) (k := 1) ?_ rfl fun m' f => ?_
    · unfold f_X11_depressionAt zCl
      rw [s_reqn v I'.2.1 hx]
      exact ⟨m, rfl, zFr.refl m⟩
    · have I1 := I'.keep f
      unfold zAn f_X12_depressionAt
      rw [s_isCelln v (I1.2.2.1.th 0) hx, Option.bind_some, if_pos (by decide)]
      exact ⟨0, _, rfl, (z_th m' 0).trans (z_th _ 1), by decide, z_th0 _ _⟩
/-- how deep a depression lies in the tree -/
def zDS.dt (D : zDS) : Nat → Nat → Nat
  | 0, _ => 0
  | i + 1, d => match D.p d with
    | none => 0
    | some e => D.dt i e + 1
theorem s_tree_14 {D : zDS} {T C : Nat} (hv : zDv a T C D) (hr : zDr D 0 0 m) : ∀ (j i d s : Nat), D.k - d ≤ i → d < D.k → i < j → s ≤ d → f_X1_depthInTree_14 m j (Int32.ofNat s) (zo (D.p d)) (Int32.ofNat s) = some (Int32.ofNat (s + D.dt i d))
  | 0, _, _, _, _, _, h, _ => absurd h (Nat.not_lt_zero _)
  | j + 1, i, d, s, hi, hd, hj, hs => by
    have hk := hr.1
    obtain ⟨i, rfl⟩ : ∃ i', i = i' + 1 := ⟨i - 1, by omega⟩
    unfold f_X1_depthInTree_14
    rw [show (128 : Int32) = Int32.ofNat 128 from rfl, if_neg (by rw [zi_le (by omega) (by omega)]; omega)]
    have e0 : D.dt (i + 1) d = match D.p d with
      | none => 0
      | some e => D.dt i e + 1 := rfl
    rw [e0]
    cases hp : D.p d with
    | none => rw [zo_none, if_pos rfl]; rfl
    | some e =>
      have h1 := hv.2.2.1 d e hd hp
      have q4 : m.1 21 2 e = zo (D.p e) := (hr.2 e h1.2.1).2.2.2.1
      have ih := s_tree_14 hv hr j i e (s + 1) (by omega) h1.2.1 (by omega) (by omega)
      rw [zo_some, if_neg (zi_m1 (by omega)), s_at' 21 2 (by rw [zl_21]; omega), Option.bind_some, q4, zi_s, ih]
      congr 2
      show s + 1 + D.dt i e = s + (D.dt i e + 1)
      omega
theorem s_mtree_191 {D : zDS} {T C : Nat} (hv : zDv a T C D) (hr : zDr D 3 2 m) : ∀ (j i d s : Nat), D.k - d ≤ i → d < D.k → i < j → f_X12_depression_191 j (Int32.ofNat s) (Int32.ofNat d) m = some (Int32.ofNat (s + D.dt i d), m)
  | 0, _, _, _, _, _, h => absurd h (Nat.not_lt_zero _)
  | j + 1, i, d, s, hi, hd, hj => by
    have hk := hr.1
    obtain ⟨i, rfl⟩ : ∃ i', i = i' + 1 := ⟨i - 1, by omega⟩
    have q4 : m.1 21 5 d = zo (D.p d) := (hr.2 d hd).2.2.2.1
    unfold f_X12_depression_191
    have e0 : D.dt (i + 1) d = match D.p d with
      | none => 0
      | some e => D.dt i e + 1 := rfl
    rw [z_gdt (z_in21 (by omega)), z_gdt (z_in21 (by omega)), zi_nat (by omega), q4, e0]
    cases hp : D.p d with
    | none => rw [if_pos (show zo none < 0 by decide)]; rfl
    | some e =>
      have h1 := hv.2.2.1 d e hd hp
      have ih := s_mtree_191 hv hr j i e (s + 1) (by omega) h1.2.1 (by omega)
      rw [zo_some, if_neg (zi_z (by omega)), zi_s, ih]
      congr 3
      show s + 1 + D.dt i e = s + (D.dt i e + 1)
      omega
theorem zo_is {D : zDS} {T C : Nat} (hv : zDv a T C D) {d q : Nat} (hd : d < D.k) (hq : q < 128) : zo (D.p d) = Int32.ofNat q ↔ D.p d = some q := zo_eq (fun e he => by have := zo_bd hv hd he; omega) (by omega)
theorem s_kids_4 {D : zDS} {T C : Nat} (hv : zDv a T C D) (hn : m.1 3 0 0 = Int32.ofNat D.k) (hr : zDr D 0 0 m) {q : Nat} (hq : q < 128) : ∀ (j d : Nat), d ≤ D.k → D.k - d < j → f_X1_children_4 m j (Int32.ofNat q) (Int32.ofNat (z_cnt (fun e => decide (D.p e = some q)) d)) (Int32.ofNat d) = some (Int32.ofNat (z_cnt (fun e => decide (D.p e = some q)) D.k))
  | 0, _, _, h => absurd h (Nat.not_lt_zero _)
  | j + 1, d, hd, hj => by
    have hk := hr.1
    unfold f_X1_children_4
    rw [hn]
    by_cases he : d = D.k
    · subst he
      rw [if_pos (by rw [zi_le (by omega) (by omega)]; omega)]
    · have hdk : d < D.k := by omega
      have ih := s_kids_4 hv hn hr hq j (d + 1) hdk (by omega)
      have q4 : m.1 21 2 d = zo (D.p d) := (hr.2 d hdk).2.2.2.1
      have e : z_cnt (fun e => decide (D.p e = some q)) (d + 1) = z_cnt (fun e => decide (D.p e = some q)) d + if decide (D.p d = some q) = true then 1 else 0 := rfl
      have is := zo_is hv hdk hq
      rw [if_neg (by rw [zi_le (by omega) (by omega)]; omega), s_at' 21 2 (by rw [zl_21]; omega), Option.bind_some, q4, zi_s, zi_s]
      by_cases w : D.p d = some q
      · rw [if_pos (is.mpr w)]
        rw [e, if_pos (by simpa using w)] at ih
        exact ih
      · rw [if_neg (mt is.mp w)]
        rw [e, if_neg (by simpa using w)] at ih
        exact ih
theorem s_mkids_4 {D : zDS} {T C : Nat} (hv : zDv a T C D) (hn : m.1 13 0 21 = Int32.ofNat D.k) (hr : zDr D 3 2 m) {q : Nat} (hq : q < 128) : ∀ (j d : Nat), d ≤ D.k → D.k - d < j → f_X12_children_4 m j (Int32.ofNat q) (Int32.ofNat (z_cnt (fun e => decide (D.p e = some q)) d)) (Int32.ofNat d) = some (Int32.ofNat (z_cnt (fun e => decide (D.p e = some q)) D.k))
  | 0, _, _, h => absurd h (Nat.not_lt_zero _)
  | j + 1, d, hd, hj => by
    have hk := hr.1
    unfold f_X12_children_4
    rw [hn]
    by_cases he : d = D.k
    · subst he
      rw [if_pos (by rw [zi_le (by omega) (by omega)]; omega)]
    · have hdk : d < D.k := by omega
      have ih := s_mkids_4 hv hn hr hq j (d + 1) hdk (by omega)
      have q4 : m.1 21 5 d = zo (D.p d) := (hr.2 d hdk).2.2.2.1
      have e : z_cnt (fun e => decide (D.p e = some q)) (d + 1) = z_cnt (fun e => decide (D.p e = some q)) d + if decide (D.p d = some q) = true then 1 else 0 := rfl
      have is := zo_is hv hdk hq
      rw [if_neg (by rw [zi_le (by omega) (by omega)]; omega), z_gdt (z_in21 (by omega)), zi_nat (by omega), q4, zi_s, zi_s]
      by_cases w : D.p d = some q
      · rw [if_pos (is.mpr w)]
        rw [e, if_pos (by simpa using w)] at ih
        exact ih
      · rw [if_neg (mt is.mp w)]
        rw [e, if_neg (by simpa using w)] at ih
        exact ih
theorem s_cap_111 (v : zGV a) (r : zMR (m.1 23 0) a) {D : zDS} (hr : zDr D 3 2 m) {q : Nat} (hq : q < D.k) (hl : ∀ y, y < a.n → D.t q y = true → a.ht y ≤ D.l q) : ∀ (j c : Nat), c ≤ a.n → a.n - c < j → f_X12_depression_111 j (Int32.ofNat q) (Int32.ofNat (z_tot (fun y => if D.t q y = true then D.l q + 1 - a.ht y else 0) c)) (Int32.ofNat c) m = some (Int32.ofNat (z_tot (fun y => if D.t q y = true then D.l q + 1 - a.ht y else 0) a.n), m)
  | 0, _, _, h => absurd h (Nat.not_lt_zero _)
  | j + 1, c, hc, hj => by
    have n64 := v.n64
    have hk := hr.1
    unfold f_X12_depression_111
    rw [s_mcells r, Option.bind_some]
    by_cases he : c = a.n
    · subst he
      rw [if_pos (by rw [zi_le (by omega) (by omega)]; omega)]
    · have hcn : c < a.n := by omega
      have ih := s_cap_111 v r hr hq hl j (c + 1) hcn (by omega)
      have q2 : m.1 21 4 q = Int32.ofNat (D.l q) := (hr.2 q hq).2.1
      have q6 : ∀ y, zb (m.2.1 31 3 q) y = D.t q y := (hr.2 q hq).2.2.2.2.2
      have tst := z_tst (m.2.1 31 3 q) (show c < 64 by omega)
      rw [q6] at tst
      have e : z_tot (fun y => if D.t q y = true then D.l q + 1 - a.ht y else 0) (c + 1) = z_tot (fun y => if D.t q y = true then D.l q + 1 - a.ht y else 0) c + if D.t q c = true then D.l q + 1 - a.ht c else 0 := rfl
      rw [if_neg (by rw [zi_le (by omega) (by omega)]; omega), z_gdt (z_in31 (by omega)), zi_nat (by omega), zi_s]
      by_cases w : D.t q c = true
      · have := hl c hcn w
        rw [if_pos (tst.mpr w), z_gdt (z_in21 (by omega)), s_mheight r (by omega), Option.bind_some, q2, zi_s, zi_sub (by omega), zi_add]
        rw [e, if_pos w] at ih
        exact ih
      · rw [if_neg (mt tst.mp w)]
        rw [e, if_neg w, Nat.add_zero] at ih
        exact ih
theorem z_cap {S : Nat → Bool} {f : Nat → Nat} {u : Nat} : ∀ {n : Nat}, (∀ y, y < n → S y = true → f y ≤ u) → z_tot (fun y => if S y = true then u - f y else 0) n + z_tot (fun y => if S y = true then f y else 0) n = u * z_cnt S n
  | 0, _ => rfl
  | n + 1, h => by
    have ih := z_cap (n := n) fun y hy => h y (by omega)
    have h2 := h n (by omega)
    unfold z_tot z_cnt
    rw [Nat.mul_add]
    by_cases w : S n = true
    · have := h2 w
      simp only [w, if_true]
      omega
    · simp only [w, Bool.false_eq_true, if_false]
      omega
theorem t_depression (I : zInv m) (x : Int32) (y : Int32) : zAg Int32.toInt64 (f_L_depression x y m) (f_X12_depression x y) := by
  obtain ⟨a, b, n, p, s, l, c, e, I'⟩ := I
  have v := I'.1
  have n64 := v.n64
  unfold f_L_depression
  have hv := zDv.dp v 100
  have kb := hv.kb
  obtain ⟨m1, h1, h2, h3, h4⟩ := s_dfind v (show 0 < 11 by omega) I'.2.1
  have r0 : zGR m1 0 a := I'.2.1.keep h2 fun k i j w => by unfold zGp at w; unfold zPde; omega
  have look : ∀ m', zFr zSc m m' → ∃ m2, f_X12_depressions (z_sI m' 13 0 0 0) = some m2 ∧ zFr zSm m' m2 ∧ m2.1 13 0 0 = 0 ∧ zMR (m2.1 23 0) a ∧ m2.1 13 0 21 = Int32.ofNat (a.dp 100).k ∧ zDr (a.dp 100) 3 2 m2 := fun m' f => by
    have r1 := (I'.keep f).2.2.1.th 0
    obtain ⟨m2, q1, q2, q3, q4⟩ := s_mdeps v r1
    exact ⟨m2, q1, (q2.mono fun k i j => zPdm_m).x13, q2.t0 (by unfold zPdm; omega) (z_th0 _ _), by rw [q2.row (fun j => by unfold zPdm; omega)]; exact r1, q3, q4⟩
  generalize a.dp 100 = D at hv kb h3 h4 look
  rcases z_idx x (k := D.k) (by omega) with ⟨q, hq, rfl, hin⟩ | ⟨hx, hin⟩
  · have c1 := h4.2 q hq
    have f99 := hv.f99 h4 q hq
    obtain ⟨d1, d2, d3, d4, d5, d6⟩ := c1
    have d2' : m1.1 21 1 q = Int32.ofNat (D.l q) := d2
    have d4' : m1.1 21 2 q = zo (D.p q) := d4
    have d6' : ∀ y, zb (m1.2.1 31 1 q) y = D.t q y := d6
    have tn : ∀ y, D.t q y = true → a.pc (D.l q) y = true := fun y hy => by
      obtain ⟨_, _, r, r1, r2, _⟩ := hv.1 q hq
      rw [r2, zG.cs_iff] at hy
      exact zG.pc_cm v r1 hy
    have hl : ∀ y, y < a.n → D.t q y = true → a.ht y ≤ D.l q := fun y _ hy => (zG.lo_iff.mp (zG.pc_iff.mp (tn y hy)).1).2
    have tset : ∀ d, d < 64 → zb (m1.2.1 31 1 q) d = (decide (d < a.n) && D.t q d) := fun d _ => by
      rw [d6']
      cases w : D.t q d with
      | false => simp
      | true => simp [zG.pc_n (tn d w)]
    obtain ⟨lo, l1, l2, l3⟩ : ∃ lo, lo < 64 ∧ D.u q lo = true ∧ ∀ y, y < lo → D.u q y = false := by
      obtain ⟨_, r, r1, r2⟩ := hv.2.2.2.2.1 q hq
      have ur : D.u q r = true := by rw [r2, zG.cs_iff]; exact zG.cm_refl (zG.pc_iff.mp r1).1
      obtain ⟨lo, l1, l2⟩ := z_least_ex (P := fun y => D.u q y = true) ⟨r, ur⟩
      have : lo ≤ r := Nat.not_lt.mp fun w => l2 r w ur
      have := zG.pc_n r1
      exact ⟨lo, by omega, l1, fun y hy => by cases w : D.u q y with
        | false => rfl
        | true => exact absurd w (l2 y hy)⟩
    rcases z_rng y (lo := 0) (hi := 7) (by omega) (by omega) with ⟨k, _, k2, rfl, g1, g2⟩ | ⟨g0, g1, g2⟩
    · have hk : k = 0 ∨ k = 1 ∨ k = 2 ∨ k = 3 ∨ k = 4 ∨ k = 5 ∨ k = 6 ∨ k = 7 := by omega
      refine zAg.ok Int32.toInt64 I'.of (v := if k = 0 then Int32.ofNat (D.f q) else if k = 1 then Int32.ofNat (D.l q) else if k = 2 then Int32.ofNat (z_cnt (D.t q) 64) else if k = 3 then Int32.ofNat (z_tot (fun y => if D.t q y = true then D.l q + 1 - a.ht y else 0) a.n) else if k = 4 then Int32.ofNat lo else if k = 5 then zo (D.p q) else if k = 6 then Int32.ofNat (z_cnt (fun e => decide (D.p e = some q)) D.k) else Int32.ofNat (D.dt D.k q)) ?_ fun m' f => ?_
      · unfold f_X11_depression zCl
        rw [h1, Option.bind_some, if_neg (zi_nn (by omega)), h3, if_pos (by rw [zi_lt (by omega) (by omega)]; exact hq), show (0 : Int32) = Int32.ofNat 0 from rfl, show (7 : Int32) = Int32.ofNat 7 from rfl, g1, zbx_l]
        refine ⟨m1, ?_, h2.mono fun k i j => zPde_c⟩
        rcases hk with rfl | rfl | rfl | rfl | rfl | rfl | rfl | rfl
        · rw [if_pos (by decide), s_at' 21 0 (by rw [zl_21]; omega), Option.bind_some, d1]
          rfl
        · rw [if_neg (by decide), if_pos (by decide), s_at' 21 1 (by rw [zl_21]; omega), Option.bind_some, d2']
          rfl
        · rw [if_neg (by decide), if_neg (by decide), if_pos (by decide), s_al 31 1 (by rw [zl_31]; omega), Option.bind_some, z_bitCount, Option.bind_some, show zb (m1.2.1 31 1 q) = D.t q from funext d6']
          rfl
        · have cp := z_cap (S := D.t q) (f := a.ht) (u := D.l q + 1) (n := a.n) fun y hy w => by have := hl y hy w; omega
          rw [if_neg (by decide), if_neg (by decide), if_neg (by decide), if_pos (by decide)]
          unfold f_X1_capacity f_X1_rim
          rw [s_al 31 1 (by rw [zl_31]; omega), Option.bind_some, s_at' 21 1 (by rw [zl_21]; omega), Option.bind_some, Option.bind_some, d2', zi_s, s_bitn v tset, Option.bind_some, show 3 * 0 = 0 from rfl, s_sumn v 0 tset fun e he _ => r0.ht e (by omega), Option.bind_some, zi_mul, ← cp, zi_sub (by omega), Nat.add_sub_cancel, Option.bind_some]
          rfl
        · rw [if_neg (by decide), if_neg (by decide), if_neg (by decide), if_neg (by decide), if_pos (by decide), s_al 31 0 (by rw [zl_31]; omega), Option.bind_some, s_lowest _ l1 (by rw [d5]; exact l2) (fun y hy => by rw [d5]; exact l3 y hy), Option.bind_some]
          rfl
        · rw [if_neg (by decide), if_neg (by decide), if_neg (by decide), if_neg (by decide), if_neg (by decide), if_pos (by decide), s_at' 21 2 (by rw [zl_21]; omega), Option.bind_some, d4']
          rfl
        · have kd := s_kids_4 hv h3 h4 (show q < 128 by omega) zF 0 (Nat.zero_le _) (zF_lt (by omega))
          rw [if_neg (by decide), if_neg (by decide), if_neg (by decide), if_neg (by decide), if_neg (by decide), if_neg (by decide), if_pos (by decide)]
          unfold f_X1_children
          rw [show (0 : Int32) = Int32.ofNat 0 from rfl]
          rw [show Int32.ofNat 0 = Int32.ofNat (z_cnt (fun e => decide (D.p e = some q)) 0) from rfl]
          rw [show f_X1_children_4 m1 zF (Int32.ofNat q) (Int32.ofNat (z_cnt (fun e => decide (D.p e = some q)) 0)) (Int32.ofNat (z_cnt (fun e => decide (D.p e = some q)) 0)) = _ from kd, Option.bind_some]
          rfl
        · have tr := s_tree_14 hv h4 zF D.k q 0 (by omega) hq (zF_lt (by omega)) (Nat.zero_le _)
          rw [if_neg (by decide), if_neg (by decide), if_neg (by decide), if_neg (by decide), if_neg (by decide), if_neg (by decide), if_neg (by decide)]
          unfold f_X1_depthInTree
          rw [s_at' 21 2 (by rw [zl_21]; omega), Option.bind_some, d4', show (0 : Int32) = Int32.ofNat 0 from rfl, tr, Option.bind_some, Nat.zero_add]
          rfl
      · obtain ⟨m2, q1, q2, q3, q4, q5, q6⟩ := look m' f
        obtain ⟨e1, e2, e3, e4, e5, e6⟩ := q6.2 q hq
        have e2' : m2.1 21 4 q = Int32.ofNat (D.l q) := e2
        have e4' : m2.1 21 5 q = zo (D.p q) := e4
        have e6' : ∀ y, zb (m2.2.1 31 3 q) y = D.t q y := e6
        unfold zAn f_X12_depression
        rw [q1, Option.bind_some, q5, hin, Option.bind_some, if_neg (by decide)]
        refine ⟨_, m2, ?_, q2, q3, rfl⟩
        rcases hk with rfl | rfl | rfl | rfl | rfl | rfl | rfl | rfl
        · rw [if_pos (by decide), z_gdt (z_in21 (by omega)), zi_nat (by omega), e1]
          rfl
        · rw [if_neg (by decide), if_pos (by decide), z_gdt (z_in21 (by omega)), zi_nat (by omega), e2']
          rfl
        · rw [if_neg (by decide), if_neg (by decide), if_pos (by decide), z_gdt (z_in31 (by omega)), zi_nat (by omega), z_bitCount, Option.bind_some, show zb (m2.2.1 31 3 q) = D.t q from funext e6']
          rfl
        · have cp := s_cap_111 v q4 q6 hq hl zF 0 (Nat.zero_le _) (zF_lt (by omega))
          rw [if_neg (by decide), if_neg (by decide), if_neg (by decide), if_pos (by decide)]
          exact cp
        · rw [if_neg (by decide), if_neg (by decide), if_neg (by decide), if_neg (by decide), if_pos (by decide), z_gdt (z_in31 (by omega)), zi_nat (by omega), s_trailing _ l1 (by rw [e5]; exact l2) (fun y hy => by rw [e5]; exact l3 y hy), Option.bind_some]
          rfl
        · rw [if_neg (by decide), if_neg (by decide), if_neg (by decide), if_neg (by decide), if_neg (by decide), if_pos (by decide), z_gdt (z_in21 (by omega)), zi_nat (by omega), e4']
          rfl
        · have kd := s_mkids_4 hv q5 q6 (show q < 128 by omega) zF 0 (Nat.zero_le _) (zF_lt (by omega))
          rw [if_neg (by decide), if_neg (by decide), if_neg (by decide), if_neg (by decide), if_neg (by decide), if_neg (by decide), if_pos (by decide)]
          unfold f_X12_children
          rw [show f_X12_children_4 m2 zF (Int32.ofNat q) (0 : Int32) (0 : Int32) = _ from kd, Option.bind_some]
          rfl
        · have tr := s_mtree_191 hv q6 zF D.k q 0 (by omega) hq (zF_lt (by omega))
          rw [Nat.zero_add] at tr
          rw [if_neg (by decide), if_neg (by decide), if_neg (by decide), if_neg (by decide), if_neg (by decide), if_neg (by decide), if_neg (by decide), if_pos (by decide)]
          exact tr
    · refine zAg.ex Int32.toInt64 I'.of (x := 0) (k := 2) ?_ rfl fun m' f => ?_
      · unfold f_X11_depression zCl
        rw [h1, Option.bind_some, if_neg (zi_nn (by omega)), h3, if_pos (by rw [zi_lt (by omega) (by omega)]; exact hq), show (0 : Int32) = Int32.ofNat 0 from rfl, show (7 : Int32) = Int32.ofNat 7 from rfl, g1, zbx_r]
        exact ⟨m1, rfl, h2.mono fun k i j => zPde_c⟩
      · obtain ⟨m2, q1, q2, q3, q4, q5, q6⟩ := look m' f
        unfold zAn f_X12_depression
        rw [q1, Option.bind_some, q5, hin, Option.bind_some, if_neg (by decide), if_neg (show ¬ y = (0 : Int32) from g0 0 (by omega) (by omega)), if_neg (show ¬ y = (1 : Int32) from g0 1 (by omega) (by omega)), if_neg (show ¬ y = (2 : Int32) from g0 2 (by omega) (by omega)), if_neg (show ¬ y = (3 : Int32) from g0 3 (by omega) (by omega)), if_neg (show ¬ y = (4 : Int32) from g0 4 (by omega) (by omega)), if_neg (show ¬ y = (5 : Int32) from g0 5 (by omega) (by omega)), if_neg (show ¬ y = (6 : Int32) from g0 6 (by omega) (by omega)), if_neg (show ¬ y = (7 : Int32) from g0 7 (by omega) (by omega))]
        exact ⟨0, _, rfl, q2.trans (z_th _ 2), by decide, z_th0 _ _⟩
  · refine zAg.ex Int32.toInt64 I'.of (x := 1) (k := 1) ?_ rfl fun m' f => ?_
    · unfold f_X11_depression zCl
      rw [h1, Option.bind_some, h3]
      refine ⟨m1, ?_, h2.mono fun k i j => zPde_c⟩
      rcases hx with w | ⟨q, qb, q1, rfl⟩
      · rw [if_pos w]
      · rw [if_neg (zi_nn qb), if_neg (by rw [zi_lt qb (by omega)]; omega)]
    · obtain ⟨m2, q1, q2, q3, q4, q5, q6⟩ := look m' f
      unfold zAn f_X12_depression
      rw [q1, Option.bind_some, q5, hin, Option.bind_some, if_pos (by decide)]
      exact ⟨0, _, rfl, q2.trans (z_th _ 1), by decide, z_th0 _ _⟩
end
