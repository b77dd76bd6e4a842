/-! raise. -/
def zcl (h : Nat) (i : Int) : Nat := (max 0 (min 99 ((h : Int) + i))).toNat
theorem zcl99 (h : Nat) (i : Int) : zcl h i ≤ 99 := by
  unfold zcl
  omega
theorem s_clamp {h : Nat} (hh : h ≤ 99) {x : Int32} (h1 : -99 ≤ x.toInt) (h2 : x.toInt ≤ 99) (m : zM) : ∃ y, f_J9_min_7cf53 99 (Int32.ofNat h + x) m = some y ∧ ∀ m, f_J9_max_7cf53 0 y m = some (Int32.ofNat (zcl h x.toInt)) := by
  have hs : (Int32.ofNat h + x).toInt = (h : Int) + x.toInt := by
    rw [Int32.toInt_add, zi_toInt (by omega)]
    exact Int.bmod_eq_of_le (by omega) (by omega)
  have e99 : (99 : Int32).toInt = 99 := rfl
  have e0 : (0 : Int32).toInt = 0 := rfl
  have ec : (Int32.ofNat (zcl h x.toInt)).toInt = zcl h x.toInt := zi_toInt (by have := zcl99 h x.toInt; omega)
  unfold f_J9_min_7cf53 f_J9_max_7cf53
  have key : ∀ y : Int32, y.toInt = min 99 ((h : Int) + x.toInt) → (if 0 < y then some y else some (0 : Int32)) = some (Int32.ofNat (zcl h x.toInt)) := fun y hy => by
    by_cases w : 0 < y
    · rw [if_pos w]
      rw [Int32.lt_iff_toInt_lt] at w
      refine congrArg some (Int32.toInt_inj.mp ?_)
      rw [ec]
      unfold zcl
      omega
    · rw [if_neg w]
      rw [Int32.lt_iff_toInt_lt] at w
      refine congrArg some (Int32.toInt_inj.mp ?_)
      rw [ec]
      unfold zcl
      omega
  by_cases w : Int32.ofNat h + x < 99
  · rw [if_pos w]
    rw [Int32.lt_iff_toInt_lt] at w
    exact ⟨_, rfl, fun _ => key _ (by omega)⟩
  · rw [if_neg w]
    rw [Int32.lt_iff_toInt_lt] at w
    exact ⟨_, rfl, fun _ => key _ (by omega)⟩
theorem z_rngm (x : Int32) : (-99 ≤ x.toInt ∧ x.toInt ≤ 99 ∧ (∀ m, f_X11_requireRange x (-99) 99 m = some (.inl (), m)) ∧ ∀ m, f_X12_in (Int32.toInt64 x) (-99 : Int64) (99 : Int64) m = some true) ∨ ((∀ m, f_X11_requireRange x (-99) 99 m = some (.inr 0, m)) ∧ ∀ m, f_X12_in (Int32.toInt64 x) (-99 : Int64) (99 : Int64) m = some false) := by
  have e1 : (-99 : Int32).toInt = -99 := rfl
  have e2 : (99 : Int32).toInt = 99 := rfl
  have e3 : (-99 : Int64).toInt = -99 := rfl
  have e4 : (99 : Int64).toInt = 99 := rfl
  by_cases w : -99 ≤ x.toInt ∧ x.toInt ≤ 99
  · refine .inl ⟨w.1, w.2, fun m => ?_, fun m => ?_⟩
    · unfold f_X11_requireRange
      rw [if_neg (by rw [Int32.lt_iff_toInt_lt]; omega), if_pos (by rw [Int32.le_iff_toInt_le]; omega)]
    · rw [s_in]
      congr 1
      rw [decide_eq_true_eq, Int64.le_iff_toInt_le, Int64.le_iff_toInt_le, zi_64]
      omega
  · refine .inr ⟨fun m => ?_, fun m => ?_⟩
    · unfold f_X11_requireRange
      by_cases w2 : x < -99
      · rw [if_pos w2]
      · rw [if_neg w2]
        rw [Int32.lt_iff_toInt_lt] at w2
        rw [if_neg (by rw [Int32.le_iff_toInt_le]; omega)]
    · rw [s_in]
      congr 1
      rw [decide_eq_false_iff_not, Int64.le_iff_toInt_le, Int64.le_iff_toInt_le, zi_64]
      omega
section
variable {a : zG} {b : Nat → zG} {n p : Nat} {s : Option zG} {l : Nat} {c : Nat → Nat} {e : Option Nat} {m : zM}
def zG.rc (a : zG) (c o d : Nat) : Bool := decide (d < a.n) && (decide (min (c % a.w) (o % a.w) ≤ d % a.w) && decide (d % a.w ≤ max (c % a.w) (o % a.w)) && (decide (min (c / a.w) (o / a.w) ≤ d / a.w) && decide (d / a.w ≤ max (c / a.w) (o / a.w))))
theorem zG.rc_iff {c o d : Nat} : a.rc c o d = true ↔ d < a.n ∧ (min (c % a.w) (o % a.w) ≤ d % a.w ∧ d % a.w ≤ max (c % a.w) (o % a.w)) ∧ min (c / a.w) (o / a.w) ≤ d / a.w ∧ d / a.w ≤ max (c / a.w) (o / a.w) := by
  unfold zG.rc
  simp only [Bool.and_eq_true, decide_eq_true_eq]
def zG.rF (a : zG) (i : Int) (d : Nat) : Nat := zcl (a.ht d) i
def zG.rk' (a : zG) (c o : Nat) (i : Int) (k : Nat) : Nat := z_cnt (fun d => z_bel (a.rc c o) k d && !(decide (a.rF i d = a.ht d))) a.n
theorem zG.rk'_s {c o : Nat} {i : Int} {k : Nat} (hk : k < a.n) : a.rk' c o i (k + 1) = a.rk' c o i k + if a.rc c o k = true ∧ a.rF i k ≠ a.ht k then 1 else 0 := by
  unfold zG.rk'
  by_cases w : a.rc c o k = true ∧ a.rF i k ≠ a.ht k
  · rw [if_pos w]
    refine z_cnt_one (x := k) hk (fun d _ hd => ?_) ?_ ?_
    · rw [z_bel_s, if_pos w.1]
      simp [hd]
    · unfold z_bel
      simp
    · rw [z_bel_s, if_pos w.1]
      simp [w.2]
  · rw [if_neg w]
    refine z_cnt_ext fun d _ => ?_
    rw [z_bel_s]
    by_cases w2 : a.rc c o k = true
    · rw [if_pos w2]
      by_cases hd : d = k
      · subst hd
        have : a.rF i d = a.ht d := Classical.byContradiction fun q => w ⟨w2, q⟩
        simp [this]
      · simp [hd]
    · rw [if_neg w2]
theorem zG.rk'_le {c o : Nat} {i : Int} {k : Nat} : a.rk' c o i k ≤ a.n := z_cnt_le _ _
theorem zG.rc_row (v : zGV a) {c o : Nat} {d y : Nat} (h : a.rc c o d = true) : (d < y * a.w + (max (c % a.w) (o % a.w) + 1) ↔ d / a.w ≤ y) ∧ (d < y * a.w + min (c % a.w) (o % a.w) ↔ d / a.w < y) := by
  obtain ⟨h1, ⟨h2, h3⟩, h4, h5⟩ := zG.rc_iff.mp h
  have w0 := v.w0
  have e := Nat.div_add_mod d a.w
  have m1 := Nat.mod_lt c w0
  have m2 := Nat.mod_lt o w0
  have m3 := Nat.mod_lt d w0
  have up : ∀ {p q : Nat}, p ≤ q → a.w * p ≤ a.w * q := fun h => Nat.mul_le_mul_left _ h
  rw [Nat.mul_comm y]
  refine ⟨⟨fun q => ?_, fun q => ?_⟩, ⟨fun q => ?_, fun q => ?_⟩⟩
  · refine Nat.le_of_not_lt fun z => ?_
    have := up (show y + 1 ≤ d / a.w from z)
    rw [Nat.mul_succ] at this
    omega
  · have := up q
    omega
  · refine Nat.lt_of_not_le fun z => ?_
    have := up z
    omega
  · have := up (show d / a.w + 1 ≤ y from q)
    rw [Nat.mul_succ] at this
    omega
theorem z_bel_e {S : Nat → Bool} {k k' : Nat} (h : ∀ d, S d = true → (d < k ↔ d < k')) : z_bel S k = z_bel S k' := funext fun d => by
  unfold z_bel
  cases hs : S d with
  | false => rfl
  | true => simp [h d hs]
theorem z_min99 {x y : Nat} (hx : x < 2147483648) (hy : y < 2147483648) (m : zM) : f_J9_min_7cf53 (Int32.ofNat x) (Int32.ofNat y) m = some (Int32.ofNat (min x y)) := z_min hx hy m
theorem s_rr_78 (v : zGV a) {c o : Nat} (hc : c < a.n) (ho : o < a.n) {x : Int32} (h1 : -99 ≤ x.toInt) (h2 : x.toInt ≤ 99) {y : Nat} (hy1 : min (c / a.w) (o / a.w) ≤ y) (hy2 : y ≤ max (c / a.w) (o / a.w)) (K : Int32 → Int32 → Int32 → Int32 → Int32 → Int32 → zM → Option (Int32 × zM)) : ∀ (j k : Nat) (m : zM), min (c % a.w) (o % a.w) ≤ k → k ≤ max (c % a.w) (o % a.w) + 1 → max (c % a.w) (o % a.w) + 1 - k < j → zGR m 0 (a.ups (z_bel (a.rc c o) (y * a.w + k)) (a.rF x.toInt)) →
    ∃ m', f_X4_raiseRectangle_78 0 K j x (Int32.ofNat (min (c % a.w) (o % a.w))) (Int32.ofNat (max (c % a.w) (o % a.w))) (Int32.ofNat (max (c / a.w) (o / a.w))) (Int32.ofNat (a.rk' c o x.toInt (y * a.w + k))) (Int32.ofNat y) (Int32.ofNat k) m = K x (Int32.ofNat (min (c % a.w) (o % a.w))) (Int32.ofNat (max (c % a.w) (o % a.w))) (Int32.ofNat (max (c / a.w) (o / a.w))) (Int32.ofNat (a.rk' c o x.toInt (y * a.w + (max (c % a.w) (o % a.w) + 1)))) (Int32.ofNat (y + 1)) m' ∧ zFr (zGp 0) m m' ∧ zGR m' 0 (a.ups (z_bel (a.rc c o) (y * a.w + (max (c % a.w) (o % a.w) + 1))) (a.rF x.toInt))
  | 0, _, _, _, _, h, _ => absurd h (Nat.not_lt_zero _)
  | j + 1, k, m, hk1, hk2, hj, r => by
    have n64 := v.n64
    have w8 := v.w8
    have w0 := v.w0
    have h8 := v.h8
    have m1 := Nat.mod_lt c w0
    have m2 := Nat.mod_lt o w0
    have r1 := v.row hc
    have r2 := v.row ho
    unfold f_X4_raiseRectangle_78
    by_cases he : k = max (c % a.w) (o % a.w) + 1
    · subst he
      rw [if_pos (by rw [zi_lt (by omega) (by omega)]; omega), zi_s]
      exact ⟨m, rfl, zFr.refl m, r⟩
    · have hkw : k < a.w := by omega
      have hyh : y < a.h := by omega
      have hd : y * a.w + k < a.n := by
        have : (y + 1) * a.w ≤ a.h * a.w := Nat.mul_le_mul_right _ hyh
        rw [Nat.succ_mul] at this
        show _ < a.w * a.h
        rw [Nat.mul_comm a.w]
        omega
      have hin : a.rc c o (y * a.w + k) = true := by
        have e1 : (y * a.w + k) % a.w = k := by rw [Nat.mul_comm, Nat.mul_add_mod, Nat.mod_eq_of_lt hkw]
        have e2 : (y * a.w + k) / a.w = y := by rw [Nat.mul_comm, Nat.mul_add_div w0, Nat.div_eq_of_lt hkw, Nat.add_zero]
        exact zG.rc_iff.mpr ⟨hd, by rw [e1]; omega, by rw [e2]; omega⟩
      have hht := v.ht (y * a.w + k)
      have hold : (a.ups (z_bel (a.rc c o) (y * a.w + k)) (a.rF x.toInt)).ht (y * a.w + k) = a.ht (y * a.w + k) := by
        rw [zG.ups_ht]
        refine if_neg ?_
        unfold z_bel
        simp
      have rw0 : m.1 6 0 0 = Int32.ofNat a.w := r.w
      obtain ⟨z, c1, c2⟩ := s_clamp hht h1 h2 m
      have fr : zFr (zGp 0) m (z_sI m 20 0 (y * a.w + k) (Int32.ofNat (a.rF x.toInt (y * a.w + k)))) := zFr.sI (zFr.refl m) _ (by unfold zGp; omega)
      have rn := r.sH (c := y * a.w + k) (a.rF x.toInt (y * a.w + k))
      rw [← zG.ups_b.1 hin] at rn
      have ih := s_rr_78 v hc ho h1 h2 hy1 hy2 K j (k + 1) (z_sI m 20 0 (y * a.w + k) (Int32.ofNat (a.rF x.toInt (y * a.w + k)))) (by omega) (by omega) (by omega) rn
      rw [show y * a.w + (k + 1) = y * a.w + k + 1 from rfl, zG.rk'_s hd] at ih
      obtain ⟨m', p1, p2, p3⟩ := ih
      rw [if_neg (by rw [zi_lt (by omega) (by omega)]; omega), rw0, zi_mul, zi_add, s_at' 20 (3 * 0) (show y * a.w + k < 64 by omega), Option.bind_some, show m.1 20 (3 * 0) (y * a.w + k) = Int32.ofNat (a.ht (y * a.w + k)) from (r.ht _ (by omega)).trans (by rw [hold]), c1, Option.bind_some, c2, Option.bind_some, s_put 20 (3 * 0) (show y * a.w + k < 64 by omega), Option.bind_some, zi_s]
      refine ⟨m', ?_, fr.trans p2, p3⟩
      by_cases w : a.rF x.toInt (y * a.w + k) = a.ht (y * a.w + k)
      · rw [if_neg (fun q => q.2 w)] at p1
        rw [if_pos (by show Int32.ofNat (a.rF x.toInt (y * a.w + k)) = _; rw [w])]
        exact p1
      · rw [if_pos ⟨hin, w⟩] at p1
        rw [if_neg (by show ¬ Int32.ofNat (a.rF x.toInt (y * a.w + k)) = _; rw [zi_eq (by have := zcl99 (a.ht (y * a.w + k)) x.toInt; unfold zG.rF; omega) (by omega)]; exact w), zi_s]
        exact p1
theorem s_rr_67 (v : zGV a) {c o : Nat} (hc : c < a.n) (ho : o < a.n) {x : Int32} (h1 : -99 ≤ x.toInt) (h2 : x.toInt ≤ 99) : ∀ (j y : Nat) (m : zM), min (c / a.w) (o / a.w) ≤ y → y ≤ max (c / a.w) (o / a.w) + 1 → max (c / a.w) (o / a.w) + 1 - y < j → zGR m 0 (a.ups (z_bel (a.rc c o) (y * a.w + min (c % a.w) (o % a.w))) (a.rF x.toInt)) →
    ∃ m', f_X4_raiseRectangle_67 0 j x (Int32.ofNat (min (c % a.w) (o % a.w))) (Int32.ofNat (max (c % a.w) (o % a.w))) (Int32.ofNat (max (c / a.w) (o / a.w))) (Int32.ofNat (a.rk' c o x.toInt (y * a.w + min (c % a.w) (o % a.w)))) (Int32.ofNat y) m = some (Int32.ofNat (a.rk' c o x.toInt a.n), m') ∧ zFr (zGp 0) m m' ∧ zGR m' 0 (a.ups (z_bel (a.rc c o) a.n) (a.rF x.toInt))
  | 0, _, _, _, _, h, _ => absurd h (Nat.not_lt_zero _)
  | j + 1, y, m, hy1, hy2, hj, r => by
    have n64 := v.n64
    have w8 := v.w8
    have w0 := v.w0
    have h8 := v.h8
    have m1 := Nat.mod_lt c w0
    have m2 := Nat.mod_lt o w0
    have r1 := v.row hc
    have r2 := v.row ho
    unfold f_X4_raiseRectangle_67
    by_cases he : y = max (c / a.w) (o / a.w) + 1
    · have e : z_bel (a.rc c o) (y * a.w + min (c % a.w) (o % a.w)) = z_bel (a.rc c o) a.n := z_bel_e fun d hd => by
        have q := (zG.rc_row v hd (y := y)).2
        obtain ⟨g1, _, _, g4⟩ := zG.rc_iff.mp hd
        rw [q]
        omega
      have e' : a.rk' c o x.toInt (y * a.w + min (c % a.w) (o % a.w)) = a.rk' c o x.toInt a.n := by
        unfold zG.rk'
        rw [e]
      rw [if_pos (by rw [zi_lt (by omega) (by omega)]; omega), e']
      rw [e] at r
      exact ⟨m, rfl, zFr.refl m, r⟩
    · rw [if_neg (by rw [zi_lt (by omega) (by omega)]; omega)]
      obtain ⟨m1, p1, p2, p3⟩ := s_rr_78 v hc ho h1 h2 hy1 (by omega) (f_X4_raiseRectangle_67 0 j) zF (min (c % a.w) (o % a.w)) m (Nat.le_refl _) (by omega) (zF_lt (by omega)) r
      have e : z_bel (a.rc c o) (y * a.w + (max (c % a.w) (o % a.w) + 1)) = z_bel (a.rc c o) ((y + 1) * a.w + min (c % a.w) (o % a.w)) := z_bel_e fun d hd => by
        rw [(zG.rc_row v hd (y := y)).1, (zG.rc_row v hd (y := y + 1)).2]
        omega
      have e' : a.rk' c o x.toInt (y * a.w + (max (c % a.w) (o % a.w) + 1)) = a.rk' c o x.toInt ((y + 1) * a.w + min (c % a.w) (o % a.w)) := by
        unfold zG.rk'
        rw [e]
      rw [e'] at p1
      rw [e] at p3
      obtain ⟨m', q1, q2, q3⟩ := s_rr_67 v hc ho h1 h2 j (y + 1) m1 (by omega) (by omega) (by omega) p3
      exact ⟨m', p1.trans q1, p2.trans q2, q3⟩
theorem s_rr (v : zGV a) {c o : Nat} (hc : c < a.n) (ho : o < a.n) {x : Int32} (h1 : -99 ≤ x.toInt) (h2 : x.toInt ≤ 99) {m : zM} (r : zGR m 0 a) : ∃ m', f_X4_raiseRectangle 0 (Int32.ofNat c) (Int32.ofNat o) x m = some (Int32.ofNat (a.rk' c o x.toInt a.n), m') ∧ zFr (zGp 0) m m' ∧ zGR m' 0 (a.ups (z_bel (a.rc c o) a.n) (a.rF x.toInt)) := by
  have n64 := v.n64
  have w8 := v.w8
  have w0 := v.w0
  have h8 := v.h8
  have m1 := Nat.mod_lt c w0
  have m2 := Nat.mod_lt o w0
  have r1 := v.row hc
  have r2 := v.row ho
  have e : ∀ d, z_bel (a.rc c o) (min (c / a.w) (o / a.w) * a.w + min (c % a.w) (o % a.w)) d = false := fun d => by
    unfold z_bel
    cases hd : a.rc c o d with
    | false => rfl
    | true =>
      have q := (zG.rc_row v hd (y := min (c / a.w) (o / a.w))).2
      obtain ⟨g1, _, g3, g4⟩ := zG.rc_iff.mp hd
      simp only [Bool.true_and, decide_eq_false_iff_not]
      rw [q]
      omega
  have e' : a.rk' c o x.toInt (min (c / a.w) (o / a.w) * a.w + min (c % a.w) (o % a.w)) = 0 := z_cnt_0.mpr fun d _ => by rw [e d]; rfl
  obtain ⟨m', p1, p2, p3⟩ := s_rr_67 v hc ho h1 h2 zF (min (c / a.w) (o / a.w)) m (Nat.le_refl _) (by omega) (Nat.lt_of_le_of_lt (Nat.sub_le _ _) (zF_lt (by omega))) (by rw [zG.ups_0 e]; exact r)
  rw [e'] at p1
  unfold f_X4_raiseRectangle
  rw [s_col v r (by omega), Option.bind_some, s_col v r (by omega), Option.bind_some, z_min (by omega) (by omega), Option.bind_some, Option.bind_some, Option.bind_some, z_max (by omega) (by omega), Option.bind_some, s_row v r (by omega), Option.bind_some, s_row v r (by omega), Option.bind_some, z_min (by omega) (by omega), Option.bind_some, Option.bind_some, Option.bind_some, z_max (by omega) (by omega), Option.bind_some]
  exact ⟨m', p1, p2, p3⟩
theorem s_rm_65 (v : zGV a) {c o : Nat} (hc : c < a.n) (ho : o < a.n) {x : Int32} (h1 : -99 ≤ x.toInt) (h2 : x.toInt ≤ 99) : ∀ (j k : Nat) (m : zM), k ≤ a.n → a.n - k < j → zMR (m.1 23 0) (a.ups (z_bel (a.rc c o) k) (a.rF x.toInt)) →
    ∃ m', f_X12_raise_65 j (Int32.ofNat c) (Int32.ofNat o) x (Int32.ofNat a.w) (Int32.ofNat (a.rk' c o x.toInt k)) (Int32.ofNat k) m = some (Int32.ofNat (a.rk' c o x.toInt a.n), m') ∧ zFr (fun k i _ => k = 23 ∧ i = 0) m m' ∧ zMR (m'.1 23 0) (a.ups (z_bel (a.rc c o) a.n) (a.rF x.toInt))
  | 0, _, _, _, h, _ => absurd h (Nat.not_lt_zero _)
  | j + 1, k, m, hk, hj, r => by
    have n64 := v.n64
    have w8 := v.w8
    have w0 := v.w0
    have h8 := v.h8
    have m1 := Nat.mod_lt c w0
    have m2 := Nat.mod_lt o w0
    have m3 := Nat.mod_lt k w0
    have r1 := v.row hc
    have r2 := v.row ho
    unfold f_X12_raise_65
    rw [show f_X12_cells m = some (Int32.ofNat a.n) from s_mcells (a := a.ups (z_bel (a.rc c o) k) (a.rF x.toInt)) r, Option.bind_some]
    by_cases he : k = a.n
    · subst he
      rw [if_pos (by rw [zi_le (by omega) (by omega)]; omega)]
      exact ⟨m, rfl, zFr.refl m, r⟩
    · have hkn : k < a.n := by omega
      have r3 := v.row hkn
      have hz : z_nz (Int32.ofNat a.w) = true := by
        unfold z_nz
        rw [decide_eq_true_eq, zi_0 (by omega)]
        omega
      have no : a.rc c o k = false → ∃ m', f_X12_raise_65 j (Int32.ofNat c) (Int32.ofNat o) x (Int32.ofNat a.w) (Int32.ofNat (a.rk' c o x.toInt k)) (Int32.ofNat (k + 1)) m = some (Int32.ofNat (a.rk' c o x.toInt a.n), m') ∧ zFr (fun k i _ => k = 23 ∧ i = 0) m m' ∧ zMR (m'.1 23 0) (a.ups (z_bel (a.rc c o) a.n) (a.rF x.toInt)) := fun hr => by
        have ih := s_rm_65 v hc ho h1 h2 j (k + 1) m (by omega) (by omega) (by rw [zG.ups_b.2 hr]; exact r)
        rw [zG.rk'_s hkn, if_neg (fun q => by rw [hr] at q; cases q.1)] at ih
        exact ih
      rw [if_neg (by rw [zi_le (by omega) (by omega)]; omega), z_gdt hz, zi_rem (by omega) (by omega), zi_rem (by omega) (by omega), zi_rem (by omega) (by omega), z_min (by omega) (by omega), Option.bind_some, z_gdt hz, z_max (by omega) (by omega), Option.bind_some, s_in32 _ _ _ (by omega) (by omega) (by omega), Option.bind_some, zi_s]
      by_cases w1 : min (c % a.w) (o % a.w) ≤ k % a.w ∧ k % a.w ≤ max (c % a.w) (o % a.w)
      · rw [if_neg (by rw [zi_bi0, decide_eq_false_iff_not]; exact fun y => y w1), z_gdt hz, zi_div (by omega) (by omega), zi_div (by omega) (by omega), zi_div (by omega) (by omega), z_min (by omega) (by omega), Option.bind_some, z_gdt hz, z_max (by omega) (by omega), Option.bind_some, s_in32 _ _ _ (by omega) (by omega) (by omega), Option.bind_some]
        by_cases w2 : min (c / a.w) (o / a.w) ≤ k / a.w ∧ k / a.w ≤ max (c / a.w) (o / a.w)
        · have hin : a.rc c o k = true := zG.rc_iff.mpr ⟨hkn, w1, w2⟩
          have hht := v.ht k
          have hold : (a.ups (z_bel (a.rc c o) k) (a.rF x.toInt)).ht k = a.ht k := by
            rw [zG.ups_ht]
            refine if_neg ?_
            unfold z_bel
            simp
          have hh : f_X12_height (Int32.ofNat k) m = some (Int32.ofNat (a.ht k)) := (s_mheight r (by omega)).trans (by rw [hold])
          obtain ⟨z, c1, c2⟩ := s_clamp hht h1 h2 m
          have fr : zFr (fun k i _ => k = 23 ∧ i = 0) m (z_sI m 23 0 (3 + k) (Int32.ofNat (a.rF x.toInt k))) := zFr.sI (zFr.refl m) _ ⟨rfl, rfl⟩
          have rn := r.sH (c := k) (by omega) (a.rF x.toInt k)
          rw [← zG.ups_b.1 hin] at rn
          have ih := s_rm_65 v hc ho h1 h2 j (k + 1) _ (by omega) (by omega) rn
          rw [zG.rk'_s hkn] at ih
          obtain ⟨m', p1, p2, p3⟩ := ih
          rw [if_neg (by rw [zi_bi0, decide_eq_false_iff_not]; exact fun y => y w2), hh, Option.bind_some, c1, Option.bind_some, c2, Option.bind_some, Option.bind_some]
          refine ⟨m', ?_, fr.trans p2, p3⟩
          unfold f_X12_raise_182
          rw [show (3 : Int32) = Int32.ofNat 3 from rfl, zi_add, z_gdt (z_in23 (by omega)), z_gdt (z_in23 (by omega)), zi_nat (by omega), zi_s]
          by_cases w : a.rF x.toInt k = a.ht k
          · rw [if_neg (fun q => q.2 w)] at p1
            rw [if_pos (by show Int32.ofNat (a.rF x.toInt k) = _; rw [w])]
            exact p1
          · rw [if_pos ⟨hin, w⟩] at p1
            rw [if_neg (by show ¬ Int32.ofNat (a.rF x.toInt k) = _; rw [zi_eq (by have := zcl99 (a.ht k) x.toInt; unfold zG.rF; omega) (by omega)]; exact w), zi_s]
            exact p1
        · rw [if_pos (by rw [zi_bi0, decide_eq_false_iff_not]; exact w2)]
          exact no (Bool.eq_false_iff.mpr fun q => w2 (zG.rc_iff.mp q).2.2)
      · rw [if_pos (by rw [zi_bi0, decide_eq_false_iff_not]; exact w1)]
        exact no (Bool.eq_false_iff.mpr fun q => w1 (zG.rc_iff.mp q).2.1)
theorem t_raise (I : zInv m) (x : Int32) (y : Int32) (z : Int32) : zAg Int32.toInt64 (f_L_raise x y z m) (f_X12_raise x y z) := by
  obtain ⟨a, b, n, p, s, l, c, e, I'⟩ := I
  have v := I'.1
  have n64 := v.n64
  obtain ⟨C, J⟩ := I'.split
  unfold f_L_raise
  rcases z_cell v x with ⟨d, hd, rfl⟩ | hx
  · rcases z_cell v y with ⟨o, ho, rfl⟩ | hy
    · rcases z_rngm z with ⟨i1, i2, g1, g2⟩ | ⟨g1, g2⟩
      · have gv : zGV (a.ups (z_bel (a.rc d o) a.n) (a.rF z.toInt)) := zG.ups_v v fun q _ => zcl99 _ _
        refine zAg.mut Int32.toInt64 J (v := Int32.ofNat (a.rk' d o z.toInt a.n)) (a' := a.ups (z_bel (a.rc d o) a.n) (a.rF z.toInt)) (b' := zpsh b n a) (n' := min (n + 1) 8) (p' := (p + 1) % 8) (s' := s) (l' := l) (c' := c) (e' := e) ?_ fun m1 J1 => ?_
        · obtain ⟨m1, p1, p2, p3⟩ := s_rem C
          obtain ⟨m2, q1, q2, q3⟩ := s_rr v hd ho i1 i2 p3.2.1
          unfold f_X11_raise
          rw [s_req v I'.2.1 hd, zbx_l, s_req v I'.2.1 ho, zbx_l, g1, zbx_l, p1, Option.bind_some, q1, Option.bind_some]
          exact ⟨m2, rfl, (p2.mono fun k i j => zPrm_n).trans (q2.mono fun k i j => zGp0_n), p3.grid q2 gv q3⟩
        · obtain ⟨m2, q1, q2, q3⟩ := s_chg C.2.2.1.1 (J1.sm (z_th m1 0))
          have e0 : ∀ q, z_bel (a.rc d o) 0 q = false := fun q => by unfold z_bel; simp
          have e0' : a.rk' d o z.toInt 0 = 0 := z_cnt_0.mpr fun q _ => by rw [e0 q]; rfl
          obtain ⟨m3, r1, r2, r3⟩ := s_rm_65 v hd ho i1 i2 zF 0 m2 (Nat.zero_le _) (zF_lt (by omega)) (by rw [zG.ups_0 e0]; exact q3.1)
          rw [e0'] at r1
          unfold f_X12_raise
          rw [s_isCell v (J1.1.th 0) hd, Option.bind_some, if_neg (by decide), s_isCell v (J1.1.th 0) ho, Option.bind_some, if_neg (by decide), g2, Option.bind_some, if_neg (by decide), q1, Option.bind_some, z_gdt (by decide)]
          rw [show m2.1 23 0 (Int32.toNatClampNeg 0) = Int32.ofNat a.w from q3.1.1]
          exact ⟨m3, r1, (((z_th m1 0).mono fun k i j => zSm_nc).trans (q2.mono fun k i j => zPch_n)).trans (r2.mono fun k i j => z230_n), by rw [(r2 13 0 0 (by omega)).1, (q2 13 0 0 (by unfold zPch; omega)).1]; exact z_th0 _ _, q3.grid r2 r3⟩
      · refine zAg.ex Int32.toInt64 I'.of (x := 0) (k := 2) ?_ rfl fun m' f => ?_
        · unfold f_X11_raise zCl
          rw [s_req v I'.2.1 hd, zbx_l, s_req v I'.2.1 ho, zbx_l, g1, zbx_r]
          exact ⟨m, rfl, zFr.refl m⟩
        · have r1 := (I'.keep f).2.2.1.th 0
          unfold zAn f_X12_raise
          rw [s_isCell v r1 hd, Option.bind_some, if_neg (by decide), s_isCell v r1 ho, Option.bind_some, if_neg (by decide), g2, Option.bind_some, if_pos (by decide)]
          exact ⟨0, _, rfl, (z_th m' 0).trans (z_th _ 2), by decide, z_th0 _ _⟩
    · refine zAg.ex Int32.toInt64 I'.of (x := 1) (k := 1) ?_ rfl fun m' f => ?_
      · unfold f_X11_raise zCl
        rw [s_req v I'.2.1 hd, zbx_l, s_reqn v I'.2.1 hy, zbx_r]
        exact ⟨m, rfl, zFr.refl m⟩
      · have r1 := (I'.keep f).2.2.1.th 0
        unfold zAn f_X12_raise
        rw [s_isCell v r1 hd, Option.bind_some, if_neg (by decide), s_isCelln v r1 hy, Option.bind_some, if_pos (by decide)]
        exact ⟨0, _, rfl, (z_th m' 0).trans (z_th _ 1), by decide, z_th0 _ _⟩
  · refine zAg.ex Int32.toInt64 I'.of (x := 1) (k := 1) ?_ rfl fun m' f => ?_
    · unfold f_X11_raise zCl
      rw [s_reqn v I'.2.1 hx]
      exact ⟨m, rfl, zFr.refl m⟩
    · have I1 := I'.keep f
      unfold zAn f_X12_raise
      rw [s_isCelln v (I1.2.2.1.th 0) hx, Option.bind_some, if_pos (by decide)]
      exact ⟨0, _, rfl, (z_th m' 0).trans (z_th _ 1), by decide, z_th0 _ _⟩
end
