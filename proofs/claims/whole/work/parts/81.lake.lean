/-! lake and remedy. -/
section
variable {m : zM} {a : zG}
noncomputable def zG.lks (a : zG) (q d : Nat) : Bool := a.wet d && decide (a.lk d = q)
theorem zG.lks_n {q d : Nat} (h : a.lks q d = true) : d < a.n := by
  unfold zG.lks at h
  rw [Bool.and_eq_true] at h
  exact (zG.wet_iff.mp h.1).1
theorem zG.num_at : ∀ {c q : Nat}, q < a.num c → ∃ o, o < c ∧ a.mnb o = true ∧ a.num o = q
  | 0, q, h => absurd h (Nat.not_lt_zero _)
  | c + 1, q, h => by
    rw [zG.num_succ] at h
    by_cases w : q < a.num c
    · obtain ⟨o, h1, h2, h3⟩ := zG.num_at w
      exact ⟨o, by omega, h2, h3⟩
    · by_cases w2 : a.mnb c = true
      · rw [if_pos w2] at h
        exact ⟨c, by omega, w2, by omega⟩
      · rw [if_neg w2] at h
        exact absurd h w
theorem zG.lks_iff (v : zGV a) {o d : Nat} (hm : a.mnb o = true) : a.lks (a.num o) d = true ↔ a.com o d := by
  unfold zG.lks
  rw [Bool.and_eq_true, decide_eq_true_eq]
  constructor
  · rintro ⟨h1, h2⟩
    have h3 := zG.mnb_fi v h1
    have h4 : a.fi d = o := by
      rcases Nat.lt_trichotomy (a.fi d) o with w | w | w
      · have := zG.num_lt w h3
        unfold zG.lk at h2
        omega
      · exact w
      · have := zG.num_lt w hm
        unfold zG.lk at h2
        omega
    have h5 := zG.fi_com v h1
    rw [h4] at h5
    exact zG.com_sym v h5
  · exact fun h => ⟨(zG.com_in h).1, zG.lk_num v hm h⟩
theorem zG.lks_o (v : zGV a) {o : Nat} (hm : a.mnb o = true) : a.lks (a.num o) o = true ∧ ∀ d, d < o → a.lks (a.num o) d = false := by
  have hw : a.wet o = true := by
    unfold zG.mnb at hm
    rw [Bool.and_eq_true] at hm
    exact hm.1
  refine ⟨(zG.lks_iff v hm).mpr (zG.com_refl hw), fun d hd => Bool.eq_false_iff.mpr fun q => ?_⟩
  have h1 := (zG.lks_iff v hm).mp q
  have h2 := zG.fi_mnb v hm (zG.com_refl hw)
  have h3 := zG.fi_le v h1
  omega
theorem zMk.eq (v : zGV a) (h : zMk a a.n m) {q d : Nat} (hq : q < 2147483648) (hd : d < a.n) : m.1 20 65 d = Int32.ofNat q ↔ a.lks q d = true := by
  have n64 := v.n64
  unfold zG.lks
  rw [h.2 d hd, Bool.and_eq_true, decide_eq_true_eq]
  by_cases w : a.wet d = true
  · have f1 := zG.fi_le v (zG.com_refl w)
    have f2 := zG.num_le (a := a) (a.fi d)
    have f3 : a.lk d = a.num (a.fi d) := rfl
    rw [if_pos ⟨w, by omega⟩, zi_eq (by omega) hq]
    exact ⟨fun y => ⟨w, y⟩, fun y => y.2⟩
  · rw [if_neg (fun y => w y.1)]
    exact ⟨fun y => absurd y.symm (zi_m1 hq), fun y => absurd y.1 w⟩
theorem zFil.lake (v : zGV a) (h : zFil a m) {o : Nat} (ho : o < a.n) (hm : a.mnb o = true) : zb (m.2.1 30 0 (a.num o)) = a.lks (a.num o) := by
  have n64 := v.n64
  refine funext fun d => ?_
  by_cases w : d < 64
  · rw [Bool.eq_iff_iff, zG.lks_iff v hm]
    exact h.1.2.2.2.2 o ho hm d w
  · rw [zb_big _ (by omega)]
    refine (Bool.eq_false_iff.mpr fun q => ?_).symm
    have := zG.lks_n q
    omega
theorem zl_30 : z_alen 30 = 64 := rfl
/-! The reference. -/
theorem s_lw_2 (v : zGV a) (h : zMk a a.n m) {o : Nat} (ho : o < a.n) (hm : a.mnb o = true) : ∀ (j c : Nat), c ≤ o → o - c < j → f_X12_lowest_2 m j (Int32.ofNat (a.num o)) (Int32.ofNat c) = some (Int32.ofNat o)
  | 0, _, _, h => absurd h (Nat.not_lt_zero _)
  | j + 1, c, hc, hj => by
    have n64 := v.n64
    have f2 := zG.num_le (a := a) o
    obtain ⟨l1, l2⟩ := zG.lks_o v hm
    unfold f_X12_lowest_2
    rw [z_gdt (z_in64 (by omega)), zi_nat (by omega), zi_s]
    by_cases he : c = o
    · rw [he, if_pos ((zMk.eq v h (by omega) ho).mpr l1)]
    · have h2 := l2 c (by omega)
      rw [if_neg (fun y => by have := (zMk.eq v h (by omega) (by omega)).mp y; rw [h2] at this; cases this)]
      exact s_lw_2 v h ho hm j (c + 1) (by omega) (by omega)
theorem s_lw (v : zGV a) (h : zMk a a.n m) {o : Nat} (ho : o < a.n) (hm : a.mnb o = true) : f_X12_lowest (Int32.ofNat (a.num o)) m = some (Int32.ofNat o) :=
  s_lw_2 v h ho hm zF 0 (Nat.zero_le _) (zF_lt (by have := v.n64; omega))
theorem s_bot_8 (v : zGV a) (r : zMR (m.1 23 0) a) (h : zMk a a.n m) {q p : Nat} (hq : q ≤ 64) (hp : p < a.n) : ∀ (j c : Nat), c ≤ a.n → a.n - c < j → f_X12_bottom_8 m j (Int32.ofNat q) (Int32.ofNat (a.lp (a.lks q) p c)) (Int32.ofNat c) = some (Int32.ofNat (a.lp (a.lks q) p a.n))
  | 0, _, _, h => absurd h (Nat.not_lt_zero _)
  | j + 1, c, hc, hj => by
    have n64 := v.n64
    unfold f_X12_bottom_8
    rw [s_mcells r, Option.bind_some]
    by_cases he : c = a.n
    · rw [he, if_pos (by rw [zi_le (by omega) (by omega)]; omega)]
    · have hcn : c < a.n := by omega
      have ih := s_bot_8 v r h hq hp j (c + 1) hcn (by omega)
      have ln := zG.lp_n (a := a) (S := a.lks q) hp c hc
      have h1 := v.ht c
      have h2 := v.ht (a.lp (a.lks q) p c)
      have e : a.lp (a.lks q) p (c + 1) = if a.lks q c = true ∧ a.ht c < a.ht (a.lp (a.lks q) p c) then c else a.lp (a.lks q) p c := rfl
      rw [e] at ih
      rw [if_neg (by rw [zi_le (by omega) (by omega)]; omega), z_gdt (z_in64 (by omega)), zi_nat (by omega), zi_s]
      by_cases w : a.lks q c = true
      · rw [if_pos ((zMk.eq v h (by omega) hcn).mpr w), s_mheight r (by omega), Option.bind_some, s_mheight r (by omega), Option.bind_some]
        by_cases w2 : a.ht c < a.ht (a.lp (a.lks q) p c)
        · rw [if_neg (by rw [zi_le (by omega) (by omega)]; omega)]
          rw [if_pos ⟨w, w2⟩] at ih
          exact ih
        · rw [if_pos (by rw [zi_le (by omega) (by omega)]; omega)]
          rw [if_neg (fun y => w2 y.2)] at ih
          exact ih
      · rw [if_neg (fun y => w ((zMk.eq v h (by omega) hcn).mp y))]
        rw [if_neg (fun y => w y.1)] at ih
        exact ih
theorem s_bot (v : zGV a) (r : zMR (m.1 23 0) a) (h : zMk a a.n m) {o : Nat} (ho : o < a.n) (hm : a.mnb o = true) : f_X12_bottom (Int32.ofNat (a.num o)) m = some (Int32.ofNat (a.lp (a.lks (a.num o)) o a.n)) := by
  have n64 := v.n64
  have f2 := zG.num_le (a := a) o
  unfold f_X12_bottom
  rw [s_lw v h ho hm, Option.bind_some]
  exact s_bot_8 v r h (by omega) ho zF 0 (Nat.zero_le _) (zF_lt (by omega))
noncomputable def zG.vol (a : zG) (q c : Nat) : Nat := z_tot (fun d => if a.lks q d = true then a.lv d - a.ht d else 0) c
theorem zG.lv100 (v : zGV a) {c : Nat} (hc : c < a.n) : a.lv c ≤ 100 := z_cnt_le _ _
theorem zG.vol_le (v : zGV a) {q : Nat} : ∀ {c : Nat}, c ≤ a.n → a.vol q c ≤ 100 * c
  | 0, _ => Nat.le_refl _
  | c + 1, hc => by
    have h1 := zG.vol_le v (q := q) (c := c) (by omega)
    have h2 := zG.lv100 v (c := c) (by omega)
    show z_tot _ c + (if a.lks q c = true then a.lv c - a.ht c else 0) ≤ _
    have h3 : z_tot (fun d => if a.lks q d = true then a.lv d - a.ht d else 0) c ≤ 100 * c := h1
    split <;> omega
theorem s_vol_4 (v : zGV a) (r : zMR (m.1 23 0) a) (h : zMk a a.n m) (hl : ∀ d, d < a.n → m.1 20 59 d = Int32.ofNat (a.lv d)) {q : Nat} (hq : q ≤ 64) : ∀ (j c : Nat), c ≤ a.n → a.n - c < j → f_X12_volume_4 m j (Int32.ofNat q) (Int32.ofNat (a.vol q c)) (Int32.ofNat c) = some (Int32.ofNat (a.vol q a.n))
  | 0, _, _, h => absurd h (Nat.not_lt_zero _)
  | j + 1, c, hc, hj => by
    have n64 := v.n64
    unfold f_X12_volume_4
    rw [s_mcells r, Option.bind_some]
    by_cases he : c = a.n
    · rw [he, if_pos (by rw [zi_le (by omega) (by omega)]; omega)]
    · have hcn : c < a.n := by omega
      have ih := s_vol_4 v r h hl hq j (c + 1) hcn (by omega)
      have e : a.vol q (c + 1) = a.vol q c + if a.lks q c = true then a.lv c - a.ht c else 0 := rfl
      rw [e] at ih
      rw [if_neg (by rw [zi_le (by omega) (by omega)]; omega), z_gdt (z_in64 (by omega)), zi_nat (by omega), zi_s]
      by_cases w : a.lks q c = true
      · rw [if_pos ((zMk.eq v h (by omega) hcn).mpr w), s_mdepth v ⟨r, hl⟩ hcn, Option.bind_some, zi_add]
        rw [if_pos w] at ih
        exact ih
      · rw [if_neg (fun y => w ((zMk.eq v h (by omega) hcn).mp y))]
        rw [if_neg w] at ih
        exact ih
theorem s_vol (v : zGV a) (r : zMR (m.1 23 0) a) (h : zMk a a.n m) (hl : ∀ d, d < a.n → m.1 20 59 d = Int32.ofNat (a.lv d)) {q : Nat} (hq : q ≤ 64) : f_X12_volume (Int32.ofNat q) m = some (Int32.ofNat (a.vol q a.n)) :=
  s_vol_4 v r h hl hq zF 0 (Nat.zero_le _) (zF_lt (by have := v.n64; omega))
theorem s_lk_73 (v : zGV a) (r : zMR (m.1 23 0) a) (h : zMk a a.n m) {q : Nat} (hq : q ≤ 64) : ∀ (j c : Nat), c ≤ a.n → a.n - c < j → f_X12_lake_73 j (Int32.ofNat q) (Int32.ofNat (z_cnt (a.lks q) c)) (Int32.ofNat c) m = some (Int32.ofNat (z_cnt (a.lks q) a.n), m)
  | 0, _, _, h => absurd h (Nat.not_lt_zero _)
  | j + 1, c, hc, hj => by
    have n64 := v.n64
    unfold f_X12_lake_73
    rw [s_mcells r, Option.bind_some]
    by_cases he : c = a.n
    · rw [he, if_pos (by rw [zi_le (by omega) (by omega)]; omega)]
    · have hcn : c < a.n := by omega
      have ih := s_lk_73 v r h hq j (c + 1) hcn (by omega)
      have e : z_cnt (a.lks q) (c + 1) = z_cnt (a.lks q) c + if a.lks q c = true then 1 else 0 := rfl
      rw [e] at ih
      rw [if_neg (by rw [zi_le (by omega) (by omega)]; omega), z_gdt (z_in64 (by omega)), zi_nat (by omega), zi_s, zi_s]
      by_cases w : a.lks q c = true
      · rw [if_pos ((zMk.eq v h (by omega) hcn).mpr w)]
        rw [if_pos w] at ih
        exact ih
      · rw [if_neg (fun y => w ((zMk.eq v h (by omega) hcn).mp y))]
        rw [if_neg w] at ih
        exact ih
/-! Out of a lake. -/
noncomputable def zG.fo (a : zG) (S : Nat → Bool) : Nat → Nat → Nat
  | 0, c => c
  | k + 1, c => if S c = true then match a.to c with
    | none => c
    | some e => a.fo S k e
    else c
theorem zG.lks_to (v : zGV a) {q c : Nat} (h : a.lks q c = true) : a.to c ≠ none := fun w => by
  have hc := zG.lks_n h
  have ho := (zG.to_none v hc).mp w
  unfold zG.lks at h
  rw [Bool.and_eq_true] at h
  have h1 := (zG.wet_iff.mp h.1).2
  have hh := v.ht c
  have h2 := (zG.lv_iff (a := a) (c := c) (t := a.ht c) (by omega)).mp (zRch.base ho (zG.lo_iff.mpr ⟨hc, Nat.le_refl _⟩))
  omega
theorem zG.fo_n (v : zGV a) {S : Nat → Bool} : ∀ (k c : Nat), c < a.n → a.fo S k c < a.n
  | 0, _, h => h
  | k + 1, c, h => by
    unfold zG.fo
    split
    · split
      · exact h
      · rename_i e he
        exact zG.fo_n v k e (zG.to_n v h he)
    · exact h
theorem s_fo_6 (v : zGV a) {s : Nat → Nat} (t : zTr a m s) {q : Nat} {x : Int64} (hx : zb x = a.lks q) : ∀ (k j i c : Nat), c < a.n → a.st c < k → a.st c < j → i + a.st c < 64 → f_X3_firstOutside_6 m j x (Int32.ofNat c) (Int32.ofNat i) = some (Int32.ofNat (a.fo (a.lks q) k c)) := by
  intro k
  induction k with
  | zero => exact fun _ _ _ _ h => absurd h (Nat.not_lt_zero _)
  | succ k ih =>
    intro j i c hc hk hj hi
    obtain ⟨j, rfl⟩ : ∃ j', j = j' + 1 := ⟨j - 1, by omega⟩
    have n64 := v.n64
    unfold f_X3_firstOutside_6 zG.fo
    rw [show (64 : Int32) = Int32.ofNat 64 from rfl, if_neg (by rw [zi_le (by omega) (by omega)]; omega), s_has _ (show c < 64 by omega), Option.bind_some, hx, zi_s]
    cases w : a.lks q c with
    | false => rw [if_pos (by decide), if_neg Bool.false_ne_true]
    | true =>
      rw [if_neg (by decide), if_pos rfl, s_at' 20 39 (show c < 64 by omega), Option.bind_some, (t.2.2.2.1 c hc).2.2]
      cases ht : a.to c with
      | none => exact absurd ht (zG.lks_to v w)
      | some e =>
        have := zG.st1 v hc ht
        rw [zo_some]
        exact ih j (i + 1) e (zG.to_n v hc ht) (by omega) (by omega) (by omega)
theorem s_fo_148 (v : zGV a) (r : zMR (m.1 23 0) a) (h : zMk a a.n m) (f : zMF a m) {q : Nat} (hq : q ≤ 64) : ∀ (k j c : Nat), c < a.n → a.st c < k → a.st c < j → f_X12_lake_148 j (Int32.ofNat q) (Int32.ofNat c) m = some (Int32.ofNat (a.fo (a.lks q) k c), m) := by
  intro k
  induction k with
  | zero => exact fun _ _ _ h => absurd h (Nat.not_lt_zero _)
  | succ k ih =>
    intro j c hc hk hj
    obtain ⟨j, rfl⟩ : ∃ j', j = j' + 1 := ⟨j - 1, by omega⟩
    have n64 := v.n64
    unfold f_X12_lake_148 zG.fo
    rw [z_gdt (z_in64 (by omega)), zi_nat (by omega)]
    by_cases w : a.lks q c = true
    · rw [if_pos ((zMk.eq v h (by omega) hc).mpr w), if_pos w, s_onward v r f hc, Option.bind_some]
      cases ht : a.to c with
      | none => exact absurd ht (zG.lks_to v w)
      | some e =>
        have := zG.st1 v hc ht
        rw [zo_some]
        exact ih j e (zG.to_n v hc ht) (by omega) (by omega)
    · rw [if_neg (fun y => w ((zMk.eq v h (by omega) hc).mp y)), if_neg w]
/-- is there such a lake -/
theorem s_reqLake (v : zGV a) (r : zGR m 0 a) : ∃ m', f_X2_fill 0 m = some m' ∧ zFr zSc m m' ∧ zFr zPf m m' ∧ zFil a m' ∧ zGR m' 0 a ∧ (∀ q, q < a.num a.n → f_X11_requireLake (Int32.ofNat q) m = some (.inl (), m')) ∧ ∀ x : Int32, (x < 0 ∨ ∃ q, q < 2147483648 ∧ a.num a.n ≤ q ∧ x = Int32.ofNat q) → f_X11_requireLake x m = some (.inr 1, m') := by
  have n64 := v.n64
  have nn := zG.num_le (a := a) a.n
  obtain ⟨m1, h1, h2, h2', h3⟩ := s_fl v (show 0 < 11 by omega) r
  refine ⟨m1, h1, h2, h2', h3, r.keep h2' fun k i j => zGp_f (by omega), fun q hq => ?_, fun x hx => ?_⟩
  · unfold f_X11_requireLake
    rw [h1, Option.bind_some, if_neg (zi_nn (by omega)), h3.1.2.2.2.1, if_pos (by rw [zi_lt (by omega) (by omega)]; exact hq)]
  · unfold f_X11_requireLake
    rw [h1, Option.bind_some, h3.1.2.2.2.1]
    rcases hx with w | ⟨q, qb, q1, rfl⟩
    · rw [if_pos w]
    · rw [if_neg (zi_nn qb), if_neg (by rw [zi_lt qb (by omega)]; omega)]
theorem s_isLake (v : zGV a) (r : zMR (m.1 23 0) a) (x : Int32) {u : Bool} (hu : ∀ m, f_X12_in (Int32.toInt64 x) (0 : Int64) (Int32.toInt64 (Int32.ofNat (a.num a.n) - 1)) m = some u) : ∃ m', f_X12_isLake x m = some (u, m') ∧ zFr zPlk m m' ∧ zMR (m'.1 23 0) a ∧ zML a m' ∧ zMk a a.n m' := by
  obtain ⟨m2, q1, q2, q3, q4⟩ := s_mlakes v r
  unfold f_X12_isLake
  rw [q1, Option.bind_some, q4.1, hu, Option.bind_some]
  exact ⟨m2, rfl, q2, by rw [q2.row (fun j => by unfold zPlk; omega)]; exact r, q3, q4⟩
theorem t_lake (I : zInv m) (x : Int32) (y : Int32) : zAg Int32.toInt64 (f_L_lake x y m) (f_X12_lake x y) := by
  obtain ⟨a, b, n, p, s, l, c, e, I'⟩ := I
  have v := I'.1
  have n64 := v.n64
  have nn := zG.num_le (a := a) a.n
  obtain ⟨m1, h1, h2, h2', h3, r1, h4, h5⟩ := s_reqLake v I'.2.1
  unfold f_L_lake
  rcases z_idx x (k := a.num a.n) (by omega) with ⟨q, hq, rfl, hin⟩ | ⟨hx, hin⟩
  · obtain ⟨o, ho, hm, rfl⟩ := zG.num_at hq
    obtain ⟨l1, l2⟩ := zG.lks_o v hm
    have hlp := zG.lp_n (a := a) (S := a.lks (a.num o)) ho a.n (Nat.le_refl _)
    have hlS := zG.lp_S (a := a) l1 a.n
    have hst := zG.st_lt v hlp
    rcases z_rng y (lo := 0) (hi := 6) (by omega) (by omega) with ⟨k, _, k2, rfl, g1, g2⟩ | ⟨g0, g1, g2⟩
    · have hk : k = 0 ∨ k = 1 ∨ k = 2 ∨ k = 3 ∨ k = 4 ∨ k = 5 ∨ k = 6 := by omega
      refine zAg.ok Int32.toInt64 I'.of (v := Int32.ofNat (if k = 0 then o else if k = 1 then z_cnt (a.lks (a.num o)) a.n else if k = 2 then a.lv o else if k = 3 then a.vol (a.num o) a.n else if k = 4 then a.lp (a.lks (a.num o)) o a.n else if k = 5 then a.vq (a.ht (a.lp (a.lks (a.num o)) o a.n)) (a.lp (a.lks (a.num o)) o a.n) else a.fo (a.lks (a.num o)) 64 (a.lp (a.lks (a.num o)) o a.n))) ?_ fun m' f => ?_
      · have hA := zFil.lake v h3 ho hm
        have hA' : ∀ d, d < 64 → zb (m1.2.1 30 0 (a.num o)) d = (decide (d < a.n) && a.lks (a.num o) d) := fun d _ => by rw [hA]; exact z_and_n (fun _ => zG.lks_n) d
        unfold f_X11_lake zCl
        rw [h4 _ hq, zbx_l, show (0 : Int32) = Int32.ofNat 0 from rfl, show (6 : Int32) = Int32.ofNat 6 from rfl, g1, zbx_l, s_al 30 0 (by rw [zl_30]; omega), Option.bind_some, s_lowestPlace v r1 ho (by rw [hA]; exact l1) (fun d hd => by rw [hA]; exact l2 d hd), Option.bind_some, hA]
        rcases hk with rfl | rfl | rfl | rfl | rfl | rfl | rfl
        · rw [if_pos (by decide), s_lowest _ (show o < 64 by omega) (by rw [hA]; exact l1) (fun d hd => by rw [hA]; exact l2 d hd), Option.bind_some, if_pos rfl]
          exact ⟨m1, rfl, h2⟩
        · rw [if_neg (by decide), if_pos (by decide), s_bitn v hA', Option.bind_some, if_neg (by omega), if_pos rfl]
          exact ⟨m1, rfl, h2⟩
        · rw [if_neg (by decide), if_neg (by decide), if_pos (by decide), s_at' 20 33 (show a.lp (a.lks (a.num o)) o a.n < 64 by omega), Option.bind_some, h3.lv _ hlp, (zG.com_in ((zG.lks_iff v hm).mp hlS)).2, if_neg (by omega), if_neg (by omega), if_pos rfl]
          exact ⟨m1, rfl, h2⟩
        · rw [if_neg (by decide), if_neg (by decide), if_neg (by decide), if_pos (by decide), s_sumn v 34 hA' (f := fun d => a.lv d - a.ht d) (fun d hd _ => h3.2 d hd), Option.bind_some, if_neg (by omega), if_neg (by omega), if_neg (by omega), if_pos rfl]
          exact ⟨m1, rfl, h2⟩
        · rw [if_neg (by decide), if_neg (by decide), if_neg (by decide), if_neg (by decide), if_pos (by decide), if_neg (by omega), if_neg (by omega), if_neg (by omega), if_neg (by omega), if_pos rfl]
          exact ⟨m1, rfl, h2⟩
        · obtain ⟨m2, p1, p2, p3, _⟩ := s_plan v (show 0 < 11 by omega) hlp r1
          rw [if_neg (by decide), if_neg (by decide), if_neg (by decide), if_neg (by decide), if_neg (by decide), if_pos (by decide), p1, Option.bind_some, p3, if_neg (by omega), if_neg (by omega), if_neg (by omega), if_neg (by omega), if_neg (by omega), if_pos rfl]
          exact ⟨m2, rfl, h2.trans (p2.mono fun k i j => zPpn_c)⟩
        · obtain ⟨m2, s2, p1, p2, p3⟩ := s_trace v (show 0 < 11 by omega) r1 h3.lv
          have h0 := s_fo_6 v p3 hA 64 zF 0 _ hlp (by omega) (zF_lt (by omega)) (by omega)
          rw [if_neg (by decide), if_neg (by decide), if_neg (by decide), if_neg (by decide), if_neg (by decide), if_neg (by decide), p1, Option.bind_some]
          unfold f_X3_firstOutside
          rw [show (0 : Int32) = Int32.ofNat 0 from rfl, h0, Option.bind_some, if_neg (by omega), if_neg (by omega), if_neg (by omega), if_neg (by omega), if_neg (by omega), if_neg (by omega)]
          exact ⟨m2, rfl, h2.trans (p2.mono fun k i j => zPtr_c)⟩
      · have r2 := (I'.keep f).2.2.1.th 0
        obtain ⟨m2, q1, q2, q3, q4, q5⟩ := s_isLake v r2 _ hin
        have fr := (q2.mono fun k i j => zPlk_m).x13
        have t0 : m2.1 13 0 0 = 0 := q2.t0 (by unfold zPlk; omega) (z_th0 _ _)
        have bo := s_bot v q3 q5 ho hm
        unfold zAn f_X12_lake
        rw [q1, Option.bind_some, if_neg (show ¬ z_bi true = 0 by decide)]
        rcases hk with rfl | rfl | rfl | rfl | rfl | rfl | rfl
        · rw [if_pos (by decide), s_lw v q5 ho hm, Option.bind_some, if_pos rfl]
          exact ⟨_, m2, rfl, fr, t0, rfl⟩
        · have h0 := s_lk_73 v q3 q5 (q := a.num o) (by omega) zF 0 (Nat.zero_le _) (zF_lt (by omega))
          rw [if_neg (by decide), if_pos (by decide), show f_X12_lake_73 zF (Int32.ofNat (a.num o)) (0 : Int32) (0 : Int32) m2 = _ from h0, if_neg (by omega), if_pos rfl]
          exact ⟨_, m2, rfl, fr, t0, rfl⟩
        · rw [if_neg (by decide), if_neg (by decide), if_pos (by decide), s_lw v q5 ho hm, Option.bind_some, z_gdt (z_in64 (by omega)), zi_nat (by omega), q4.1.1 o ho, if_neg (by omega), if_neg (by omega), if_pos rfl]
          exact ⟨_, m2, rfl, fr, t0, rfl⟩
        · rw [if_neg (by decide), if_neg (by decide), if_neg (by decide), if_pos (by decide), s_vol v q3 q5 q4.1.1 (by omega), Option.bind_some, if_neg (by omega), if_neg (by omega), if_neg (by omega), if_pos rfl]
          exact ⟨_, m2, rfl, fr, t0, rfl⟩
        · rw [if_neg (by decide), if_neg (by decide), if_neg (by decide), if_neg (by decide), if_pos (by decide), bo, Option.bind_some, if_neg (by omega), if_neg (by omega), if_neg (by omega), if_neg (by omega), if_pos rfl]
          exact ⟨_, m2, rfl, fr, t0, rfl⟩
        · obtain ⟨m3, u1, u2, u3, _⟩ := s_bestWay v hlp q3
          rw [if_neg (by decide), if_neg (by decide), if_neg (by decide), if_neg (by decide), if_neg (by decide), if_pos (by decide), bo, Option.bind_some, u1, Option.bind_some, u3, if_neg (by omega), if_neg (by omega), if_neg (by omega), if_neg (by omega), if_neg (by omega), if_pos rfl]
          exact ⟨_, m3, rfl, fr.trans (u2.mono fun k i j => zPbw_m), u2.t0 (by unfold zPbw; omega) t0, rfl⟩
        · rw [if_neg (by decide), if_neg (by decide), if_neg (by decide), if_neg (by decide), if_neg (by decide), if_neg (by decide), if_pos (by decide), bo, Option.bind_some, s_fo_148 v q3 q5 q4.f (by omega) 64 zF _ hlp (by omega) (zF_lt (by omega)), if_neg (by omega), if_neg (by omega), if_neg (by omega), if_neg (by omega), if_neg (by omega), if_neg (by omega)]
          exact ⟨_, m2, rfl, fr, t0, rfl⟩
    · refine zAg.ex Int32.toInt64 I'.of (x := 0) (k := 2) ?_ rfl fun m' f => ?_
      · unfold f_X11_lake zCl
        rw [h4 _ hq, zbx_l, show (0 : Int32) = Int32.ofNat 0 from rfl, show (6 : Int32) = Int32.ofNat 6 from rfl, g1, zbx_r]
        exact ⟨m1, rfl, h2⟩
      · have r2 := (I'.keep f).2.2.1.th 0
        obtain ⟨m2, q1, q2, q3, q4, q5⟩ := s_isLake v r2 _ hin
        unfold zAn f_X12_lake
        rw [q1, Option.bind_some, if_neg (show ¬ z_bi true = 0 by decide), if_neg (show ¬ y = (0 : Int32) from g0 0 (by omega) (by omega)), if_neg (show ¬ y = (1 : Int32) from g0 1 (by omega) (by omega)), if_neg (show ¬ y = (2 : Int32) from g0 2 (by omega) (by omega)), if_neg (show ¬ y = (3 : Int32) from g0 3 (by omega) (by omega)), if_neg (show ¬ y = (4 : Int32) from g0 4 (by omega) (by omega)), if_neg (show ¬ y = (5 : Int32) from g0 5 (by omega) (by omega)), if_neg (show ¬ y = (6 : Int32) from g0 6 (by omega) (by omega))]
        exact ⟨0, _, rfl, ((q2.mono fun k i j => zPlk_m).x13).trans (z_th _ 2), by decide, z_th0 _ _⟩
  · refine zAg.ex Int32.toInt64 I'.of (x := 1) (k := 1) ?_ rfl fun m' f => ?_
    · unfold f_X11_lake zCl
      rw [h5 x hx, zbx_r]
      exact ⟨m1, rfl, h2⟩
    · have r2 := (I'.keep f).2.2.1.th 0
      obtain ⟨m2, q1, q2, q3, q4, q5⟩ := s_isLake v r2 _ hin
      unfold zAn f_X12_lake
      rw [q1, Option.bind_some, if_pos (show z_bi false = 0 from rfl)]
      exact ⟨0, _, rfl, ((q2.mono fun k i j => zPlk_m).x13).trans (z_th _ 1), by decide, z_th0 _ _⟩
/-- the class's cost of carving and of filling, one after the other -/
theorem t_remedy (I : zInv m) (x : Int32) : zAg Int32.toInt64 (f_L_remedy x m) (f_X12_remedy x) := by
  obtain ⟨a, b, n, p, s, l, c, e, I'⟩ := I
  have v := I'.1
  have n64 := v.n64
  have nn := zG.num_le (a := a) a.n
  obtain ⟨m1, h1, h2, h2', h3, r1, h4, h5⟩ := s_reqLake v I'.2.1
  unfold f_L_remedy
  rcases z_idx x (k := a.num a.n) (by omega) with ⟨q, hq, rfl, hin⟩ | ⟨hx, hin⟩
  · obtain ⟨o, ho, hm, rfl⟩ := zG.num_at hq
    obtain ⟨l1, l2⟩ := zG.lks_o v hm
    have hlp := zG.lp_n (a := a) (S := a.lks (a.num o)) ho a.n (Nat.le_refl _)
    refine zAg.ok Int32.toInt64 I'.of (v := if Int32.ofNat (a.vq (a.ht (a.lp (a.lks (a.num o)) o a.n)) (a.lp (a.lks (a.num o)) o a.n)) < Int32.ofNat (a.vol (a.num o) a.n) then 2 else 1) ?_ fun m' f => ?_
    · have hA := zFil.lake v h3 ho hm
      have hA' : ∀ d, d < 64 → zb (m1.2.1 30 0 (a.num o)) d = (decide (d < a.n) && a.lks (a.num o) d) := fun d _ => by rw [hA]; exact z_and_n (fun _ => zG.lks_n) d
      obtain ⟨m2, p1, p2, p3, _⟩ := s_plan v (show 0 < 11 by omega) hlp r1
      have hs : f_X7_sum 20 34 (m1.2.1 30 0 (a.num o)) m2 = some (Int32.ofNat (a.vol (a.num o) a.n)) := s_sumn v 34 hA' (f := fun d => a.lv d - a.ht d) fun d hd _ => by rw [(p2 20 34 d (by unfold zPpn; omega)).1]; exact h3.2 d hd
      unfold f_X11_remedy zCl
      rw [h4 _ hq, zbx_l, s_al 30 0 (by rw [zl_30]; omega), Option.bind_some, s_lowestPlace v r1 ho (by rw [hA]; exact l1) (fun d hd => by rw [hA]; exact l2 d hd), Option.bind_some, hA, p1, Option.bind_some, hs, Option.bind_some, p3]
      refine ⟨m2, ?_, h2.trans (p2.mono fun k i j => zPpn_c)⟩
      by_cases w : Int32.ofNat (a.vq (a.ht (a.lp (a.lks (a.num o)) o a.n)) (a.lp (a.lks (a.num o)) o a.n)) < Int32.ofNat (a.vol (a.num o) a.n)
      · rw [if_pos w, if_pos w]
      · rw [if_neg w, if_neg w]
    · have r2 := (I'.keep f).2.2.1.th 0
      obtain ⟨m2, q1, q2, q3, q4, q5⟩ := s_isLake v r2 _ hin
      have t0 : m2.1 13 0 0 = 0 := q2.t0 (by unfold zPlk; omega) (z_th0 _ _)
      obtain ⟨m3, u1, u2, u3, _⟩ := s_bestWay v hlp q3
      have r3 : zMR (m3.1 23 0) a := by rw [u2.row (fun j => by unfold zPbw; omega)]; exact q3
      have k3 : zMk a a.n m3 := ⟨by rw [(u2 13 0 18 (by unfold zPbw; omega)).1]; exact q5.1, fun d hd => by rw [(u2 20 65 d (by unfold zPbw; omega)).1]; exact q5.2 d hd⟩
      unfold zAn f_X12_remedy
      rw [q1, Option.bind_some, if_neg (show ¬ z_bi true = 0 by decide), s_bot v q3 q5 ho hm, Option.bind_some, u1, Option.bind_some, s_vol v r3 k3 (fun d hd => by rw [(u2 20 59 d (by unfold zPbw; omega)).1]; exact q4.1.1 d hd) (by omega), Option.bind_some, u3]
      refine ⟨_, m3, ?_, ((q2.mono fun k i j => zPlk_m).x13).trans (u2.mono fun k i j => zPbw_m), u2.t0 (by unfold zPbw; omega) t0, rfl⟩
      by_cases w : Int32.ofNat (a.vq (a.ht (a.lp (a.lks (a.num o)) o a.n)) (a.lp (a.lks (a.num o)) o a.n)) < Int32.ofNat (a.vol (a.num o) a.n)
      · rw [if_pos w, if_pos w]
      · rw [if_neg w, if_neg w]
  · refine zAg.ex Int32.toInt64 I'.of (x := 1) (k := 1) ?_ rfl fun m' f => ?_
    · unfold f_X11_remedy zCl
      rw [h5 x hx, zbx_r]
      exact ⟨m1, rfl, h2⟩
    · have r2 := (I'.keep f).2.2.1.th 0
      obtain ⟨m2, q1, q2, q3, q4, q5⟩ := s_isLake v r2 _ hin
      unfold zAn f_X12_remedy
      rw [q1, Option.bind_some, if_pos (show z_bi false = 0 from rfl)]
      exact ⟨0, _, rfl, ((q2.mono fun k i j => zPlk_m).x13).trans (z_th _ 1), by decide, z_th0 _ _⟩
end
