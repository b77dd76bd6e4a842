/-! section. -/
section
variable {m : zM} {a : zG}
/-- the answers of section, over the first k cells -/
noncomputable def zG.sc (a : zG) (c d z : Nat) : Nat → Nat
  | 0 => if z = 4 then 1000000 else 0
  | k + 1 => if z = 1 then a.sc c d z k + (a.ht (a.al c d k) - a.ht (a.al c d (k - 1))) else if z = 2 then a.sc c d z k + (a.ht (a.al c d (k - 1)) - a.ht (a.al c d k)) else if z = 3 then max (a.sc c d z k) (a.ht (a.al c d k)) else if z = 4 then min (a.sc c d z k) (a.ht (a.al c d k)) else a.sc c d z k + if a.str (a.al c d k) = true then 1 else 0
theorem zG.sc_le (v : zGV a) {c d z : Nat} : ∀ k, a.sc c d z k ≤ 1000000 + 100 * k
  | 0 => by
    unfold zG.sc
    split <;> omega
  | k + 1 => by
    have h1 := v.ht (a.al c d k)
    have h2 := v.ht (a.al c d (k - 1))
    have h3 := zG.sc_le v (c := c) (d := d) (z := z) k
    unfold zG.sc
    split
    · omega
    · split
      · omega
      · split
        · omega
        · split
          · omega
          · split <;> omega
theorem s_sec_82 (v : zGV a) (r : zMW a m) {c d z : Nat} (hc : c < a.n) (hd : d < a.n) (z1 : 1 ≤ z) (z5 : z ≤ 5) : ∀ (j k : Nat), k ≤ a.far c d + 1 → a.far c d + 1 - k < j → f_X12_section_82 j (Int32.ofNat c) (Int32.ofNat d) (Int32.ofNat z) (Int32.ofNat (a.far c d)) (Int32.ofNat (a.sc c d z k)) (Int32.ofNat k) m = some (Int32.ofNat (a.sc c d z (a.far c d + 1)), m)
  | 0, _, _, h => absurd h (Nat.not_lt_zero _)
  | j + 1, k, hk, hj => by
    have n64 := v.n64
    have f7 := zG.far7 v hc hd
    unfold f_X12_section_82
    by_cases he : k = a.far c d + 1
    · rw [he, if_pos (by rw [zi_lt (by omega) (by omega)]; omega)]
    · have hk' : k ≤ a.far c d := by omega
      have hj2 : a.far c d + 1 - (k + 1) < j := by omega
      have ih := s_sec_82 v r hc hd z1 z5 j (k + 1) (by omega) hj2
      have an := zG.al_n v hc hd hk'
      have ap := zG.al_n v hc hd (show k - 1 ≤ a.far c d by omega)
      have b1 := v.ht (a.al c d k)
      have b2 := v.ht (a.al c d (k - 1))
      have b3 := zG.sc_le v (c := c) (d := d) (z := z) k
      rw [if_neg (by rw [zi_lt (by omega) (by omega)]; omega), s_along v r.1 hc hd hk', Option.bind_some]
      have main : ∀ x : Int32, x = Int32.ofNat (a.ht (a.al c d k)) - Int32.ofNat (a.ht (a.al c d (k - 1))) → f_X12_section_129 (f_X12_section_82 j) (Int32.ofNat c) (Int32.ofNat d) (Int32.ofNat z) (Int32.ofNat (a.far c d)) (Int32.ofNat (a.sc c d z k)) (Int32.ofNat k) (Int32.ofNat (a.al c d k)) x m = some (Int32.ofNat (a.sc c d z (a.far c d + 1)), m) := fun x hx => by
        have e1 : z = 1 ∨ z = 2 ∨ z = 3 ∨ z = 4 ∨ z = 5 := by omega
        have er : a.sc c d z (k + 1) = if z = 1 then a.sc c d z k + (a.ht (a.al c d k) - a.ht (a.al c d (k - 1))) else if z = 2 then a.sc c d z k + (a.ht (a.al c d (k - 1)) - a.ht (a.al c d k)) else if z = 3 then max (a.sc c d z k) (a.ht (a.al c d k)) else if z = 4 then min (a.sc c d z k) (a.ht (a.al c d k)) else a.sc c d z k + if a.str (a.al c d k) = true then 1 else 0 := rfl
        rw [er] at ih
        unfold f_X12_section_129
        rcases e1 with rfl | rfl | rfl | rfl | rfl
        · rw [if_pos (by decide), hx, z_max0 (by omega) (by omega), Option.bind_some]
          unfold f_X12_section_147
          rw [if_neg (by decide)]
          unfold f_X12_section_164
          rw [if_neg (by decide)]
          unfold f_X12_section_182
          rw [if_neg (by decide)]
          unfold f_X12_section_200
          rw [if_neg (by decide), zi_add, zi_s]
          exact ih
        · rw [if_neg (by decide)]
          unfold f_X12_section_147
          rw [if_pos (by decide), hx, Int32.neg_sub, z_max0 (by omega) (by omega), Option.bind_some]
          unfold f_X12_section_164
          rw [if_neg (by decide)]
          unfold f_X12_section_182
          rw [if_neg (by decide)]
          unfold f_X12_section_200
          rw [if_neg (by decide), zi_add, zi_s]
          exact ih
        · rw [if_neg (by decide)]
          unfold f_X12_section_147
          rw [if_neg (by decide)]
          unfold f_X12_section_164
          rw [if_pos (by decide), s_mheight r.1 (by omega), Option.bind_some, z_max (by omega) (by omega), Option.bind_some]
          unfold f_X12_section_182
          rw [if_neg (by decide)]
          unfold f_X12_section_200
          rw [if_neg (by decide), zi_s]
          exact ih
        · rw [if_neg (by decide)]
          unfold f_X12_section_147
          rw [if_neg (by decide)]
          unfold f_X12_section_164
          rw [if_neg (by decide)]
          unfold f_X12_section_182
          rw [if_pos (by decide), s_mheight r.1 (by omega), Option.bind_some, z_min (by omega) (by omega), Option.bind_some]
          unfold f_X12_section_200
          rw [if_neg (by decide), zi_s]
          exact ih
        · rw [if_neg (by decide)]
          unfold f_X12_section_147
          rw [if_neg (by decide)]
          unfold f_X12_section_164
          rw [if_neg (by decide)]
          unfold f_X12_section_182
          rw [if_neg (by decide)]
          unfold f_X12_section_200
          rw [if_pos (by decide), s_isStream v r an, Option.bind_some, zi_s, zi_s]
          rw [if_neg (by decide), if_neg (by decide), if_neg (by decide), if_neg (by decide)] at ih
          cases hs : a.str (a.al c d k) with
          | false =>
            rw [hs, if_neg Bool.false_ne_true] at ih
            rw [if_pos (by decide)]
            exact ih
          | true =>
            rw [hs, if_pos rfl] at ih
            rw [if_neg (by decide)]
            exact ih
      by_cases k0 : k = 0
      · subst k0
        rw [if_pos (by decide)]
        refine main 0 ?_
        rw [zi_sub (Nat.le_refl _), Nat.sub_self]
        rfl
      · rw [if_neg (by rw [zi_0 (by omega)]; exact k0), s_mheight r.1 (by omega), Option.bind_some, zi_q (by omega), s_along v r.1 hc hd (by omega), Option.bind_some, s_mheight r.1 (by omega), Option.bind_some]
        exact main _ rfl
/-! The class. -/
theorem s_rises_5 (v : zGV a) {c d : Nat} (hc : c < a.n) (hd : d < a.n) (r : zGR m 0 a) (h : zLi a c d m) {z : Nat} {u : Int32} (hz : (z = 1 ∧ u = 1) ∨ (z = 2 ∧ u = -1)) : ∀ (j k : Nat), 1 ≤ k → k ≤ a.far c d + 1 → a.far c d + 1 - k < j → f_X6_rises_5 0 m j u (Int32.ofNat (a.sc c d z k)) (Int32.ofNat k) = some (Int32.ofNat (a.sc c d z (a.far c d + 1)))
  | 0, _, _, _, h => absurd h (Nat.not_lt_zero _)
  | j + 1, k, k1, hk, hj => by
    have n64 := v.n64
    have f7 := zG.far7 v hc hd
    unfold f_X6_rises_5
    rw [h.1]
    by_cases he : k = a.far c d + 1
    · rw [if_pos (by rw [zi_le (by omega) (by omega)]; omega), he]
    · have hk' : k ≤ a.far c d := by omega
      have ih := s_rises_5 v hc hd r h hz j (k + 1) (by omega) (by omega) (by omega)
      have b1 := v.ht (a.al c d k)
      have b2 := v.ht (a.al c d (k - 1))
      have er : a.sc c d z (k + 1) = if z = 1 then a.sc c d z k + (a.ht (a.al c d k) - a.ht (a.al c d (k - 1))) else if z = 2 then a.sc c d z k + (a.ht (a.al c d (k - 1)) - a.ht (a.al c d k)) else if z = 3 then max (a.sc c d z k) (a.ht (a.al c d k)) else if z = 4 then min (a.sc c d z k) (a.ht (a.al c d k)) else a.sc c d z k + if a.str (a.al c d k) = true then 1 else 0 := rfl
      rw [er] at ih
      rw [if_neg (by rw [zi_le (by omega) (by omega)]; omega), s_heightAt v hc hd r h hk', Option.bind_some, zi_q k1, s_heightAt v hc hd r h (by omega), Option.bind_some]
      rcases hz with ⟨rfl, rfl⟩ | ⟨rfl, rfl⟩
      · rw [Int32.one_mul, z_max0 (by omega) (by omega), Option.bind_some, zi_add, zi_s]
        exact ih
      · rw [show (-1 : Int32) = -(1 : Int32) from rfl, Int32.neg_mul, Int32.one_mul, Int32.neg_sub, z_max0 (by omega) (by omega), Option.bind_some, zi_add, zi_s]
        exact ih
theorem s_rises (v : zGV a) {c d : Nat} (hc : c < a.n) (hd : d < a.n) (r : zGR m 0 a) (h : zLi a c d m) {z : Nat} {u : Int32} (hz : (z = 1 ∧ u = 1) ∨ (z = 2 ∧ u = -1)) : f_X6_rises 0 u m = some (Int32.ofNat (a.sc c d z (a.far c d + 1))) := by
  have f7 := zG.far7 v hc hd
  have h0 := s_rises_5 v hc hd r h hz zF 1 (Nat.le_refl _) (by omega) (zF_lt (by omega))
  have e : a.sc c d z 1 = 0 := by
    rcases hz with ⟨rfl, _⟩ | ⟨rfl, _⟩ <;> simp [zG.sc]
  rw [e] at h0
  exact h0
/-- is it one of the first k cells -/
noncomputable def zG.als (a : zG) (c d k e : Nat) : Bool := @decide (∃ l, l < k ∧ a.al c d l = e) (Classical.propDecidable _)
theorem zG.als_iff {c d k e : Nat} : a.als c d k e = true ↔ ∃ l, l < k ∧ a.al c d l = e := z_dec
theorem zG.als_s {c d k e : Nat} : a.als c d (k + 1) e = (a.als c d k e || decide (e = a.al c d k)) := by
  rw [Bool.eq_iff_iff, Bool.or_eq_true, zG.als_iff, zG.als_iff, decide_eq_true_eq]
  constructor
  · rintro ⟨l, h1, h2⟩
    by_cases w : l = k
    · exact .inr (by rw [← h2, w])
    · exact .inl ⟨l, by omega, h2⟩
  · rintro (⟨l, h1, h2⟩ | h)
    · exact ⟨l, by omega, h2⟩
    · exact ⟨k, by omega, h.symm⟩
theorem s_cset_4 (v : zGV a) {c d : Nat} (hc : c < a.n) (hd : d < a.n) (h : zLi a c d m) : ∀ (j k : Nat) (x : Int64), k ≤ a.far c d + 1 → a.far c d + 1 - k < j → (∀ e, e < 64 → zb x e = a.als c d k e) → ∃ y, f_X6_cellSet_4 m j x (Int32.ofNat k) = some y ∧ ∀ e, e < 64 → zb y e = a.als c d (a.far c d + 1) e
  | 0, _, _, _, h, _ => absurd h (Nat.not_lt_zero _)
  | j + 1, k, x, hk, hj, hx => by
    have n64 := v.n64
    have f7 := zG.far7 v hc hd
    unfold f_X6_cellSet_4
    rw [h.1]
    by_cases he : k = a.far c d + 1
    · rw [if_pos (by rw [zi_le (by omega) (by omega)]; omega)]
      exact ⟨x, rfl, fun e q => by rw [hx e q, he]⟩
    · have hk' : k ≤ a.far c d := by omega
      have an := zG.al_n v hc hd hk'
      rw [if_neg (by rw [zi_le (by omega) (by omega)]; omega), s_at' 22 0 (by rw [zl_22]; omega), Option.bind_some, h.2 k hk', zi_s]
      refine s_cset_4 v hc hd h j (k + 1) _ (by omega) (by omega) fun e q => ?_
      rw [zb_or, hx e q, zb_one (by omega) q, zG.als_s]
theorem s_cset (v : zGV a) {c d : Nat} (hc : c < a.n) (hd : d < a.n) (h : zLi a c d m) : ∃ y, f_X6_cellSet m = some y ∧ ∀ e, e < 64 → zb y e = a.als c d (a.far c d + 1) e := by
  have f7 := zG.far7 v hc hd
  exact s_cset_4 v hc hd h zF 0 0 (Nat.zero_le _) (zF_lt (by omega)) fun e _ => by
    rw [zb_0]
    refine (Bool.eq_false_iff.mpr fun q => ?_).symm
    obtain ⟨l, h1, _⟩ := zG.als_iff.mp q
    exact Nat.not_lt_zero _ h1
theorem zG.als_n (v : zGV a) {c d k e : Nat} (hc : c < a.n) (hd : d < a.n) (hk : k ≤ a.far c d + 1) (h : a.als c d k e = true) : e < a.n := by
  obtain ⟨l, h1, h2⟩ := zG.als_iff.mp h
  exact h2 ▸ zG.al_n v hc hd (by omega)
theorem zG.sc3 (v : zGV a) {c d : Nat} : ∀ k, (∀ l, l < k → a.ht (a.al c d l) ≤ a.sc c d 3 k) ∧ (0 < k → ∃ l, l < k ∧ a.ht (a.al c d l) = a.sc c d 3 k)
  | 0 => ⟨fun l h => absurd h (Nat.not_lt_zero _), fun h => absurd h (Nat.lt_irrefl _)⟩
  | k + 1 => by
    have e : a.sc c d 3 (k + 1) = max (a.sc c d 3 k) (a.ht (a.al c d k)) := rfl
    obtain ⟨h1, h2⟩ := zG.sc3 v (c := c) (d := d) k
    rw [e]
    refine ⟨fun l hl => ?_, fun _ => ?_⟩
    · by_cases w : l = k
      · subst w
        exact Nat.le_max_right _ _
      · exact Nat.le_trans (h1 l (by omega)) (Nat.le_max_left _ _)
    · by_cases w : a.sc c d 3 k ≤ a.ht (a.al c d k)
      · clear h1 h2
        exact ⟨k, by omega, by omega⟩
      · by_cases k0 : k = 0
        · subst k0
          exact absurd (Nat.zero_le _) w
        · obtain ⟨l, q1, q2⟩ := h2 (Nat.pos_of_ne_zero k0)
          clear h1 h2
          exact ⟨l, by omega, by omega⟩
theorem zG.sc4 (v : zGV a) {c d : Nat} : ∀ k, (∀ l, l < k → a.sc c d 4 k ≤ a.ht (a.al c d l)) ∧ (0 < k → ∃ l, l < k ∧ a.ht (a.al c d l) = a.sc c d 4 k)
  | 0 => ⟨fun l h => absurd h (Nat.not_lt_zero _), fun h => absurd h (Nat.lt_irrefl _)⟩
  | k + 1 => by
    have e : a.sc c d 4 (k + 1) = min (a.sc c d 4 k) (a.ht (a.al c d k)) := rfl
    obtain ⟨h1, h2⟩ := zG.sc4 v (c := c) (d := d) k
    rw [e]
    refine ⟨fun l hl => ?_, fun _ => ?_⟩
    · by_cases w : l = k
      · subst w
        exact Nat.min_le_right _ _
      · exact Nat.le_trans (Nat.min_le_left _ _) (h1 l (by omega))
    · by_cases w : a.ht (a.al c d k) ≤ a.sc c d 4 k
      · clear h1 h2
        exact ⟨k, by omega, by omega⟩
      · by_cases k0 : k = 0
        · subst k0
          have := v.ht (a.al c d 0)
          exact absurd (show a.ht (a.al c d 0) ≤ 1000000 by omega) w
        · obtain ⟨l, q1, q2⟩ := h2 (Nat.pos_of_ne_zero k0)
          clear h1 h2
          exact ⟨l, by omega, by omega⟩
theorem z_grt_up {f : Nat → Nat} {S : Nat → Bool} : ∀ {n e : Nat}, e < n → S e = true → f e ≤ z_grt f S n
  | 0, _, h, _ => absurd h (Nat.not_lt_zero _)
  | n + 1, e, h, hs => by
    unfold z_grt
    by_cases w : e = n
    · subst w
      rw [if_pos hs]
      exact Nat.le_max_right _ _
    · have := z_grt_up (f := f) (S := S) (n := n) (e := e) (by omega) hs
      split <;> omega
theorem zG.sc3g (v : zGV a) {c d : Nat} (hc : c < a.n) (hd : d < a.n) {S : Nat → Bool} (hS : ∀ e, e < 64 → S e = a.als c d (a.far c d + 1) e) : z_grt a.ht S 64 = a.sc c d 3 (a.far c d + 1) := by
  have n64 := v.n64
  obtain ⟨h1, h2⟩ := zG.sc3 v (c := c) (d := d) (a.far c d + 1)
  refine Nat.le_antisymm ?_ ?_
  · rcases z_grt_at (f := a.ht) (S := S) (n := 64) with h | ⟨e, q1, q2, q3⟩
    · rw [h]
      exact Nat.zero_le _
    · rw [hS e q1] at q2
      obtain ⟨l, u1, u2⟩ := zG.als_iff.mp q2
      rw [← q3, ← u2]
      exact h1 l u1
  · obtain ⟨l, q1, q2⟩ := h2 (by omega)
    have an := zG.al_n v hc hd (show l ≤ a.far c d by omega)
    rw [← q2]
    exact z_grt_up (by omega) (by rw [hS _ (by omega)]; exact zG.als_iff.mpr ⟨l, q1, rfl⟩)
theorem zG.lp_le {S : Nat → Bool} {p : Nat} : ∀ c, (∀ e, e < c → S e = true → a.ht (a.lp S p c) ≤ a.ht e) ∧ a.ht (a.lp S p c) ≤ a.ht p
  | 0 => ⟨fun e h => absurd h (Nat.not_lt_zero _), Nat.le_refl _⟩
  | c + 1 => by
    obtain ⟨h1, h2⟩ := zG.lp_le (S := S) (p := p) c
    unfold zG.lp
    by_cases w : S c = true ∧ a.ht c < a.ht (a.lp S p c)
    · rw [if_pos w]
      refine ⟨fun e he hs => ?_, by omega⟩
      by_cases w2 : e = c
      · rw [w2]
        exact Nat.le_refl _
      · have := h1 e (by omega) hs
        omega
    · rw [if_neg w]
      refine ⟨fun e he hs => ?_, h2⟩
      by_cases w2 : e = c
      · subst w2
        by_cases w3 : a.ht e < a.ht (a.lp S p e)
        · exact absurd ⟨hs, w3⟩ w
        · omega
      · exact h1 e (by omega) hs
theorem zG.sc5 (v : zGV a) {N : Nat} (hN : a.n ≤ N) {c d : Nat} (hc : c < a.n) (hd : d < a.n) : ∀ k, k ≤ a.far c d + 1 → z_cnt (fun e => a.als c d k e && a.str e) N = a.sc c d 5 k
  | 0, _ => by
    have e0 : a.sc c d 5 0 = 0 := rfl
    rw [e0]
    refine z_cnt_0.mpr fun e _ => ?_
    have : a.als c d 0 e = false := Bool.eq_false_iff.mpr fun q => by
      obtain ⟨l, h1, _⟩ := zG.als_iff.mp q
      exact Nat.not_lt_zero _ h1
    rw [this]
    rfl
  | k + 1, hk => by
    have n64 := v.n64
    have ih := zG.sc5 v hN hc hd k (by omega)
    have an := zG.al_n v hc hd (show k ≤ a.far c d by omega)
    have e : a.sc c d 5 (k + 1) = a.sc c d 5 k + if a.str (a.al c d k) = true then 1 else 0 := rfl
    have no : a.als c d k (a.al c d k) = false := Bool.eq_false_iff.mpr fun q => by
      obtain ⟨l, h1, h2⟩ := zG.als_iff.mp q
      have := zG.al_inj v hc hd (show l ≤ a.far c d by omega) (show k ≤ a.far c d by omega) h2
      omega
    rw [e, ← ih]
    cases hs : a.str (a.al c d k) with
    | false =>
      rw [if_neg Bool.false_ne_true, Nat.add_zero]
      refine z_cnt_ext fun x hx => ?_
      rw [zG.als_s]
      by_cases w : x = a.al c d k
      · rw [w, hs]
        simp
      · simp [w]
    | true =>
      rw [if_pos rfl]
      refine z_cnt_one (x := a.al c d k) (by omega) (fun x _ hx => ?_) ?_ ?_
      · rw [zG.als_s]
        simp [hx]
      · rw [no]
        rfl
      · rw [zG.als_s, hs]
        simp
abbrev zPss (k i j : Nat) : Prop := zPf k i j ∨ zPtr k i j ∨ zPru k i j ∨ zPsc k i j
theorem s_streams2 (v : zGV a) (r : zGR m 0 a) : ∃ m', f_X11_surveyStreams m = some m' ∧ zFr zPss m m' ∧ zSt a m' := by
  obtain ⟨m1, h1, h2, h2', h3⟩ := s_fl v (show 0 < 11 by omega) r
  have r1 := r.keep h2' fun k i j => zGp_f (by omega)
  obtain ⟨m2, s, h4, h5, h6⟩ := s_trace v (show 0 < 11 by omega) r1 h3.lv
  have r2 := r1.keep h5 fun k i j => zGp_tr (by omega)
  obtain ⟨m3, h7, h8, h9, h10⟩ := s_run v (show 0 < 11 by omega) r2 h6
  have r3 : zGR m3 0 a := r2.keep h8 fun k i j w => by unfold zGp at w; unfold zPru; omega
  have t3 : zTr a m3 s := h6.keep h8 fun k i j w => by unfold zPtr at w; unfold zPru; omega
  obtain ⟨m4, h11, h12, h13⟩ := s_find v (show 0 < 11 by omega) r3 t3 fun d hd => (h10 d hd).1
  unfold f_X11_surveyStreams
  rw [h1, Option.bind_some, h4, Option.bind_some, h7, Option.bind_some, h11, Option.bind_some]
  exact ⟨m4, rfl, (((h2'.mono fun k i j => .inl).trans (h5.mono fun k i j w => .inr (.inl w))).trans (h8.mono fun k i j w => .inr (.inr (.inl w)))).trans (h12.mono fun k i j w => .inr (.inr (.inr w))), h13⟩
theorem zPss_c {k i j : Nat} (w : zPss k i j) : ¬ zPro k i j := by
  rcases w with w | w | w | w
  · exact zPf_c w
  · exact zPtr_c w
  · exact zPru_c w
  · exact zPsc_c w
theorem zPss_8 {i j : Nat} : ¬ zPss 8 i j := by
  unfold zPss zPf p_X2_fill zPtr zPru zPsc
  omega
theorem zPss_22 {i j : Nat} : ¬ zPss 22 i j := by
  unfold zPss zPf p_X2_fill zPtr zPru zPsc
  omega
theorem z_leastS {S : Nat → Bool} {e : Nat} (h : S e = true) : ∃ p, p ≤ e ∧ S p = true ∧ ∀ c, c < p → S c = false := by
  induction e using Nat.strongRecOn with
  | ind e ih =>
    by_cases w : ∃ q, q < e ∧ S q = true
    · obtain ⟨q, q1, q2⟩ := w
      obtain ⟨p, p1, p2, p3⟩ := ih q q1 q2
      exact ⟨p, by omega, p2, p3⟩
    · exact ⟨e, Nat.le_refl _, h, fun c hc => Bool.eq_false_iff.mpr fun q => w ⟨c, hc, q⟩⟩
theorem t_section (I : zInv m) (x : Int32) (y : Int32) (z : Int32) : zAg Int32.toInt64 (f_L_section x y z m) (f_X12_section x y z) := by
  obtain ⟨a, b, n, p, s, l, c, e, I'⟩ := I
  have v := I'.1
  have n64 := v.n64
  unfold f_L_section
  rcases z_cell v x with ⟨d, hd, rfl⟩ | hx
  · rcases z_cell v y with ⟨o, ho, rfl⟩ | hy
    · have f7 := zG.far7 v hd ho
      rcases z_rng z (lo := 0) (hi := 5) (by omega) (by omega) with ⟨k, _, k2, rfl, g1, g2⟩ | ⟨g0, g1, g2⟩
      · refine zAg.ok Int32.toInt64 I'.of (v := Int32.ofNat (if k = 0 then a.far d o + 1 else a.sc d o k (a.far d o + 1))) ?_ fun m' f => ?_
        · obtain ⟨m1, p1, p2, p3⟩ := s_draw v (show 0 < 11 by omega) hd ho I'.2.1
          have p2' := p2.mono fun k i j => zPli_c
          have r1 : zGR m1 0 a := I'.2.1.keep p2 fun k i j w => by unfold zGp at w; unfold zPli; omega
          obtain ⟨A, a1, a2⟩ := s_cset v hd ho p3
          unfold f_X11_section zCl
          rw [s_req v I'.2.1 hd, zbx_l, s_req v I'.2.1 ho, zbx_l, show (0 : Int32) = Int32.ofNat 0 from rfl, show (5 : Int32) = Int32.ofNat 5 from rfl, g1, zbx_l, p1, Option.bind_some]
          have hk : k = 0 ∨ k = 1 ∨ k = 2 ∨ k = 3 ∨ k = 4 ∨ k = 5 := by omega
          rcases hk with rfl | rfl | rfl | rfl | rfl | rfl
          · rw [if_pos (by decide), p3.1, if_pos rfl]
            exact ⟨m1, rfl, p2'⟩
          · rw [if_neg (by decide), if_pos (by decide), s_rises v hd ho r1 p3 (.inl ⟨rfl, rfl⟩), Option.bind_some, if_neg (by omega)]
            exact ⟨m1, rfl, p2'⟩
          · rw [if_neg (by decide), if_neg (by decide), if_pos (by decide), s_rises v hd ho r1 p3 (.inr ⟨rfl, rfl⟩), Option.bind_some, if_neg (by omega)]
            exact ⟨m1, rfl, p2'⟩
          · rw [if_neg (by decide), if_neg (by decide), if_neg (by decide), if_pos (by decide), a1, Option.bind_some, s_greatest 0 m1 A a.ht (fun e he _ => r1.ht e he) (fun e _ => by have := v.ht e; omega), Option.bind_some, zG.sc3g v hd ho a2, if_neg (by omega)]
            exact ⟨m1, rfl, p2'⟩
          · obtain ⟨h1, h2⟩ := zG.sc4 v (c := d) (d := o) (a.far d o + 1)
            have hAd : zb A (a.al d o 0) = true := by
              rw [a2 _ (by have := zG.al_n v hd ho (Nat.zero_le (a.far d o)); omega)]
              exact zG.als_iff.mpr ⟨0, by omega, rfl⟩
            obtain ⟨q, q1, q2, q3⟩ := z_leastS hAd
            have hqn : q < a.n := by have := zG.al_n v hd ho (Nat.zero_le (a.far d o)); omega
            have ln := zG.lp_n (a := a) (S := zb A) hqn a.n (Nat.le_refl _)
            have lS := zG.lp_S (a := a) q2 a.n
            obtain ⟨le, _⟩ := zG.lp_le (a := a) (S := zb A) (p := q) a.n
            have fin : a.ht (a.lp (zb A) q a.n) = a.sc d o 4 (a.far d o + 1) := by
              refine Nat.le_antisymm ?_ ?_
              · obtain ⟨l, l1, l2⟩ := h2 (by omega)
                have an := zG.al_n v hd ho (show l ≤ a.far d o by omega)
                rw [← l2]
                exact le _ an (by rw [a2 _ (by omega)]; exact zG.als_iff.mpr ⟨l, l1, rfl⟩)
              · rw [a2 _ (by omega)] at lS
                obtain ⟨l, l1, l2⟩ := zG.als_iff.mp lS
                rw [← l2]
                exact h1 l l1
            rw [if_neg (by decide), if_neg (by decide), if_neg (by decide), if_neg (by decide), if_pos (by decide), a1, Option.bind_some, s_lowestPlace v r1 hqn q2 q3, Option.bind_some, s_at' 20 0 (show a.lp (zb A) q a.n < 64 by omega), Option.bind_some, r1.ht _ (by omega), fin, if_neg (by omega)]
            exact ⟨m1, rfl, p2'⟩
          · obtain ⟨m2, u1, u2, u3⟩ := s_streams2 v r1
            have p4 : zLi a d o m2 := ⟨by rw [(u2 8 0 1 zPss_8).1]; exact p3.1, fun k hk => by rw [(u2 22 0 k zPss_22).1]; exact p3.2 k hk⟩
            obtain ⟨B, b1, b2⟩ := s_cset v hd ho p4
            rw [if_neg (by decide), if_neg (by decide), if_neg (by decide), if_neg (by decide), if_neg (by decide), u1, Option.bind_some, b1, Option.bind_some, z_bitCount, Option.bind_some, z_cnt_ext (q := fun e => a.als d o (a.far d o + 1) e && a.str e) (fun e he => by rw [zb_and, b2 e he, u3.1 e he]), zG.sc5 v n64 hd ho _ (Nat.le_refl _), if_neg (by omega)]
            exact ⟨m2, rfl, p2'.trans (u2.mono fun k i j => zPss_c)⟩
        · have r1 := (I'.keep f).2.2.1.th 0
          unfold zAn f_X12_section
          rw [s_isCell v r1 hd, Option.bind_some, if_neg (by decide), s_isCell v r1 ho, Option.bind_some, if_neg (by decide), show (0 : Int64) = Int32.toInt64 (Int32.ofNat 0) from rfl, show (5 : Int64) = Int32.toInt64 (Int32.ofNat 5) from rfl, g2, Option.bind_some, if_neg (by decide), s_far v r1 hd ho, Option.bind_some]
          by_cases k0 : k = 0
          · rw [k0, if_pos (by decide), if_pos rfl, zi_s]
            exact ⟨_, _, rfl, z_th m' 0, z_th0 _ _, rfl⟩
          · obtain ⟨m2, q1, q2, q3, q4⟩ := s_mwaters v r1
            have r2 : zMR (m2.1 23 0) a := by rw [q2.row (fun j => by unfold zPwa; omega)]; exact r1
            have h0 := s_sec_82 (z := k) v ⟨r2, q3.f, q4⟩ hd ho (by omega) (by omega) zF 0 (Nat.zero_le _) (zF_lt (by omega))
            rw [if_neg (by rw [zi_0 (by omega)]; exact k0), if_neg k0, q1, Option.bind_some]
            refine ⟨_, m2, ?_, (q2.mono fun k i j => zPwa_m).x13, q2.t0 (by unfold zPwa; omega) (z_th0 _ _), rfl⟩
            have e0 : a.sc d o k 0 = if k = 4 then 1000000 else 0 := rfl
            rw [e0] at h0
            by_cases k4 : k = 4
            · rw [if_pos (by rw [k4]; rfl)]
              rw [if_pos k4] at h0
              exact h0
            · rw [if_neg (by rw [show (4 : Int32) = Int32.ofNat 4 from rfl, zi_eq (by omega) (by omega)]; exact k4)]
              rw [if_neg k4] at h0
              exact h0
      · refine zAg.ex Int32.toInt64 I'.of (x := 0) (k := 2) ?_ rfl fun m' f => ?_
        · unfold f_X11_section zCl
          rw [s_req v I'.2.1 hd, zbx_l, s_req v I'.2.1 ho, zbx_l, show (0 : Int32) = Int32.ofNat 0 from rfl, show (5 : Int32) = Int32.ofNat 5 from rfl, g1, zbx_r]
          exact ⟨m, rfl, zFr.refl m⟩
        · have r1 := (I'.keep f).2.2.1.th 0
          unfold zAn f_X12_section
          rw [s_isCell v r1 hd, Option.bind_some, if_neg (by decide), s_isCell v r1 ho, Option.bind_some, if_neg (by decide), show (0 : Int64) = Int32.toInt64 (Int32.ofNat 0) from rfl, show (5 : Int64) = Int32.toInt64 (Int32.ofNat 5) from rfl, g2, Option.bind_some, if_pos (by decide)]
          exact ⟨0, _, rfl, (z_th m' 0).trans (z_th _ 2), by decide, z_th0 _ _⟩
    · refine zAg.ex Int32.toInt64 I'.of (x := 1) (k := 1) ?_ rfl fun m' f => ?_
      · unfold f_X11_section zCl
        rw [s_req v I'.2.1 hd, zbx_l, s_reqn v I'.2.1 hy, zbx_r]
        exact ⟨m, rfl, zFr.refl m⟩
      · have r1 := (I'.keep f).2.2.1.th 0
        unfold zAn f_X12_section
        rw [s_isCell v r1 hd, Option.bind_some, if_neg (by decide), s_isCelln v r1 hy, Option.bind_some, if_pos (by decide)]
        exact ⟨0, _, rfl, (z_th m' 0).trans (z_th _ 1), by decide, z_th0 _ _⟩
  · refine zAg.ex Int32.toInt64 I'.of (x := 1) (k := 1) ?_ rfl fun m' f => ?_
    · unfold f_X11_section zCl
      rw [s_reqn v I'.2.1 hx]
      exact ⟨m, rfl, zFr.refl m⟩
    · have I1 := I'.keep f
      unfold zAn f_X12_section
      rw [s_isCelln v (I1.2.2.1.th 0) hx, Option.bind_some, if_pos (by decide)]
      exact ⟨0, _, rfl, (z_th m' 0).trans (z_th _ 1), by decide, z_th0 _ _⟩
end
