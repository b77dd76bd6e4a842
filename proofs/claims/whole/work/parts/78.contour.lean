/-! contour. -/
section
variable {m : zM} {a : zG}
noncomputable def zG.gc (a : zG) (W V : Nat → Bool) (c : Nat) : Bool := W c && decide (a.ml W c = c) && !(decide (0 < z_cnt (fun y => a.cs W c y && V y) 64))
theorem s_groups_9 (v : zGV a) {g : Nat} (r : zGR m g a) {W V : Nat → Bool} (hW : ∀ c, W c = true → c < a.n) {y : Int64} (hy : ∀ d, zb y d = V d) : ∀ (j c : Nat) (x : Int64), c ≤ 64 → 64 - c < j → (∀ d, zb x d = true ↔ W d = true ∧ c ≤ a.ml W d) → f_X4_groups_9 g m j y (Int32.ofNat (z_cnt (a.gc W V) c)) x (Int32.ofNat c) = some (Int32.ofNat (z_cnt (a.gc W V) 64))
  | 0, _, _, _, h, _ => absurd h (Nat.not_lt_zero _)
  | j + 1, c, x, hc, hj, hx => by
    have n64 := v.n64
    unfold f_X4_groups_9
    rw [show (64 : Int32) = Int32.ofNat 64 from rfl]
    by_cases he : c = 64
    · subst he
      rw [if_pos (by rw [zi_le (by omega) (by omega)]; clear hx; omega)]
    · have c64 : c < 64 := by clear hx; omega
      have hj2 : 64 - (c + 1) < j := by clear hx; omega
      have e1 : z_cnt (a.gc W V) (c + 1) = z_cnt (a.gc W V) c + if a.gc W V c = true then 1 else 0 := rfl
      rw [if_neg (by rw [zi_le (by omega) (by omega)]; clear hx; omega), s_has _ c64, Option.bind_some, zi_s]
      cases hb : zb x c with
      | false =>
        have hno : ¬ (W c = true ∧ c ≤ a.ml W c) := fun q => by have := (hx c).mpr q; rw [hb] at this; cases this
        have hg : a.gc W V c = false := by
          unfold zG.gc
          cases w : W c with
          | false => rfl
          | true =>
            have : ¬ a.ml W c = c := fun q => hno ⟨w, by omega⟩
            simp [this]
        rw [if_pos (by decide)]
        have ih := s_groups_9 v r hW hy j (c + 1) x c64 hj2 fun d => by
          rw [hx d]
          refine ⟨fun ⟨q1, q2⟩ => ⟨q1, ?_⟩, fun ⟨q1, q2⟩ => ⟨q1, by omega⟩⟩
          refine Nat.lt_of_le_of_ne q2 fun w => hno ?_
          have h3 := zG.ml_cm v hW q1
          rw [← w] at h3
          exact ⟨zRch.inW h3, by have := zG.ml_eq v hW h3; omega⟩
        rw [e1, hg, if_neg Bool.false_ne_true, Nat.add_zero] at ih
        exact ih
      | true =>
        obtain ⟨w1, w2⟩ := (hx c).mp hb
        have w3 := zG.ml_le v hW (zG.cm_refl w1)
        have w4 : a.ml W c = c := by omega
        obtain ⟨Z, z1, z2⟩ := s_reachable v r (S := z_shl 1 (Int32.ofNat c)) (W := x) fun d _ q => hW d ((hx d).mp q).1
        have hZ : ∀ d, zb Z d = a.cs W c d := fun d => by
          rw [Bool.eq_iff_iff, z2 d, zb_onef c64, zG.cs_iff]
          refine zG.in_reach (fun e q => ((hx e).mp q).1) fun e q => (hx e).mpr ⟨zRch.inW q, ?_⟩
          rw [zG.ml_eq v hW q]
          exact w2
        rw [if_neg (by decide), z1, Option.bind_some]
        have ih := s_groups_9 v r hW hy j (c + 1) (x &&& (Z ^^^ (-1))) c64 hj2 fun d => by
          rw [zb_and, Bool.and_eq_true, hx d]
          by_cases w : d < 64
          · rw [zb_not _ w, hZ d]
            constructor
            · rintro ⟨⟨q1, q2⟩, q3⟩
              refine ⟨q1, Nat.lt_of_le_of_ne q2 fun u => ?_⟩
              rw [zG.cs_iff.mpr (zG.ml_same v hW w1 q1 (by omega))] at q3
              cases q3
            · rintro ⟨q1, q2⟩
              refine ⟨⟨q1, by omega⟩, ?_⟩
              cases u : a.cs W c d with
              | false => rfl
              | true =>
                have := zG.ml_eq v hW (zG.cs_iff.mp u)
                omega
          · rw [zb_big _ (by omega)]
            constructor
            · rintro ⟨_, q⟩; cases q
            · rintro ⟨q, _⟩
              have := hW d q
              omega
        rw [e1] at ih
        have hm := z_meet Z y
        simp only [hZ, hy] at hm
        have hg : a.gc W V c = !(decide (0 < z_cnt (fun y => a.cs W c y && V y) 64)) := by
          unfold zG.gc
          rw [w1, w4]
          simp
        rw [hg] at ih
        by_cases u : 0 < z_cnt (fun y => a.cs W c y && V y) 64
        · rw [if_neg (hm.mpr u)]
          rw [decide_eq_true u, if_neg (by decide), Nat.add_zero] at ih
          exact ih
        · rw [if_pos (Classical.byContradiction fun q => u (hm.mp q)), zi_s]
          rw [decide_eq_false u, if_pos (by decide)] at ih
          exact ih
theorem s_groups (v : zGV a) {g : Nat} (r : zGR m g a) {W V : Nat → Bool} (hW : ∀ c, W c = true → c < a.n) {x y : Int64} (hx : ∀ d, zb x d = W d) (hy : ∀ d, zb y d = V d) : f_X4_groups g x y m = some (Int32.ofNat (z_cnt (a.gc W V) a.n)) := by
  have n64 := v.n64
  have h := s_groups_9 v r hW hy zF 0 x (Nat.zero_le _) (zF_lt (by omega)) fun d => by rw [hx d]; exact ⟨fun q => ⟨q, Nat.zero_le _⟩, fun q => q.1⟩
  unfold f_X4_groups
  refine h.trans ?_
  have e := z_cnt_cut (p := a.gc W V) (n := a.n) (fun d hd => by
    unfold zG.gc
    cases w : W d with
    | false => rfl
    | true => have := hW d w; omega) (64 - a.n)
  rw [show a.n + (64 - a.n) = 64 by omega] at e
  rw [e]
/-- cells at the edge -/
noncomputable def zG.eg (a : zG) (d : Nat) : Bool := decide (d < a.n) && (decide (a.nb d 0 = none) || decide (a.nb d 1 = none) || decide (a.nb d 2 = none) || decide (a.nb d 3 = none))
theorem zG.eg_iff {d : Nat} (hd : d < a.n) : a.eg d = true ↔ ∃ i, i < 4 ∧ a.nb d i = none := by
  unfold zG.eg
  simp only [hd, decide_true, Bool.true_and, Bool.or_eq_true, decide_eq_true_eq]
  constructor
  · rintro (((h | h) | h) | h)
    · exact ⟨0, by omega, h⟩
    · exact ⟨1, by omega, h⟩
    · exact ⟨2, by omega, h⟩
    · exact ⟨3, by omega, h⟩
  · rintro ⟨i, hi, h⟩
    have : i = 0 ∨ i = 1 ∨ i = 2 ∨ i = 3 := by omega
    rcases this with rfl | rfl | rfl | rfl
    · exact .inl (.inl (.inl h))
    · exact .inl (.inl (.inr h))
    · exact .inl (.inr h)
    · exact .inr h
theorem s_edge (v : zGV a) (r : zGR m 0 a) : ∃ y, f_X4_edge 0 m = some y ∧ ∀ d, zb y d = a.eg d := by
  have n64 := v.n64
  have w8 := v.w8
  have w2 := v.w2
  obtain ⟨A, a1, a2⟩ := s_all v r
  obtain ⟨L, l1, l2⟩ := s_column v r (x := 0) (by omega)
  obtain ⟨Q, q1, q2⟩ := s_column v r (x := a.w - 1) (by omega)
  unfold f_X4_edge
  rw [a1, Option.bind_some, Option.bind_some, Option.bind_some, show (0 : Int32) = Int32.ofNat 0 from rfl, l1, Option.bind_some, r.w, zi_q (by omega), q1, Option.bind_some]
  refine ⟨_, rfl, fun d => ?_⟩
  by_cases hd : d < 64
  · have hA : ∀ e, zb A e = decide (e < a.n) := fun e => by
      by_cases w : e < 64
      · exact a2 e w
      · rw [zb_big _ (by omega)]
        have : ¬ e < a.n := by omega
        simp [this]
    rw [zb_and, zb_or, zb_or, zb_or, zb_not _ hd, zb_not _ hd, zb_shl _ (by omega) hd, zb_shr _ (by omega), l2 d hd, q2 d hd, hA, hA, hA]
    unfold zG.eg
    by_cases hn : d < a.n
    · have hr := v.row hn
      have hm := Nat.mod_lt d v.w0
      have n0 : a.nb d 0 = none ↔ d < a.w := by
        show (if a.w ≤ d then some (d - a.w) else none) = none ↔ _
        by_cases q : a.w ≤ d
        · rw [if_pos q]; exact ⟨fun w => (by cases w), fun w => by omega⟩
        · rw [if_neg q]; exact ⟨fun _ => by omega, fun _ => rfl⟩
      have n1 : a.nb d 1 = none ↔ d % a.w = a.w - 1 := by
        show (if d % a.w + 1 < a.w then some (d + 1) else none) = none ↔ _
        by_cases q : d % a.w + 1 < a.w
        · rw [if_pos q]; exact ⟨fun w => (by cases w), fun w => by omega⟩
        · rw [if_neg q]; exact ⟨fun _ => by omega, fun _ => rfl⟩
      have n2 : a.nb d 2 = none ↔ ¬ d + a.w < a.n := by
        show (if d + a.w < a.n then some (d + a.w) else none) = none ↔ _
        by_cases q : d + a.w < a.n
        · rw [if_pos q]; exact ⟨fun w => (by cases w), fun w => absurd q w⟩
        · rw [if_neg q]; exact ⟨fun _ => q, fun _ => rfl⟩
      have n3 : a.nb d 3 = none ↔ d % a.w = 0 := by
        show (if 0 < d % a.w then some (d - 1) else none) = none ↔ _
        by_cases q : 0 < d % a.w
        · rw [if_pos q]; exact ⟨fun w => (by cases w), fun w => by omega⟩
        · rw [if_neg q]; exact ⟨fun _ => by omega, fun _ => rfl⟩
      rw [Bool.eq_iff_iff]
      simp only [hn, hr, decide_true, Bool.true_and, Bool.and_eq_true, Bool.or_eq_true, decide_eq_true_eq, Bool.not_eq_true', Bool.and_eq_false_iff, decide_eq_false_iff_not, n0, n1, n2, n3, true_and]
      have e1 : a.w + d < a.n ↔ d + a.w < a.n := by omega
      constructor
      · rintro (((h | h) | h) | h)
        · exact .inr h
        · exact .inl (.inl (.inr h))
        · rcases h with h | h
          · exact .inl (.inl (.inl (by omega)))
          · omega
        · exact .inl (.inr (by omega))
      · rintro (((h | h) | h) | h)
        · exact .inl (.inr (.inl (by omega)))
        · exact .inl (.inl (.inr h))
        · exact .inr (by omega)
        · exact .inl (.inl (.inl h))
    · simp [hn]
  · rw [zb_big _ (by omega)]
    unfold zG.eg
    have : ¬ d < a.n := by omega
    simp [this]
theorem s_atEdge_2 (v : zGV a) (r : zMR (m.1 23 0) a) {c : Nat} (hc : c < a.n) : ∀ (j d : Nat), d ≤ 4 → 4 - d < j → (∀ i, i < d → a.nb c i ≠ none) → f_X12_isAtEdge_2 m j (Int32.ofNat c) (Int32.ofNat d) = some (a.eg c)
  | 0, _, _, h, _ => absurd h (Nat.not_lt_zero _)
  | j + 1, d, hd, hj, hi => by
    have n64 := v.n64
    unfold f_X12_isAtEdge_2
    rw [show (4 : Int32) = Int32.ofNat 4 from rfl]
    by_cases he : d = 4
    · subst he
      rw [if_pos (by rw [zi_le (by omega) (by omega)]; omega)]
      congr 1
      cases w : a.eg c with
      | false => rfl
      | true =>
        obtain ⟨i, h1, h2⟩ := (zG.eg_iff hc).mp w
        exact absurd h2 (hi i h1)
    · rw [if_neg (by rw [zi_le (by omega) (by omega)]; omega), s_next v r hc (by omega), Option.bind_some, zi_s]
      cases hn : a.nb c d with
      | none =>
        rw [if_neg (show ¬ 0 ≤ zo none by decide)]
        congr 1
        exact ((zG.eg_iff hc).mpr ⟨d, by omega, hn⟩).symm
      | some e =>
        have := zG.nb_n v hc hn
        rw [zo_some, if_pos (zi_zl (by omega))]
        refine s_atEdge_2 v r hc j (d + 1) (by omega) (by omega) fun i h1 => ?_
        by_cases z : i = d
        · rw [z, hn]; exact fun w => by cases w
        · exact hi i (by omega)
/-- pairs of neighbours of which one is in a set -/
noncomputable def zG.bo1 (a : zG) (W : Nat → Bool) (c : Nat) : Nat → Nat
  | 0 => 0
  | d + 1 => a.bo1 W c d + match a.nb c (d + 1) with
    | none => 0
    | some e => if W c = W e then 0 else 1
noncomputable def zG.bos (a : zG) (W : Nat → Bool) (c : Nat) : Nat := z_tot (fun d => a.bo1 W d 2) c
theorem z_bieq (x y : Bool) : z_bi x = z_bi y ↔ x = y := by cases x <;> cases y <;> decide
theorem s_bor_21 (v : zGV a) (r : zGR m 0 a) {W : Nat → Bool} {x : Int64} (hx : ∀ d, zb x d = W d) (K : Int64 → Int32 → Int32 → Int32 → Option Int32) {c : Nat} (hc : c < a.n) (z : Nat) : ∀ (j d : Nat), d ≤ 2 → 2 - d < j → f_X4_borders_21 0 m K j x (Int32.ofNat (z + a.bo1 W c d)) (Int32.ofNat a.n) (Int32.ofNat c) (Int32.ofNat (d + 1)) = K x (Int32.ofNat (z + a.bo1 W c 2)) (Int32.ofNat a.n) (Int32.ofNat (c + 1))
  | 0, _, _, h => absurd h (Nat.not_lt_zero _)
  | j + 1, d, hd, hj => by
    have n64 := v.n64
    unfold f_X4_borders_21
    rw [show (2 : Int32) = Int32.ofNat 2 from rfl]
    by_cases he : d = 2
    · subst he
      rw [if_pos (by rw [zi_lt (by omega) (by omega)]; omega), zi_s]
    · have ih := s_bor_21 v r hx K hc z j (d + 1) (by omega) (by omega)
      have e1 : a.bo1 W c (d + 1) = a.bo1 W c d + match a.nb c (d + 1) with
        | none => 0
        | some e => if W c = W e then 0 else 1 := rfl
      rw [if_neg (by rw [zi_lt (by omega) (by omega)]; omega), s_nb v r hc (by omega), Option.bind_some, zi_s]
      cases hn : a.nb c (d + 1) with
      | none =>
        rw [hn] at e1
        rw [zo_none, if_pos rfl]
        rw [e1] at ih
        exact ih
      | some f =>
        have hf := zG.nb_n v hc hn
        rw [hn] at e1
        have e2 : a.bo1 W c (d + 1) = a.bo1 W c d + if W c = W f then 0 else 1 := e1
        rw [zo_some, if_neg (zi_m1 (by omega)), s_has _ (show c < 64 by omega), Option.bind_some, s_has _ (show f < 64 by omega), Option.bind_some, hx, hx]
        by_cases w : W c = W f
        · rw [if_pos (by rw [w])]
          rw [e2, if_pos w] at ih
          exact ih
        · rw [if_neg (by rw [z_bieq]; exact w), zi_s]
          rw [e2, if_neg w] at ih
          exact ih
theorem s_bor_11 (v : zGV a) (r : zGR m 0 a) {W : Nat → Bool} {x : Int64} (hx : ∀ d, zb x d = W d) : ∀ (j c : Nat), c ≤ a.n → a.n - c < j → f_X4_borders_11 0 m j x (Int32.ofNat (a.bos W c)) (Int32.ofNat a.n) (Int32.ofNat c) = some (Int32.ofNat (a.bos W a.n))
  | 0, _, _, h => absurd h (Nat.not_lt_zero _)
  | j + 1, c, hc, hj => by
    have n64 := v.n64
    unfold f_X4_borders_11
    by_cases he : c = a.n
    · subst he
      rw [if_pos (by rw [zi_le (by omega) (by omega)]; omega)]
    · have hcn : c < a.n := by omega
      rw [if_neg (by rw [zi_le (by omega) (by omega)]; omega)]
      have h1 := s_bor_21 v r hx (f_X4_borders_11 0 m j) hcn (a.bos W c) zF 0 (by omega) (zF_lt (by omega))
      rw [show (1 : Int32) = Int32.ofNat (0 + 1) from rfl]
      exact h1.trans (s_bor_11 v r hx j (c + 1) hcn (by omega))
theorem s_borders (v : zGV a) (r : zGR m 0 a) {W : Nat → Bool} {x : Int64} (hx : ∀ d, zb x d = W d) : f_X4_borders 0 x m = some (Int32.ofNat (a.bos W a.n)) := by
  unfold f_X4_borders
  rw [s_size v r, Option.bind_some]
  exact s_bor_11 v r hx zF 0 (Nat.zero_le _) (zF_lt (by have := v.n64; omega))
theorem zG.rgh {t c : Nat} (v : zGV a) (hc : c < a.n) : a.rg t 99 c = true ↔ t ≤ a.ht c := by
  have := v.ht c
  rw [zG.rg_iff]
  omega
/-! The reference's contours. -/
theorem s_con_0 (v : zGV a) (r : zMR (m.1 23 0) a) {t : Nat} (ht : t ≤ 99) (y : Int64) : ∀ (j c : Nat), c ≤ a.n → a.n - c < j → f_X12_contour_43 j (Int32.ofNat t) 0 (Int32.ofNat (z_cnt (a.rg t 99) c)) y (Int32.ofNat c) m = some (Int32.ofNat (z_cnt (a.rg t 99) a.n), m)
  | 0, _, _, h => absurd h (Nat.not_lt_zero _)
  | j + 1, c, hc, hj => by
    have n64 := v.n64
    unfold f_X12_contour_43
    rw [s_mcells r, Option.bind_some]
    by_cases he : c = a.n
    · subst he
      rw [if_pos (by rw [zi_le (by omega) (by omega)]; omega)]
    · have hcn : c < a.n := by omega
      have hht := v.ht c
      have ih := s_con_0 v r ht y j (c + 1) hcn (by omega)
      have e1 : z_cnt (a.rg t 99) (c + 1) = z_cnt (a.rg t 99) c + if a.rg t 99 c = true then 1 else 0 := rfl
      have hg := zG.rgh (t := t) v hcn
      have f141 : ∀ z s, f_X12_contour_81 (f_X12_contour_43 j) (Int32.ofNat t) 0 z y (Int32.ofNat c) s m = f_X12_contour_43 j (Int32.ofNat t) 0 z y (Int32.ofNat (c + 1)) m := fun z s => by
        unfold f_X12_contour_81
        rw [if_neg (by decide)]
        unfold f_X12_contour_141
        rw [z_gdt (by decide), if_pos (by decide), zi_s]
      rw [if_neg (by rw [zi_le (by omega) (by omega)]; omega), s_mheight r (by omega), Option.bind_some]
      unfold f_X12_contour_67
      by_cases w : t ≤ a.ht c
      · rw [if_neg (by rw [zi_lt (by omega) (by omega)]; omega), if_pos rfl, if_neg (by decide), f141, zi_s]
        rw [e1, if_pos (hg.mpr w)] at ih
        exact ih
      · rw [if_pos (by rw [zi_lt (by omega) (by omega)]; omega), if_pos rfl, if_pos rfl, f141]
        rw [e1, if_neg (mt hg.mp w), Nat.add_zero] at ih
        exact ih
theorem s_con_89 (v : zGV a) (r : zMR (m.1 23 0) a) {t : Nat} (ht : t ≤ 99) (y : Int64) (K : Int32 → Int32 → Int32 → Int64 → Int32 → zM → Option (Int32 × zM)) {c : Nat} (hc : c < a.n) (z : Nat) : ∀ (j d : Nat), d ≤ 2 → 2 - d < j → f_X12_contour_89 K j (Int32.ofNat t) 2 (Int32.ofNat (z + a.bo1 (a.rg t 99) c d)) y (Int32.ofNat c) (z_bi (a.rg t 99 c)) (Int32.ofNat (d + 1)) m = K (Int32.ofNat t) 2 (Int32.ofNat (z + a.bo1 (a.rg t 99) c 2)) y (Int32.ofNat (c + 1)) m
  | 0, _, _, h => absurd h (Nat.not_lt_zero _)
  | j + 1, d, hd, hj => by
    have n64 := v.n64
    unfold f_X12_contour_89
    rw [show (3 : Int32) = Int32.ofNat 3 from rfl]
    by_cases he : d = 2
    · subst he
      rw [if_pos (by rw [zi_le (by omega) (by omega)]; omega)]
      unfold f_X12_contour_141
      rw [z_gdt (by decide), if_pos (by decide), zi_s]
    · have ih := s_con_89 v r ht y K hc z j (d + 1) (by omega) (by omega)
      have e1 : a.bo1 (a.rg t 99) c (d + 1) = a.bo1 (a.rg t 99) c d + match a.nb c (d + 1) with
        | none => 0
        | some e => if a.rg t 99 c = a.rg t 99 e then 0 else 1 := rfl
      rw [if_neg (by rw [zi_le (by omega) (by omega)]; omega), s_next v r hc (by omega), Option.bind_some]
      cases hn : a.nb c (d + 1) with
      | none =>
        rw [hn] at e1
        rw [if_pos (show zo none < 0 by decide), zi_s]
        rw [e1] at ih
        exact ih
      | some f =>
        have hf := zG.nb_n v hc hn
        have hff := v.ht f
        have hg := zG.rgh (t := t) v hf
        rw [hn] at e1
        have e2 : a.bo1 (a.rg t 99) c (d + 1) = a.bo1 (a.rg t 99) c d + if a.rg t 99 c = a.rg t 99 f then 0 else 1 := e1
        rw [zo_some, if_neg (zi_z (by omega)), Option.bind_some, s_mheight r (by omega), Option.bind_some]
        have fin : ∀ s : Bool, s = a.rg t 99 f → f_X12_contour_127 K (f_X12_contour_89 K j) (Int32.ofNat t) 2 (Int32.ofNat (z + a.bo1 (a.rg t 99) c d)) y (Int32.ofNat c) (z_bi (a.rg t 99 c)) (Int32.ofNat (d + 1)) (z_bi s) m = K (Int32.ofNat t) 2 (Int32.ofNat (z + a.bo1 (a.rg t 99) c 2)) y (Int32.ofNat (c + 1)) m := fun s hs => by
          unfold f_X12_contour_127
          rw [hs, zi_s]
          by_cases w : a.rg t 99 c = a.rg t 99 f
          · rw [if_pos (by rw [w])]
            rw [e2, if_pos w] at ih
            exact ih
          · rw [if_neg (by rw [z_bieq]; exact fun q => w q.symm), zi_s]
            rw [e2, if_neg w] at ih
            exact ih
        by_cases w : t ≤ a.ht f
        · rw [if_neg (by rw [zi_lt (by omega) (by omega)]; omega)]
          exact fin true (hg.mpr w).symm
        · rw [if_pos (by rw [zi_lt (by omega) (by omega)]; omega)]
          exact fin false (by cases q : a.rg t 99 f with
            | false => rfl
            | true => exact absurd (hg.mp q) w)
theorem s_con_2 (v : zGV a) (r : zMR (m.1 23 0) a) {t : Nat} (ht : t ≤ 99) (y : Int64) : ∀ (j c : Nat), c ≤ a.n → a.n - c < j → f_X12_contour_43 j (Int32.ofNat t) 2 (Int32.ofNat (a.bos (a.rg t 99) c)) y (Int32.ofNat c) m = some (Int32.ofNat (a.bos (a.rg t 99) a.n), m)
  | 0, _, _, h => absurd h (Nat.not_lt_zero _)
  | j + 1, c, hc, hj => by
    have n64 := v.n64
    unfold f_X12_contour_43
    rw [s_mcells r, Option.bind_some]
    by_cases he : c = a.n
    · subst he
      rw [if_pos (by rw [zi_le (by omega) (by omega)]; omega)]
    · have hcn : c < a.n := by omega
      have hht := v.ht c
      have ih := s_con_2 v r ht y j (c + 1) hcn (by omega)
      have hg := zG.rgh (t := t) v hcn
      have h1 := s_con_89 v r ht y (f_X12_contour_43 j) hcn (a.bos (a.rg t 99) c) zF 0 (by omega) (zF_lt (by omega))
      have f81 : ∀ s : Bool, s = a.rg t 99 c → f_X12_contour_67 (f_X12_contour_43 j) (Int32.ofNat t) 2 (Int32.ofNat (a.bos (a.rg t 99) c)) y (Int32.ofNat c) (z_bi s) m = some (Int32.ofNat (a.bos (a.rg t 99) a.n), m) := fun s hs => by
        unfold f_X12_contour_67
        rw [if_neg (by decide)]
        unfold f_X12_contour_81
        rw [if_pos rfl, hs, show (1 : Int32) = Int32.ofNat (0 + 1) from rfl]
        exact h1.trans ih
      rw [if_neg (by rw [zi_le (by omega) (by omega)]; omega), s_mheight r (by omega), Option.bind_some]
      by_cases w : t ≤ a.ht c
      · rw [if_neg (by rw [zi_lt (by omega) (by omega)]; omega)]
        exact f81 true (hg.mpr w).symm
      · rw [if_pos (by rw [zi_lt (by omega) (by omega)]; omega)]
        exact f81 false (by cases q : a.rg t 99 c with
          | false => rfl
          | true => exact absurd (hg.mp q) w)
theorem s_con_221 (v : zGV a) (r : zMR (m.1 23 0) a) (K : Int32 → Int32 → Int32 → Int64 → Int32 → zM → Option (Int32 × zM)) {t k z c : Nat} (hk : k = 1 ∨ k = 3) (y : Int64) {S : Nat → Bool} (hS : ∀ d, zb (m.2.1 13 0 20) d = S d) : ∀ (j e : Nat) (f : Bool), e ≤ a.n → a.n - e < j → (f = true ↔ ∀ d, d < e → ¬ (k = 3 ∧ S d = true ∧ a.eg d = true)) → f_X12_contour_221 K j (Int32.ofNat t) (Int32.ofNat k) (Int32.ofNat z) y (Int32.ofNat c) (z_bi f) (Int32.ofNat e) m = K (Int32.ofNat t) (Int32.ofNat k) (Int32.ofNat (z + if @decide (∀ d, d < a.n → ¬ (k = 3 ∧ S d = true ∧ a.eg d = true)) (Classical.propDecidable _) = true then 1 else 0)) y (Int32.ofNat (c + 1)) m
  | 0, _, _, _, h, _ => absurd h (Nat.not_lt_zero _)
  | j + 1, e, f, he, hj, hf => by
    have n64 := v.n64
    have hj2 : ¬ e = a.n → a.n - (e + 1) < j := by
      clear hf hk
      omega
    unfold f_X12_contour_221
    rw [s_mcells r, Option.bind_some]
    by_cases hen : e = a.n
    · subst hen
      rw [if_pos (by rw [zi_le (by omega) (by omega)]; clear hf; omega), zi_s]
      cases f with
      | false =>
        have : ¬ @decide (∀ d, d < a.n → ¬ (k = 3 ∧ S d = true ∧ a.eg d = true)) (Classical.propDecidable _) = true := fun q => by have := hf.mpr (z_dec.mp q); cases this
        rw [if_pos (by decide), if_neg this]
        rfl
      | true =>
        rw [if_neg (by decide), if_pos (z_dec.mpr (hf.mp rfl)), zi_s]
    · have he' : e < a.n := by clear hf hk; omega
      have e64 : e < 64 := by omega
      rw [if_neg (by rw [zi_le (by omega) (by omega)]; clear hf; omega), zi_s]
      have same : ¬ (k = 3 ∧ S e = true ∧ a.eg e = true) → (f = true ↔ ∀ d, d < e + 1 → ¬ (k = 3 ∧ S d = true ∧ a.eg d = true)) := fun w => hf.trans ⟨fun q d hd => by
        by_cases z : d = e
        · rw [z]; exact w
        · exact q d (by omega), fun q d hd => q d (by omega)⟩
      rcases hk with rfl | rfl
      · rw [if_neg (by decide)]
        exact s_con_221 v r K (.inl rfl) y hS j (e + 1) f he' (hj2 hen) (same fun w => by omega)
      · rw [if_pos (by decide)]
        have tst := z_tst (m.2.1 13 0 20) e64
        rw [hS] at tst
        by_cases w : S e = true
        · unfold f_X12_isAtEdge
          rw [if_pos (tst.mpr w), show (0 : Int32) = Int32.ofNat 0 from rfl, s_atEdge_2 v r he' zF 0 (Nat.zero_le _) (zF_lt (by omega)) (fun i h => absurd h (Nat.not_lt_zero _)), Option.bind_some]
          cases hg : a.eg e with
          | false =>
            rw [if_pos (by decide)]
            exact s_con_221 v r K (.inr rfl) y hS j (e + 1) f he' (hj2 hen) (same fun q => by rw [hg] at q; cases q.2.2)
          | true =>
            rw [if_neg (by decide)]
            exact s_con_221 v r K (.inr rfl) y hS j (e + 1) false he' (hj2 hen) ⟨fun q => (by cases q), fun q => absurd ⟨rfl, w, hg⟩ (q e (Nat.lt_succ_self _))⟩
        · rw [if_neg (mt tst.mp w)]
          exact s_con_221 v r K (.inr rfl) y hS j (e + 1) f he' (hj2 hen) (same fun q => w q.2.1)
theorem s_con_13 (v : zGV a) {t k lo hi : Nat} (ht1 : 1 ≤ t) (ht : t ≤ 99) (hk : (k = 1 ∧ lo = t ∧ hi = 99) ∨ (k = 3 ∧ lo = 0 ∧ hi = t - 1)) : ∀ (j c : Nat) (x : Int64) (m : zM), c ≤ a.n → a.n - c < j → zMR (m.1 23 0) a → (∀ d, zb x d = true ↔ a.rg lo hi d = true ∧ a.ml (a.rg lo hi) d < c) →
    ∃ m', f_X12_contour_43 j (Int32.ofNat t) (Int32.ofNat k) (Int32.ofNat (z_cnt (a.gc (a.rg lo hi) (fun e => decide (k = 3) && a.eg e)) c)) x (Int32.ofNat c) m = some (Int32.ofNat (z_cnt (a.gc (a.rg lo hi) (fun e => decide (k = 3) && a.eg e)) a.n), m') ∧ zFr zPln m m'
  | 0, _, _, _, _, h, _, _ => absurd h (Nat.not_lt_zero _)
  | j + 1, c, x, m, hc, hj, r, hx => by
    have n64 := v.n64
    have hW : ∀ c, a.rg lo hi c = true → c < a.n := fun c h => (zG.rg_iff.mp h).1
    have hlo : lo ≤ 99 := by clear hx; omega
    have hhi : hi ≤ 99 := by clear hx; omega
    unfold f_X12_contour_43
    rw [s_mcells r, Option.bind_some]
    by_cases he : c = a.n
    · subst he
      rw [if_pos (by rw [zi_le (by omega) (by omega)]; clear hx; omega)]
      exact ⟨m, rfl, zFr.refl m⟩
    · have hcn : c < a.n := by clear hx hk; omega
      have c64 : c < 64 := by omega
      have hht := v.ht c
      have hj2 : a.n - (c + 1) < j := by clear hx hk; omega
      have e1 : z_cnt (a.gc (a.rg lo hi) (fun e => decide (k = 3) && a.eg e)) (c + 1) = z_cnt (a.gc (a.rg lo hi) (fun e => decide (k = 3) && a.eg e)) c + if a.gc (a.rg lo hi) (fun e => decide (k = 3) && a.eg e) c = true then 1 else 0 := rfl
      rw [if_neg (by rw [zi_le (by omega) (by omega)]; clear hx; omega), s_mheight r c64, Option.bind_some]
      have skip : (¬ (a.rg lo hi c = true ∧ c ≤ a.ml (a.rg lo hi) c)) → ∃ m', f_X12_contour_43 j (Int32.ofNat t) (Int32.ofNat k) (Int32.ofNat (z_cnt (a.gc (a.rg lo hi) (fun e => decide (k = 3) && a.eg e)) c)) x (Int32.ofNat (c + 1)) m = some (Int32.ofNat (z_cnt (a.gc (a.rg lo hi) (fun e => decide (k = 3) && a.eg e)) a.n), m') ∧ zFr zPln m m' := fun w => by
        have hg : a.gc (a.rg lo hi) (fun e => decide (k = 3) && a.eg e) c = false := by
          unfold zG.gc
          cases q : a.rg lo hi c with
          | false => rfl
          | true =>
            have : ¬ a.ml (a.rg lo hi) c = c := fun u => w ⟨q, by omega⟩
            simp [this]
        have ih := s_con_13 v ht1 ht hk j (c + 1) x m hcn hj2 r fun d => by
          rw [hx d]
          refine ⟨fun ⟨q1, q2⟩ => ⟨q1, by omega⟩, fun ⟨q1, q2⟩ => ⟨q1, ?_⟩⟩
          refine Nat.lt_of_le_of_ne (by omega) fun u => w ?_
          have h3 := zG.ml_cm v hW q1
          rw [u] at h3
          exact ⟨zRch.inW h3, by have := zG.ml_eq v hW h3; omega⟩
        rw [e1, hg, if_neg Bool.false_ne_true, Nat.add_zero] at ih
        exact ih
      have go : a.rg lo hi c = true → c ≤ a.ml (a.rg lo hi) c → ∃ m', f_X12_contour_203 (f_X12_contour_43 j) (Int32.ofNat t) (Int32.ofNat k) (Int32.ofNat (z_cnt (a.gc (a.rg lo hi) (fun e => decide (k = 3) && a.eg e)) c)) x (Int32.ofNat c) (Int32.ofNat c) (Int32.ofNat lo) (Int32.ofNat hi) m = some (Int32.ofNat (z_cnt (a.gc (a.rg lo hi) (fun e => decide (k = 3) && a.eg e)) a.n), m') ∧ zFr zPln m m' := fun w1 w2 => by
        have w3 := zG.ml_le v hW (zG.cm_refl w1)
        have w4 : a.ml (a.rg lo hi) c = c := by omega
        obtain ⟨m1, p1, p2, p3⟩ := s_land v hlo hhi w1 r
        have r1 : zMR (m1.1 23 0) a := by rw [p2.row (fun j => by unfold zPln; omega)]; exact r
        have hS : ∀ d, zb (m1.2.1 13 0 20) d = a.cs (a.rg lo hi) c d := fun d => by rw [Bool.eq_iff_iff, p3 d, zG.cs_iff]
        unfold f_X12_contour_203
        rw [p1, Option.bind_some]
        have h2 := s_con_221 v r1 (f_X12_contour_43 j) (t := t) (z := z_cnt (a.gc (a.rg lo hi) (fun e => decide (k = 3) && a.eg e)) c) (c := c) (show k = 1 ∨ k = 3 by clear hx; omega) (x ||| m1.2.1 13 0 20) hS zF 0 true (Nat.zero_le _) (zF_lt (by clear hx; omega)) ⟨fun _ d h => absurd h (Nat.not_lt_zero _), fun _ => rfl⟩
        have eg : a.gc (a.rg lo hi) (fun e => decide (k = 3) && a.eg e) c = @decide (∀ d, d < a.n → ¬ (k = 3 ∧ a.cs (a.rg lo hi) c d = true ∧ a.eg d = true)) (Classical.propDecidable _) := by
          unfold zG.gc
          rw [w1, w4, Bool.eq_iff_iff, z_dec]
          simp only [decide_true, Bool.and_self, Bool.true_and, Bool.not_eq_true', decide_eq_false_iff_not, z_cnt_pos]
          constructor
          · rintro q d hd ⟨u1, u2, u3⟩
            exact q ⟨d, by omega, by simp [u1, u2, u3]⟩
          · rintro q ⟨d, hd, u⟩
            simp only [Bool.and_eq_true, decide_eq_true_eq] at u
            exact q d (hW d (zRch.inW (zG.cs_iff.mp u.1))) ⟨u.2.1, u.1, u.2.2⟩
        rw [← eg, ← e1] at h2
        obtain ⟨m', q1, q2⟩ := s_con_13 v ht1 ht hk j (c + 1) (x ||| m1.2.1 13 0 20) m1 hcn hj2 r1 fun d => by
          rw [zb_or, Bool.or_eq_true, hx d, hS d, zG.cs_iff]
          constructor
          · rintro (⟨q1, q2⟩ | q)
            · exact ⟨q1, by omega⟩
            · have := zG.ml_eq v hW q
              exact ⟨zRch.inW q, by omega⟩
          · rintro ⟨q1, q2⟩
            by_cases z : a.ml (a.rg lo hi) d = c
            · exact .inr (zG.ml_same v hW w1 q1 (by omega))
            · exact .inl ⟨q1, by omega⟩
        exact ⟨m', h2.trans q1, p2.trans q2⟩
      have tst := z_tst x c64
      have seen : (lg_cmp ((z_shr x (Int32.ofNat c)) &&& 1) 1 = 0) ↔ (a.rg lo hi c = true ∧ a.ml (a.rg lo hi) c < c) := tst.trans (hx c)
      rcases hk with ⟨rfl, rfl, rfl⟩ | ⟨rfl, rfl, rfl⟩
      · have hg := zG.rgh (t := lo) v hcn
        unfold f_X12_contour_67 f_X12_contour_81 f_X12_contour_141 f_X12_contour_159 f_X12_contour_190
        simp only [if_neg (show ¬ Int32.ofNat 1 = 0 by decide), if_neg (show ¬ Int32.ofNat 1 = 2 by decide), if_neg (show ¬ z_irem (Int32.ofNat 1) 2 = 0 by decide), if_pos (show Int32.ofNat 1 = 1 from rfl), if_neg (show ¬ (0 : Int32) = 1 by decide), if_pos (show (1 : Int32) = 1 from rfl), if_neg (show ¬ (1 : Int32) = 0 by decide), z_gdt (show z_nz (2 : Int32) = true by decide), zi_s]
        by_cases w : lo ≤ a.ht c
        · rw [if_neg (by rw [zi_lt (by omega) (by omega)]; omega)]
          by_cases w2 : a.rg lo 99 c = true ∧ a.ml (a.rg lo 99) c < c
          · rw [if_pos (seen.mpr w2)]
            exact skip fun q => by omega
          · rw [if_neg (mt seen.mp w2)]
            exact go (hg.mpr w) (Nat.not_lt.mp fun q => w2 ⟨hg.mpr w, q⟩)
        · rw [if_pos (by rw [zi_lt (by omega) (by omega)]; omega)]
          exact skip fun q => w (hg.mp q.1)
      · have hg : a.rg 0 (t - 1) c = true ↔ a.ht c < t := by rw [zG.rg_iff]; omega
        unfold f_X12_contour_67 f_X12_contour_81 f_X12_contour_141 f_X12_contour_159 f_X12_contour_190
        simp only [if_neg (show ¬ Int32.ofNat 3 = 0 by decide), if_neg (show ¬ Int32.ofNat 3 = 2 by decide), if_neg (show ¬ z_irem (Int32.ofNat 3) 2 = 0 by decide), if_neg (show ¬ Int32.ofNat 3 = 1 by decide), if_pos (show (0 : Int32) = 0 from rfl), if_neg (show ¬ (1 : Int32) = 0 by decide), z_gdt (show z_nz (2 : Int32) = true by decide), zi_s, zi_q ht1]
        by_cases w : a.ht c < t
        · rw [if_pos (by rw [zi_lt (by omega) (by omega)]; omega)]
          by_cases w2 : a.rg 0 (t - 1) c = true ∧ a.ml (a.rg 0 (t - 1)) c < c
          · rw [if_pos (seen.mpr w2)]
            exact skip fun q => by omega
          · rw [if_neg (mt seen.mp w2)]
            exact go (hg.mpr w) (Nat.not_lt.mp fun q => w2 ⟨hg.mpr w, q⟩)
        · rw [if_neg (by rw [zi_lt (by omega) (by omega)]; omega)]
          exact skip fun q => w (hg.mp q.1)
theorem t_contour (I : zInv m) (x : Int32) (y : Int32) : zAg Int32.toInt64 (f_L_contour x y m) (f_X12_contour x y) := by
  obtain ⟨a, b, n, p, s, l, c, e, I'⟩ := I
  have v := I'.1
  have n64 := v.n64
  unfold f_L_contour
  have bad : ∀ m' : zM, f_X12_contour_29 (z_sI m' 13 0 0 0) = some (0, z_sI (z_sI m' 13 0 0 0) 13 0 0 1) := fun m' => rfl
  rcases z_rng x (lo := 1) (hi := 99) (by omega) (by omega) with ⟨t, t1, t2, rfl, u1, u2⟩ | ⟨u0, u1, u2⟩
  · rcases z_rng y (lo := 0) (hi := 3) (by omega) (by omega) with ⟨k, _, k2, rfl, g1, g2⟩ | ⟨g0, g1, g2⟩
    · obtain ⟨A, a1, a2⟩ := s_atMost v I'.2.1 (t := t - 1) (by omega)
      obtain ⟨B, b1, b2⟩ := s_all v I'.2.1
      have hA : ∀ d, zb A d = a.rg 0 (t - 1) d := fun d => by
        rw [zG.rg0]
        by_cases w : d < 64
        · rw [a2 d w]; rfl
        · rw [zb_big _ (by omega)]
          cases q : a.lo (t - 1) d with
          | false => rfl
          | true => have := zG.lo_n q; omega
      have hH : ∀ d, zb (B &&& (A ^^^ (-1))) d = a.rg t 99 d := fun d => by
        by_cases w : d < 64
        · have hht := v.ht d
          rw [zb_and, b2 d w, zb_not _ w, hA]
          rw [Bool.eq_iff_iff, Bool.and_eq_true, decide_eq_true_eq, Bool.not_eq_true', zG.rg_iff]
          unfold zG.rg
          rw [decide_eq_false_iff_not]
          omega
        · rw [zb_big _ (by omega)]
          cases q : a.rg t 99 d with
          | false => rfl
          | true => have := (zG.rg_iff.mp q).1; omega
      have hk : k = 0 ∨ k = 1 ∨ k = 2 ∨ k = 3 := by omega
      refine zAg.ok Int32.toInt64 I'.of (v := if k = 0 then Int32.ofNat (z_cnt (a.rg t 99) a.n) else if k = 1 then Int32.ofNat (z_cnt (a.gc (a.rg t 99) (fun e => decide (1 = 3) && a.eg e)) a.n) else if k = 2 then Int32.ofNat (a.bos (a.rg t 99) a.n) else Int32.ofNat (z_cnt (a.gc (a.rg 0 (t - 1)) (fun e => decide (3 = 3) && a.eg e)) a.n)) ?_ fun m' f => ?_
      · unfold f_X11_contour zCl
        rw [show (1 : Int32) = Int32.ofNat 1 from rfl, show (99 : Int32) = Int32.ofNat 99 from rfl, u1, zbx_l, show (0 : Int32) = Int32.ofNat 0 from rfl, show (3 : Int32) = Int32.ofNat 3 from rfl, g1, zbx_l, zi_sub t1, a1, Option.bind_some, b1, Option.bind_some]
        refine ⟨m, ?_, zFr.refl m⟩
        rcases hk with rfl | rfl | rfl | rfl
        · rw [if_pos (by decide), s_bitn v (S := a.rg t 99) (fun d _ => by rw [hH d]; cases q : a.rg t 99 d with
            | false => simp
            | true => simp [(zG.rg_iff.mp q).1]), Option.bind_some]
          rfl
        · rw [if_neg (by decide), if_pos (by decide), s_groups v I'.2.1 (fun c h => (zG.rg_iff.mp h).1) hH (V := fun e => decide (1 = 3) && a.eg e) (fun d => by rw [zb_0]; rfl), Option.bind_some]
          rfl
        · rw [if_neg (by decide), if_neg (by decide), if_pos (by decide), s_borders v I'.2.1 hH, Option.bind_some]
          rfl
        · obtain ⟨E, E1, E2⟩ := s_edge v I'.2.1
          rw [if_neg (by decide), if_neg (by decide), if_neg (by decide), E1, Option.bind_some, s_groups v I'.2.1 (fun c h => (zG.rg_iff.mp h).1) hA (V := fun e => decide (3 = 3) && a.eg e) (fun d => by rw [E2]; rfl), Option.bind_some]
          rfl
      · have r1 := (I'.keep f).2.2.1.th 0
        unfold zAn f_X12_contour
        rw [show (1 : Int64) = Int32.toInt64 (Int32.ofNat 1) from rfl, show (99 : Int64) = Int32.toInt64 (Int32.ofNat 99) from rfl, u2, Option.bind_some, if_neg (by decide), show (0 : Int64) = Int32.toInt64 (Int32.ofNat 0) from rfl, show (3 : Int64) = Int32.toInt64 (Int32.ofNat 3) from rfl, g2, Option.bind_some, if_neg (by decide)]
        have fr : ∀ {m2 : zM}, zFr zPln (z_sI m' 13 0 0 0) m2 → zFr zSm m' m2 ∧ m2.1 13 0 0 = 0 := fun q => ⟨(q.mono fun k i j => zPln_m).x13, q.t0 (by unfold zPln; omega) (z_th0 _ _)⟩
        rcases hk with rfl | rfl | rfl | rfl
        · have h := s_con_0 v r1 t2 0 zF 0 (Nat.zero_le _) (zF_lt (by omega))
          exact ⟨_, _, h, z_th m' 0, z_th0 _ _, rfl⟩
        · obtain ⟨m2, h, q⟩ := s_con_13 v t1 t2 (.inl ⟨rfl, rfl, rfl⟩) zF 0 0 _ (Nat.zero_le _) (zF_lt (by omega)) r1 fun d => by rw [zb_0]; exact ⟨fun q => (by cases q), fun q => absurd q.2 (Nat.not_lt_zero _)⟩
          exact ⟨_, m2, h, (fr q).1, (fr q).2, rfl⟩
        · have h := s_con_2 v r1 t2 0 zF 0 (Nat.zero_le _) (zF_lt (by omega))
          exact ⟨_, _, h, z_th m' 0, z_th0 _ _, rfl⟩
        · obtain ⟨m2, h, q⟩ := s_con_13 v t1 t2 (.inr ⟨rfl, rfl, rfl⟩) zF 0 0 _ (Nat.zero_le _) (zF_lt (by omega)) r1 fun d => by rw [zb_0]; exact ⟨fun q => (by cases q), fun q => absurd q.2 (Nat.not_lt_zero _)⟩
          exact ⟨_, m2, h, (fr q).1, (fr q).2, rfl⟩
    · refine zAg.ex Int32.toInt64 I'.of (x := 0) (k := 1) ?_ rfl fun m' f => ?_
      · unfold f_X11_contour zCl
        rw [show (1 : Int32) = Int32.ofNat 1 from rfl, show (99 : Int32) = Int32.ofNat 99 from rfl, u1, zbx_l, show (0 : Int32) = Int32.ofNat 0 from rfl, show (3 : Int32) = Int32.ofNat 3 from rfl, g1, zbx_r]
        exact ⟨m, rfl, zFr.refl m⟩
      · unfold zAn f_X12_contour
        rw [show (1 : Int64) = Int32.toInt64 (Int32.ofNat 1) from rfl, show (99 : Int64) = Int32.toInt64 (Int32.ofNat 99) from rfl, u2, Option.bind_some, if_neg (by decide), show (0 : Int64) = Int32.toInt64 (Int32.ofNat 0) from rfl, show (3 : Int64) = Int32.toInt64 (Int32.ofNat 3) from rfl, g2, Option.bind_some, if_pos (by decide), bad]
        exact ⟨0, _, rfl, (z_th m' 0).trans (z_th _ 1), by decide, z_th0 _ _⟩
  · refine zAg.ex Int32.toInt64 I'.of (x := 0) (k := 1) ?_ rfl fun m' f => ?_
    · unfold f_X11_contour zCl
      rw [show (1 : Int32) = Int32.ofNat 1 from rfl, show (99 : Int32) = Int32.ofNat 99 from rfl, u1, zbx_r]
      exact ⟨m, rfl, zFr.refl m⟩
    · unfold zAn f_X12_contour
      rw [show (1 : Int64) = Int32.toInt64 (Int32.ofNat 1) from rfl, show (99 : Int64) = Int32.toInt64 (Int32.ofNat 99) from rfl, u2, Option.bind_some, if_pos (by decide), bad]
      exact ⟨0, _, rfl, (z_th m' 0).trans (z_th _ 1), by decide, z_th0 _ _⟩
end
