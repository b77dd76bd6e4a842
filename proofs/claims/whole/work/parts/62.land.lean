/-! The reference's land around a cell. -/
theorem zb_sar (x : Int64) {s : Nat} (hs : s < 64) : zb (z_shr x (Int32.ofNat s)) 0 = zb x s := by
  unfold zb z_shr
  rw [Int64.toBitVec_shiftRight, zb_sl s hs, BitVec.sshiftRight', BitVec.toNat_ofNat, Nat.mod_eq_of_lt (by omega), BitVec.getLsbD_sshiftRight]
  simp [hs]
theorem z_tst (x : Int64) {c : Nat} (h : c < 64) : lg_cmp ((z_shr x (Int32.ofNat c)) &&& 1) 1 = 0 ↔ zb x c = true := by
  rw [zb_lc]
  constructor
  · intro e
    have := congrArg (fun q : Int64 => zb q 0) e
    simp only [zb_and, zb_sar x h, zb_1] at this
    simpa using this
  · intro e
    refine zb_ext fun i hi => ?_
    rw [zb_and, zb_1]
    by_cases w : i = 0
    · rw [w, zb_sar x h, e]
      rfl
    · simp [w]
theorem s_in32 (x lo hi : Nat) (hx : x < 2147483648) (hl : lo < 2147483648) (hh : hi < 2147483648) (m : zM) : f_X12_in (Int32.toInt64 (Int32.ofNat x)) (Int32.toInt64 (Int32.ofNat lo)) (Int32.toInt64 (Int32.ofNat hi)) m = some (decide (lo ≤ x ∧ x ≤ hi)) := by
  rw [s_in]
  congr 1
  have e : ∀ {u w : Nat}, u < 2147483648 → w < 2147483648 → (Int32.toInt64 (Int32.ofNat u) ≤ Int32.toInt64 (Int32.ofNat w) ↔ u ≤ w) := fun {u w} h1 h2 => by
    rw [Int64.le_iff_toInt_le, zi_64, zi_64, zi_toInt h1, zi_toInt h2]
    omega
  simp only [e hl hx, e hx hh]
def zG.rg (a : zG) (lo hi d : Nat) : Bool := decide (d < a.n ∧ lo ≤ a.ht d ∧ a.ht d ≤ hi)
abbrev zPln (k i j : Nat) : Prop := (k = 20 ∧ i = 66) ∨ (k = 13 ∧ i = 0 ∧ j = 20)
section
variable {a : zG}
theorem zG.rg_iff {lo hi d : Nat} : a.rg lo hi d = true ↔ d < a.n ∧ lo ≤ a.ht d ∧ a.ht d ≤ hi := by
  unfold zG.rg
  rw [decide_eq_true_eq]
/-- a search of the land around c: t the stack with q cells, x is being looked at -/
def zLd (a : zG) (W : Nat → Bool) (c : Nat) (t : Nat → Nat) (q : Nat) (x : Option Nat) (m : zM) : Prop :=
  q ≤ z_cnt (zb (m.2.1 13 0 20)) a.n ∧ (∀ k, k < q → m.1 20 66 k = Int32.ofNat (t k) ∧ t k < a.n ∧ zb (m.2.1 13 0 20) (t k) = true) ∧ (∀ d, zb (m.2.1 13 0 20) d = true → zRch a W (z_one c) d) ∧ zb (m.2.1 13 0 20) c = true ∧ ∀ d, zb (m.2.1 13 0 20) d = true → (∃ k, k < q ∧ t k = d) ∨ some d = x ∨ ∀ i e, a.nb d i = some e → W e = true → zb (m.2.1 13 0 20) e = true
theorem s_land_41 (v : zGV a) {lo hi : Nat} (hlo : lo ≤ 99) (hhi : hi ≤ 99) (K : Int32 → Int32 → Int32 → zM → Option zM) {c x : Nat} (hx : x < a.n) : ∀ (j d q : Nat) (t : Nat → Nat) (m : zM), d ≤ 4 → 4 - d < j → zMR (m.1 23 0) a → zLd a (a.rg lo hi) c t q (some x) m → zb (m.2.1 13 0 20) x = true → (∀ i e, i < d → a.nb x i = some e → a.rg lo hi e = true → zb (m.2.1 13 0 20) e = true) →
    ∃ m' t' q', f_X12_land_41 K j (Int32.ofNat lo) (Int32.ofNat hi) (Int32.ofNat q) (Int32.ofNat x) (Int32.ofNat d) m = K (Int32.ofNat lo) (Int32.ofNat hi) (Int32.ofNat q') m' ∧ zFr zPln m m' ∧ zLd a (a.rg lo hi) c t' q' none m' ∧ q' + z_cnt (zb (m.2.1 13 0 20)) a.n = q + z_cnt (zb (m'.2.1 13 0 20)) a.n ∧ z_cnt (zb (m.2.1 13 0 20)) a.n ≤ z_cnt (zb (m'.2.1 13 0 20)) a.n
  | 0, _, _, _, _, _, h, _, _, _, _ => absurd h (Nat.not_lt_zero _)
  | j + 1, d, q, t, m, hd, hj, r, hs, hT, hi' => by
    have n64 := v.n64
    have hqn : q ≤ 64 := Nat.le_trans hs.1 (Nat.le_trans (z_cnt_le _ _) n64)
    unfold f_X12_land_41
    rw [show (4 : Int32) = Int32.ofNat 4 from rfl]
    by_cases he : d = 4
    · subst he
      rw [if_pos (by rw [zi_le (by omega) (by omega)]; omega)]
      refine ⟨m, t, q, rfl, zFr.refl m, ⟨hs.1, hs.2.1, hs.2.2.1, hs.2.2.2.1, fun y hy => ?_⟩, rfl, Nat.le_refl _⟩
      rcases hs.2.2.2.2 y hy with w | w | w
      · exact .inl w
      · cases w
        refine .inr (.inr fun i e q1 q2 => ?_)
        obtain ⟨i', q3, q4⟩ := zG.nb4 q1
        exact hi' i' e q3 q4 q2
      · exact .inr (.inr w)
    · have hj2 : d + 1 ≤ 4 ∧ 4 - (d + 1) < j := by omega
      rw [if_neg (by rw [zi_le (by omega) (by omega)]; omega), s_next v r hx (by omega), Option.bind_some, zi_s, zi_s]
      have skip : (∀ e, a.nb x d = some e → a.rg lo hi e = true → zb (m.2.1 13 0 20) e = true) → ∃ m' t' q', f_X12_land_41 K j (Int32.ofNat lo) (Int32.ofNat hi) (Int32.ofNat q) (Int32.ofNat x) (Int32.ofNat (d + 1)) m = K (Int32.ofNat lo) (Int32.ofNat hi) (Int32.ofNat q') m' ∧ zFr zPln m m' ∧ zLd a (a.rg lo hi) c t' q' none m' ∧ q' + z_cnt (zb (m.2.1 13 0 20)) a.n = q + z_cnt (zb (m'.2.1 13 0 20)) a.n ∧ z_cnt (zb (m.2.1 13 0 20)) a.n ≤ z_cnt (zb (m'.2.1 13 0 20)) a.n := fun w =>
        s_land_41 v hlo hhi K hx j (d + 1) q t m hj2.1 hj2.2 r hs hT fun i e q1 q2 q3 => by
          by_cases z : i = d
          · rw [z] at q2; exact w e q2 q3
          · exact hi' i e (by omega) q2 q3
      cases hn : a.nb x d with
      | none =>
        rw [if_pos (show zo none < 0 by decide)]
        exact skip fun e w => by rw [hn] at w; cases w
      | some f =>
        have hf := zG.nb_n v hx hn
        have hf64 : f < 64 := by omega
        have hht := v.ht f
        rw [zo_some, if_neg (zi_z (by omega))]
        by_cases w2 : zb (m.2.1 13 0 20) f = true
        · rw [if_pos ((z_tst _ hf64).mpr w2)]
          exact skip fun e q1 q2 => by rw [hn] at q1; cases q1; exact w2
        · rw [if_neg (mt (z_tst _ hf64).mp w2), s_mheight r hf64, Option.bind_some, s_in32 _ _ _ (by omega) (by omega) (by omega), Option.bind_some]
          by_cases w3 : lo ≤ a.ht f ∧ a.ht f ≤ hi
          · rw [if_neg (by rw [zi_bi0, decide_eq_false_iff_not]; exact fun y => y w3)]
            have hW : a.rg lo hi f = true := zG.rg_iff.mpr ⟨hf, w3⟩
            have w2' : zb (m.2.1 13 0 20) f = false := by cases y : zb (m.2.1 13 0 20) f <;> simp_all
            have hlt := z_cnt_lt (p := zb (m.2.1 13 0 20)) (q := fun _ => true) (n := a.n) (c := f) (fun _ _ _ => rfl) hf w2' rfl
            have hle := z_cnt_le (fun _ => true) a.n
            have hq := hs.1
            have hq64 : q < 64 := by clear hs hi' skip; omega
            rw [z_gdt (z_in64 hq64), zi_nat (k := q) (by omega)]
            have f1 : zFr zPln m (z_sI (z_sL m 13 0 20 (m.2.1 13 0 20 ||| z_shl 1 (Int32.ofNat f))) 20 66 q (Int32.ofNat f)) := zFr.sI (zFr.sL (zFr.refl m) _ (.inr ⟨rfl, rfl, rfl⟩)) _ (.inl ⟨rfl, rfl⟩)
            have bits : ∀ y, zb ((z_sI (z_sL m 13 0 20 (m.2.1 13 0 20 ||| z_shl 1 (Int32.ofNat f))) 20 66 q (Int32.ofNat f)).2.1 13 0 20) y = (zb (m.2.1 13 0 20) y || decide (y = f)) := fun y => by
              rw [zm_IL, zm_L, if_pos ⟨rfl, rfl, rfl⟩, zb_or]
              by_cases z : y < 64
              · rw [zb_one hf64 z]
              · rw [zb_big _ (by omega), zb_big _ (by omega)]
                have : ¬ y = f := by omega
                simp [this]
            have row : ∀ k, (z_sI (z_sL m 13 0 20 (m.2.1 13 0 20 ||| z_shl 1 (Int32.ofNat f))) 20 66 q (Int32.ofNat f)).1 20 66 k = if k = q then Int32.ofNat f else m.1 20 66 k := fun k => by rw [zm_row, zm_LI]
            have r1 : zMR ((z_sI (z_sL m 13 0 20 (m.2.1 13 0 20 ||| z_shl 1 (Int32.ofNat f))) 20 66 q (Int32.ofNat f)).1 23 0) a := by rw [f1.row (fun j => by unfold zPln; omega)]; exact r
            generalize z_sI (z_sL m 13 0 20 (m.2.1 13 0 20 ||| z_shl 1 (Int32.ofNat f))) 20 66 q (Int32.ofNat f) = m1 at f1 bits row r1
            have hcnt : z_cnt (zb (m1.2.1 13 0 20)) a.n = z_cnt (zb (m.2.1 13 0 20)) a.n + 1 := z_cnt_one (x := f) hf (fun y _ z => by rw [bits]; simp [z]) w2' (by rw [bits]; simp)
            have hs1 : zLd a (a.rg lo hi) c (fun k => if k = q then f else t k) (q + 1) (some x) m1 := by
              refine ⟨by omega, fun k hk => ?_, fun y hy => ?_, by rw [bits, hs.2.2.2.1]; rfl, fun y hy => ?_⟩
              · rw [row]
                by_cases z : k = q
                · simp [z, hf, bits]
                · obtain ⟨q1, q2, q3⟩ := hs.2.1 k (by omega)
                  rw [if_neg z, q1]
                  simp [z, q2, q3, bits]
              · rw [bits, Bool.or_eq_true, decide_eq_true_eq] at hy
                rcases hy with hy | hy
                · exact hs.2.2.1 y hy
                · rw [hy]
                  exact (hs.2.2.1 x hT).step hn hW
              · rw [bits, Bool.or_eq_true, decide_eq_true_eq] at hy
                by_cases z : y = f
                · exact .inl ⟨q, Nat.lt_succ_self _, by simp [z]⟩
                · have hy := hy.resolve_right z
                  rcases hs.2.2.2.2 y hy with ⟨k, q1, q2⟩ | q1 | q1
                  · exact .inl ⟨k, by omega, by simp [show k ≠ q by omega, q2]⟩
                  · exact .inr (.inl q1)
                  · exact .inr (.inr fun i e y1 y2 => by rw [bits, q1 i e y1 y2]; rfl)
            obtain ⟨m', t', q', p1, p2, p3, p4, p5⟩ := s_land_41 v hlo hhi K hx j (d + 1) (q + 1) _ m1 hj2.1 hj2.2 r1 hs1 (by rw [bits, hT]; rfl) fun i e q1 q2 q3 => by
              rw [bits]
              by_cases z : i = d
              · rw [z, hn] at q2
                cases q2
                simp
              · rw [hi' i e (by omega) q2 q3]
                rfl
            exact ⟨m', t', q', p1, f1.trans p2, p3, by omega, by omega⟩
          · rw [if_pos (by rw [zi_bi0, decide_eq_false_iff_not]; exact w3)]
            refine skip fun e q1 q2 => ?_
            rw [hn] at q1
            cases q1
            exact absurd (zG.rg_iff.mp q2).2 w3
theorem s_land_21 (v : zGV a) {lo hi : Nat} (hlo : lo ≤ 99) (hhi : hi ≤ 99) {c : Nat} : ∀ (j q : Nat) (t : Nat → Nat) (m : zM), q + 2 * (a.n - z_cnt (zb (m.2.1 13 0 20)) a.n) < j → zMR (m.1 23 0) a → zLd a (a.rg lo hi) c t q none m →
    ∃ m', f_X12_land_21 j (Int32.ofNat lo) (Int32.ofNat hi) (Int32.ofNat q) m = some m' ∧ zFr zPln m m' ∧ ∀ d, zb (m'.2.1 13 0 20) d = true ↔ zRch a (a.rg lo hi) (z_one c) d
  | 0, _, _, _, h, _, _ => absurd h (Nat.not_lt_zero _)
  | j + 1, q, t, m, hj, r, hs => by
    have n64 := v.n64
    have hqn : q ≤ 64 := Nat.le_trans hs.1 (Nat.le_trans (z_cnt_le _ _) n64)
    unfold f_X12_land_21
    by_cases hq : q = 0
    · subst hq
      rw [if_pos (by decide)]
      refine ⟨m, rfl, zFr.refl m, fun d => ⟨hs.2.2.1 d, fun hy => ?_⟩⟩
      refine hy (fun y => zb (m.2.1 13 0 20) y = true) (fun y h1 h2 => ?_) fun y i e h1 h2 h3 => ?_
      · rw [z_one_iff.mp h1]; exact hs.2.2.2.1
      · rcases hs.2.2.2.2 y h1 with ⟨k, w, _⟩ | w | w
        · exact absurd w (Nat.not_lt_zero _)
        · cases w
        · exact w i e h2 h3
    · have hq1 : q - 1 < q := by omega
      obtain ⟨g1, g2, g3⟩ := hs.2.1 (q - 1) hq1
      rw [if_neg (by rw [show (0 : Int32) = Int32.ofNat 0 from rfl, zi_le (by omega) (by omega)]; omega), zi_p (by omega), z_gdt (z_in64 (by omega)), zi_nat (by omega), g1]
      have hs1 : zLd a (a.rg lo hi) c t (q - 1) (some (t (q - 1))) m := by
        refine ⟨by have := hs.1; omega, fun k hk => hs.2.1 k (by omega), hs.2.2.1, hs.2.2.2.1, fun d hd => ?_⟩
        rcases hs.2.2.2.2 d hd with ⟨k, w1, w2⟩ | w | w
        · by_cases z : k = q - 1
          · exact .inr (.inl (by rw [← w2, z]))
          · exact .inl ⟨k, by omega, w2⟩
        · cases w
        · exact .inr (.inr w)
      obtain ⟨m1, t1, q1, p1, p2, p3, p4, p5⟩ := s_land_41 v hlo hhi (f_X12_land_21 j) g2 zF 0 (q - 1) t m (by omega) (zF_lt (by omega)) r hs1 g3 fun i e w => absurd w (Nat.not_lt_zero _)
      rw [show (0 : Int32) = Int32.ofNat 0 from rfl, p1]
      have hle := z_cnt_le (zb (m1.2.1 13 0 20)) a.n
      obtain ⟨m', y1, y2, y3⟩ := s_land_21 v hlo hhi j q1 t1 m1 (by omega) (by rw [p2.row (fun j => by unfold zPln; omega)]; exact r) p3
      exact ⟨m', y1, p2.trans y2, y3⟩
theorem s_land (v : zGV a) {lo hi : Nat} (hlo : lo ≤ 99) (hhi : hi ≤ 99) {c : Nat} (hc : a.rg lo hi c = true) {m : zM} (r : zMR (m.1 23 0) a) : ∃ m', f_X12_land (Int32.ofNat c) (Int32.ofNat lo) (Int32.ofNat hi) m = some m' ∧ zFr zPln m m' ∧ ∀ d, zb (m'.2.1 13 0 20) d = true ↔ zRch a (a.rg lo hi) (z_one c) d := by
  have n64 := v.n64
  have hcn := (zG.rg_iff.mp hc).1
  have c64 : c < 64 := by omega
  unfold f_X12_land
  rw [z_gdt (show z_inb (0 : Int32) (z_alen 20) = true by decide), z_c0]
  have f1 : zFr zPln m (z_sI (z_sL m 13 0 20 (z_shl 1 (Int32.ofNat c))) 20 66 0 (Int32.ofNat c)) := zFr.sI (zFr.sL (zFr.refl m) _ (.inr ⟨rfl, rfl, rfl⟩)) _ (.inl ⟨rfl, rfl⟩)
  have bits : ∀ y, zb ((z_sI (z_sL m 13 0 20 (z_shl 1 (Int32.ofNat c))) 20 66 0 (Int32.ofNat c)).2.1 13 0 20) y = decide (y = c) := fun y => by
    rw [zm_IL, zm_L, if_pos ⟨rfl, rfl, rfl⟩]
    by_cases z : y < 64
    · rw [zb_one c64 z]
    · rw [zb_big _ (by omega)]
      have : ¬ y = c := by omega
      simp [this]
  have row : (z_sI (z_sL m 13 0 20 (z_shl 1 (Int32.ofNat c))) 20 66 0 (Int32.ofNat c)).1 20 66 0 = Int32.ofNat c := by rw [zm_row, if_pos rfl]
  have r1 : zMR ((z_sI (z_sL m 13 0 20 (z_shl 1 (Int32.ofNat c))) 20 66 0 (Int32.ofNat c)).1 23 0) a := by rw [f1.row (fun j => by unfold zPln; omega)]; exact r
  generalize z_sI (z_sL m 13 0 20 (z_shl 1 (Int32.ofNat c))) 20 66 0 (Int32.ofNat c) = m1 at f1 bits row r1
  have hT : z_cnt (zb (m1.2.1 13 0 20)) a.n = 1 := by
    have := z_cnt_one (p := fun _ => false) (q := zb (m1.2.1 13 0 20)) (n := a.n) (x := c) hcn (fun y _ z => by rw [bits]; simp [z]) rfl (by rw [bits]; simp)
    rw [this, z_cnt_0.mpr fun _ _ => rfl]
  obtain ⟨m', p1, p2, p3⟩ := s_land_21 v hlo hhi (c := c) zF 1 (fun _ => c) m1 (zF_lt (by omega)) r1 ⟨by omega, fun k hk => by
    rw [show k = 0 by omega, row, bits]
    exact ⟨rfl, hcn, by simp⟩, fun d hd => by
    rw [bits, decide_eq_true_eq] at hd
    rw [hd]
    exact zRch.base (z_one_iff.mpr rfl) hc, by rw [bits]; simp, fun d hd => by
    rw [bits, decide_eq_true_eq] at hd
    exact .inl ⟨0, by omega, hd.symm⟩⟩
  exact ⟨m', p1, f1.trans p2, p3⟩
theorem s_isPool_2 (v : zGV a) {m : zM} (r : zMR (m.1 23 0) a) : ∀ (j c : Nat), c ≤ a.n → a.n - c < j → ∃ b, f_X12_isPool_2 m j (Int32.ofNat c) = some b ∧ (b = true ↔ ∀ d, c ≤ d → d < a.n → zb (m.2.1 13 0 20) d = true → a.ou d = false)
  | 0, _, _, h => absurd h (Nat.not_lt_zero _)
  | j + 1, c, hc, hj => by
    have n64 := v.n64
    unfold f_X12_isPool_2
    rw [s_mcells r, Option.bind_some]
    by_cases he : c = a.n
    · subst he
      rw [if_pos (by rw [zi_le (by omega) (by omega)]; omega)]
      exact ⟨true, rfl, fun _ d h1 h2 => by omega, fun _ => rfl⟩
    · have hcn : c < a.n := by omega
      have c64 : c < 64 := by omega
      obtain ⟨b, i1, i2⟩ := s_isPool_2 v r j (c + 1) hcn (by omega)
      rw [if_neg (by rw [zi_le (by omega) (by omega)]; omega), zi_s]
      have go : (zb (m.2.1 13 0 20) c = true → a.ou c = false) → ∃ b, f_X12_isPool_2 m j (Int32.ofNat (c + 1)) = some b ∧ (b = true ↔ ∀ d, c ≤ d → d < a.n → zb (m.2.1 13 0 20) d = true → a.ou d = false) := fun w => by
        refine ⟨b, i1, i2.trans ⟨fun q d h1 h2 h3 => ?_, fun q d h1 h2 h3 => q d (by omega) h2 h3⟩⟩
        by_cases z : d = c
        · rw [z] at h3 ⊢; exact w h3
        · exact q d (by omega) h2 h3
      by_cases w : zb (m.2.1 13 0 20) c = true
      · rw [if_pos ((z_tst _ c64).mpr w), s_mout r c64, Option.bind_some]
        cases ho : a.ou c with
        | false =>
          rw [if_pos (by decide)]
          exact go fun _ => ho
        | true =>
          rw [if_neg (by decide)]
          refine ⟨false, rfl, fun q => (by cases q), fun q => ?_⟩
          have := q c (Nat.le_refl _) hcn w
          rw [ho] at this
          cases this
      · rw [if_neg (mt (z_tst _ c64).mp w)]
        exact go fun q => absurd q w
theorem s_isPool (v : zGV a) {m : zM} (r : zMR (m.1 23 0) a) : ∃ b, f_X12_isPool m = some b ∧ (b = true ↔ ∀ d, d < a.n → zb (m.2.1 13 0 20) d = true → a.ou d = false) := by
  obtain ⟨b, h1, h2⟩ := s_isPool_2 v r zF 0 (Nat.zero_le _) (zF_lt (by have := v.n64; omega))
  exact ⟨b, h1, h2.trans ⟨fun q d => q d (Nat.zero_le _), fun q d _ => q d⟩⟩
end
