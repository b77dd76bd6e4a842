/-! meanDepth and map. -/
/-- agreement on a double -/
def zAgD (X : Option (Int32 × zM)) (Y : zM → Option (UInt64 × zM)) : Prop := ∃ k m1 b m2, X = some (k, m1) ∧ Y m1 = some (b, m2) ∧ m2.1 13 0 0 = k ∧ (k = 0 → m2.2.2 33 0 0 = b ∧ z_nan b = true) ∧ zInv m2
section
variable {m : zM} {a : zG}
noncomputable def zG.dsum (a : zG) (c : Nat) : Nat := z_tot (fun d => a.lv d - a.ht d) c
theorem zG.dsum_le (v : zGV a) : ∀ {c : Nat}, c ≤ a.n → a.dsum c ≤ 100 * c
  | 0, _ => Nat.le_refl _
  | c + 1, hc => by
    have h1 := zG.dsum_le v (c := c) (by omega)
    have h2 := zG.lv100 v (c := c) (by omega)
    show z_tot _ c + (a.lv c - a.ht c) ≤ _
    have h3 : z_tot (fun d => a.lv d - a.ht d) c ≤ 100 * c := h1
    omega
theorem zG.dsum_wet (v : zGV a) : z_tot (fun d => if a.wet d = true then a.lv d - a.ht d else 0) a.n = a.dsum a.n :=
  z_tot_ext fun d hd => by
    by_cases w : a.wet d = true
    · rw [if_pos w]
    · rw [if_neg w]
      have : ¬ a.ht d < a.lv d := fun q => w (zG.wet_iff.mpr ⟨hd, q⟩)
      omega
theorem s_mean_15 (v : zGV a) (h : zLx a m) (k0 : z_cnt a.wet a.n ≠ 0) : ∀ (j c : Nat), c ≤ a.n → a.n - c < j → f_X12_meanDepth_15 j (Int32.ofNat (a.dsum c)) (Int32.ofNat (z_cnt a.wet c)) (Int32.ofNat c) m = some (FP.ddiv (FP.i2d (Int32.ofNat (a.dsum a.n))) (FP.i2d (Int32.ofNat (z_cnt a.wet a.n))), m)
  | 0, _, _, h => absurd h (Nat.not_lt_zero _)
  | j + 1, c, hc, hj => by
    have n64 := v.n64
    have cn := z_cnt_le a.wet a.n
    have sn := zG.dsum_le v (Nat.le_refl _)
    unfold f_X12_meanDepth_15
    rw [s_mcells h.1, Option.bind_some]
    by_cases he : c = a.n
    · rw [he, if_pos (by rw [zi_le (by omega) (by omega)]; omega), if_neg (by rw [zi_0 (by omega)]; exact k0), z_gdt (zfin_qnan (zfin_at (by omega)) (zfin_at (by omega)) k0)]
    · have hcn : c < a.n := by omega
      have hht := zG.lv100 v hcn
      have ih := s_mean_15 v h k0 j (c + 1) hcn (by omega)
      have e1 : a.dsum (c + 1) = a.dsum c + (a.lv c - a.ht c) := rfl
      have e2 : z_cnt a.wet (c + 1) = z_cnt a.wet c + if a.wet c = true then 1 else 0 := rfl
      rw [e1, e2] at ih
      rw [if_neg (by rw [zi_le (by omega) (by omega)]; omega), s_mdepth v h hcn, Option.bind_some, Option.bind_some, zi_add, zi_s, zi_s]
      by_cases w : a.wet c = true
      · have := (zG.wet_iff.mp w).2
        rw [if_pos w] at ih
        rw [if_neg (by rw [show (0 : Int32) = Int32.ofNat 0 from rfl, zi_le (by omega) (by omega)]; omega)]
        exact ih
      · have : ¬ a.ht c < a.lv c := fun q => w (zG.wet_iff.mpr ⟨hcn, q⟩)
        rw [if_neg w] at ih
        rw [if_pos (by rw [show (0 : Int32) = Int32.ofNat 0 from rfl, zi_le (by omega) (by omega)]; omega)]
        exact ih
theorem s_mean_150 (v : zGV a) (h : zLx a m) (k0 : z_cnt a.wet a.n = 0) : ∀ (j c x : Nat), c ≤ a.n → a.n - c < j → ∃ b, f_X12_meanDepth_15 j (Int32.ofNat x) (Int32.ofNat 0) (Int32.ofNat c) m = some (b, z_sI m 13 0 0 1)
  | 0, _, _, _, h => absurd h (Nat.not_lt_zero _)
  | j + 1, c, x, hc, hj => by
    have n64 := v.n64
    unfold f_X12_meanDepth_15
    rw [s_mcells h.1, Option.bind_some]
    by_cases he : c = a.n
    · rw [he, if_pos (by rw [zi_le (by omega) (by omega)]; omega), if_pos (show Int32.ofNat 0 = 0 from rfl)]
      exact ⟨_, rfl⟩
    · have hcn : c < a.n := by omega
      have hht := zG.lv100 v hcn
      have w := z_cnt_0.mp k0 c hcn
      have : ¬ a.ht c < a.lv c := fun q => by rw [zG.wet_iff.mpr ⟨hcn, q⟩] at w; cases w
      rw [if_neg (by rw [zi_le (by omega) (by omega)]; omega), s_mdepth v h hcn, Option.bind_some, Option.bind_some, zi_add, zi_s, if_pos (by rw [show (0 : Int32) = Int32.ofNat 0 from rfl, zi_le (by omega) (by omega)]; omega)]
      exact s_mean_150 v h k0 j (c + 1) _ hcn (by omega)
theorem zG.wet_n {d : Nat} (h : a.wet d = true) : d < a.n := (zG.wet_iff.mp h).1
theorem t_meanDepth (I : zInv m) : zAgD (f_L_meanDepth m) f_X12_meanDepth := by
  obtain ⟨a, b, n, p, s, l, c, e, I'⟩ := I
  have v := I'.1
  have n64 := v.n64
  have cn := z_cnt_le a.wet a.n
  have sn := zG.dsum_le v (Nat.le_refl _)
  obtain ⟨m1, h1, h2, h2', h3⟩ := s_fl v (show 0 < 11 by omega) I'.2.1
  have hw : ∀ d, d < 64 → zb (m1.2.1 4 0 5) d = (decide (d < a.n) && a.wet d) := fun d hd => by rw [h3.1.2.1 d hd]; exact z_and_n (fun _ => zG.wet_n) d
  have mod : ∀ m', zFr zSc m m' → ∃ m2, f_X12_levels (z_sI m' 13 0 0 0) = some m2 ∧ zFr zSm m' m2 ∧ m2.1 13 0 0 = 0 ∧ zLx a m2 := fun m' f => by
    have r1 := (I'.keep f).2.2.1.th 0
    obtain ⟨m2, q1, q2, q3⟩ := s_mlevels v r1
    exact ⟨m2, q1, (q2.mono fun k i j => zP59_m).x13, q2.t0 (by unfold zP59; omega) (z_th0 _ _), by rw [q2.row (fun j => by unfold zP59; omega)]; exact r1, q3⟩
  unfold f_L_meanDepth f_X11_meanDepth
  rw [h1, Option.bind_some, s_bitn v hw, Option.bind_some]
  by_cases k0 : z_cnt a.wet a.n = 0
  · obtain ⟨m2, q1, q2, q3, q4⟩ := mod m1 h2
    obtain ⟨u, h0⟩ := s_mean_150 v q4 k0 zF 0 0 (Nat.zero_le _) (zF_lt (by omega))
    rw [k0, if_pos (show Int32.ofNat 0 = 0 from rfl)]
    refine ⟨1, m1, u, z_sI m2 13 0 0 1, rfl, ?_, z_th0 _ _, fun w => absurd w (by decide), I'.of.keep (h2.trans ((q2.trans (z_th m2 1)).mono fun k i j w => w.1))⟩
    unfold f_X12_meanDepth
    rw [q1, Option.bind_some]
    exact h0
  · have hs := s_sumn (m := m1) v 34 hw (f := fun d => a.lv d - a.ht d) fun d hd _ => h3.2 d hd
    rw [zG.dsum_wet v] at hs
    have hn := zfin_qnan (zfin_at (show a.dsum a.n < 6480 by omega)) (zfin_at (show z_cnt a.wet a.n < 6480 by omega)) k0
    rw [if_neg (by rw [zi_0 (by omega)]; exact k0), hs, Option.bind_some, z_gdt hn]
    generalize hq : FP.ddiv (FP.i2d (Int32.ofNat (a.dsum a.n))) (FP.i2d (Int32.ofNat (z_cnt a.wet a.n))) = q at hn ⊢
    have f1 : zFr zSc m (z_sD m1 33 0 0 q) := h2.trans (zFr.sD (zFr.refl m1) _ (by unfold zSc zPro; omega))
    obtain ⟨m2, q1, q2, q3, q4⟩ := mod _ f1
    have h0 := s_mean_15 v q4 k0 zF 0 (Nat.zero_le _) (zF_lt (by omega))
    rw [hq] at h0
    refine ⟨0, z_sD m1 33 0 0 q, q, m2, rfl, ?_, q3, fun _ => ⟨?_, hn⟩, (I'.of.keep f1).keep (q2.mono fun k i j w => w.1)⟩
    · unfold f_X12_meanDepth
      rw [q1, Option.bind_some]
      exact h0
    · rw [(q2 33 0 0 (fun y => y.2.2 rfl)).2.2]
      rw [zm_D, if_pos ⟨rfl, rfl, rfl⟩]
/-- the signs of the map -/
noncomputable def zG.sg (a : zG) (k : Nat) : Int32 := if k % (a.w + 1) = a.w then 47 else match a.fd (k / (a.w + 1) * a.w + k % (a.w + 1)) with
  | none => 111
  | some 0 => 94
  | some 1 => 62
  | some 2 => 118
  | some _ => 60
theorem z_sub_lt {x : Int32} {k : Nat} (hk : k < 2147483648) (h : x < 0 ∨ ∃ q, q < 2147483648 ∧ k ≤ q ∧ x = Int32.ofNat q) : ¬ x < 0 → Int32.ofNat k ≤ x := fun w => by
  rcases h with h | ⟨q, q1, q2, rfl⟩
  · exact absurd h w
  · rw [zi_le hk q1]
    exact q2
theorem t_map (I : zInv m) (x : Int32) : zAg Int32.toInt64 (f_L_map x m) (f_X12_map x) := by
  obtain ⟨a, b, n, p, s, l, c, e, I'⟩ := I
  have v := I'.1
  have n64 := v.n64
  have w2 := v.w2
  have w8 := v.w8
  have h2' := v.h2
  have h8 := v.h8
  have hen : a.n = a.w * a.h := rfl
  have hsz : (a.w + 1) * a.h - 1 = a.n + a.h - 1 := by rw [Nat.add_mul, Nat.one_mul, hen]
  have hex : ((Int32.ofNat a.w + 1) * Int32.ofNat a.h) - 1 = Int32.ofNat (a.n + a.h - 1) := by
    rw [zi_s, zi_mul, zi_q (Nat.mul_pos (by omega) (by omega)), hsz]
  have hmx : Int32.ofNat a.n + Int32.ofNat a.h - 2 = Int32.ofNat (a.n + a.h - 1) - 1 := by
    rw [zi_add, show (2 : Int32) = Int32.ofNat 2 from rfl, zi_sub (by omega), zi_q (by omega)]
    congr 1
  have r := I'.2.1
  unfold f_L_map
  rcases z_idx x (k := a.n + a.h - 1) (by omega) with ⟨k, hk, rfl, hin⟩ | ⟨hx, hin⟩
  · have hdiv : k / (a.w + 1) < a.h := Nat.div_lt_of_lt_mul (by rw [Nat.add_mul, Nat.one_mul, ← hen]; omega)
    have hmod := Nat.mod_lt k (show 0 < a.w + 1 by omega)
    have hz : z_nz (Int32.ofNat a.w + 1) = true := by
      unfold z_nz
      rw [zi_s, decide_eq_true_eq, zi_0 (by omega)]
      omega
    refine zAg.ok Int32.toInt64 I'.of (v := a.sg k) ?_ fun m' f => ?_
    · unfold f_X11_map zCl
      rw [if_neg (zi_nn (by omega)), r.w, r.h, hex, if_neg (by rw [zi_le (by omega) (by omega)]; omega), if_pos (by rw [zi_s, show (0 : Int32) = Int32.ofNat 0 from rfl, zi_lt (by omega) (by omega)]; omega), z_gdt hz]
      unfold zG.sg
      by_cases q : k % (a.w + 1) = a.w
      · rw [if_pos q, if_pos (by rw [zi_s, zi_rem (by omega) (by omega), q]), z_gdt (show z_bC (47 : Int32) = true by decide)]
        exact ⟨m, rfl, zFr.refl m⟩
      · obtain ⟨m1, s1, g1, g2, g3, g4, g5⟩ := s_flows v (show 0 < 11 by omega) r
        have hc : k / (a.w + 1) * a.w + k % (a.w + 1) < a.n := by
          have : k / (a.w + 1) * a.w + a.w ≤ a.h * a.w := by
            rw [← Nat.succ_mul]
            exact Nat.mul_le_mul_right _ hdiv
          rw [hen, Nat.mul_comm a.w]
          omega
        rw [if_neg q, if_neg (by rw [zi_s, zi_rem (by omega) (by omega), zi_eq (by omega) (by omega)]; exact q), g1, Option.bind_some, g3.w, z_gdt hz, zi_s, zi_div (by omega) (by omega), zi_rem (by omega) (by omega), zi_mul, zi_add, s_at' 20 37 (show _ < 64 by omega), Option.bind_some, (g5.2.2.2.1 _ hc).1]
        cases hf : a.fd (k / (a.w + 1) * a.w + k % (a.w + 1)) with
        | none =>
          rw [zo_none, if_neg (by decide), if_neg (by decide), if_neg (by decide), if_neg (by decide), z_gdt (show z_bC (111 : Int32) = true by decide)]
          exact ⟨m1, rfl, g2⟩
        | some d =>
          have := (zG.fd_lt hf).1
          have hd : d = 0 ∨ d = 1 ∨ d = 2 ∨ d = 3 := by omega
          rcases hd with rfl | rfl | rfl | rfl
          · rw [zo_some, if_pos (by decide), z_gdt (show z_bC (94 : Int32) = true by decide)]
            exact ⟨m1, rfl, g2⟩
          · rw [zo_some, if_neg (by decide), if_pos (by decide), z_gdt (show z_bC (62 : Int32) = true by decide)]
            exact ⟨m1, rfl, g2⟩
          · rw [zo_some, if_neg (by decide), if_neg (by decide), if_pos (by decide), z_gdt (show z_bC (118 : Int32) = true by decide)]
            exact ⟨m1, rfl, g2⟩
          · rw [zo_some, if_neg (by decide), if_neg (by decide), if_neg (by decide), if_pos (by decide), z_gdt (show z_bC (60 : Int32) = true by decide)]
            exact ⟨m1, rfl, g2⟩
    · have r0 := (I'.keep f).2.2.1
      have r1 := r0.th 0
      unfold zAn f_X12_map
      have hd1 : m'.1 23 0 (Int32.toNatClampNeg 1) = Int32.ofNat a.h := r0.2.1
      rw [s_mcells r0, Option.bind_some, z_gdt (by decide), hd1, hmx, hin, Option.bind_some, if_neg (by decide)]
      unfold f_X12_map_29
      have hw1 : (z_sI m' 13 0 0 0).1 23 0 (Int32.toNatClampNeg 0) = Int32.ofNat a.w := r1.1
      rw [z_th0, if_pos (by decide), z_gdt (by decide), hw1, z_gdt hz]
      unfold zG.sg
      by_cases q : k % (a.w + 1) = a.w
      · rw [if_pos q, if_pos (by rw [zi_s, zi_rem (by omega) (by omega), q]), z_gdt (show z_bC (47 : Int32) = true by decide)]
        exact ⟨_, _, rfl, z_th m' 0, z_th0 _ _, rfl⟩
      · have hc : k / (a.w + 1) * a.w + k % (a.w + 1) < a.n := by
          have : k / (a.w + 1) * a.w + a.w ≤ a.h * a.w := by
            rw [← Nat.succ_mul]
            exact Nat.mul_le_mul_right _ hdiv
          rw [hen, Nat.mul_comm a.w]
          omega
        obtain ⟨m2, q1, q2, q3⟩ := s_looks v r1
        have hw2 : m2.1 23 0 (Int32.toNatClampNeg 0) = Int32.ofNat a.w := by rw [q2.row (fun j => by unfold zPlo; omega)]; exact r1.1
        have fr := (q2.mono fun k i j => zPlo_m).x13
        have t0 : m2.1 13 0 0 = 0 := q2.t0 (by unfold zPlo; omega) (z_th0 _ _)
        have ec : Int32.ofNat a.w * (Int32.ofNat k / (Int32.ofNat a.w + 1)) + z_irem (Int32.ofNat k) (Int32.ofNat a.w + 1) = Int32.ofNat (k / (a.w + 1) * a.w + k % (a.w + 1)) := by
          rw [zi_s, zi_div (by omega) (by omega), zi_rem (by omega) (by omega), zi_mul, zi_add, Nat.mul_comm]
        rw [if_neg q, if_neg (by rw [zi_s, zi_rem (by omega) (by omega), zi_eq (by omega) (by omega)]; exact q), q1, Option.bind_some, z_gdt (by decide), hw2, z_gdt hz, ec, z_gdt (z_in64 (by omega)), zi_nat (by omega), (q3.2 _ hc).1]
        cases hf : a.fd (k / (a.w + 1) * a.w + k % (a.w + 1)) with
        | none =>
          rw [zo_none, if_neg (by decide), z_gdt (show z_bC (111 : Int32) = true by decide)]
          exact ⟨_, m2, rfl, fr, t0, rfl⟩
        | some d =>
          have := (zG.fd_lt hf).1
          have hd : d = 0 ∨ d = 1 ∨ d = 2 ∨ d = 3 := by omega
          rcases hd with rfl | rfl | rfl | rfl
          · rw [zo_some, if_pos (by decide), if_pos (by decide), z_gdt (z_in64 (by omega)), z_gdt (show z_bC (94 : Int32) = true by decide)]
            exact ⟨_, m2, rfl, fr, t0, rfl⟩
          · rw [zo_some, if_pos (by decide), if_neg (by decide), if_pos (by decide), z_gdt (z_in64 (by omega)), z_gdt (z_in64 (by omega)), z_gdt (show z_bC (62 : Int32) = true by decide)]
            exact ⟨_, m2, rfl, fr, t0, rfl⟩
          · rw [zo_some, if_pos (by decide), if_neg (by decide), if_neg (by decide), if_pos (by decide), z_gdt (z_in64 (by omega)), z_gdt (z_in64 (by omega)), z_gdt (z_in64 (by omega)), z_gdt (show z_bC (118 : Int32) = true by decide)]
            exact ⟨_, m2, rfl, fr, t0, rfl⟩
          · rw [zo_some, if_pos (by decide), if_neg (by decide), if_neg (by decide), if_neg (by decide), z_gdt (z_in64 (by omega)), z_gdt (z_in64 (by omega)), z_gdt (z_in64 (by omega)), z_gdt (show z_bC (60 : Int32) = true by decide)]
            exact ⟨_, m2, rfl, fr, t0, rfl⟩
  · refine zAg.ex Int32.toInt64 I'.of (x := 1) (k := 1) ?_ rfl fun m' f => ?_
    · unfold f_X11_map zCl
      by_cases w : x < 0
      · rw [if_pos w]
        exact ⟨m, rfl, zFr.refl m⟩
      · rw [if_neg w, r.w, r.h, hex, if_pos (z_sub_lt (by omega) hx w)]
        exact ⟨m, rfl, zFr.refl m⟩
    · have r0 := (I'.keep f).2.2.1
      unfold zAn f_X12_map
      have hd1 : m'.1 23 0 (Int32.toNatClampNeg 1) = Int32.ofNat a.h := r0.2.1
      rw [s_mcells r0, Option.bind_some, z_gdt (by decide), hd1, hmx, hin, Option.bind_some, if_pos (by decide)]
      unfold f_X12_map_29
      rw [z_th0, if_neg (by decide), z_gdt (show z_bC (0 : Int32) = true by decide)]
      exact ⟨_, _, rfl, z_th m' 1, by decide, z_th0 _ _⟩
end
