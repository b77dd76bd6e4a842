/-! resize, undo, save, restore. -/
def zG.frs (w h t : Nat) : zG := (w, h, t, (fun _ => 50), (fun _ => 1), (fun _ => 0), fun d => decide (d = 0))
section
variable {a : zG} {b : Nat → zG} {n p : Nat} {s : Option zG} {l : Nat} {c : Nat → Nat} {e : Option Nat} {m : zM}
theorem zG.frs_v {w h t : Nat} (w2 : 2 ≤ w) (w8 : w ≤ 8) (h2 : 2 ≤ h) (h8 : h ≤ 8) (t1 : 1 ≤ t) (t9 : t ≤ 99) : zGV (zG.frs w h t) := by
  have h0 : 0 < w * h := Nat.mul_pos (by omega) (by omega)
  refine ⟨w2, w8, h2, h8, t1, t9, fun _ => ?_, fun _ => ?_, fun _ => ?_, ⟨0, h0, rfl⟩, fun d hd => ?_⟩
  · show 50 ≤ 99; omega
  · show 1 ≤ 9; omega
  · show 0 ≤ 9; omega
  · have hd' : decide (d = 0) = true := hd
    rw [decide_eq_true_eq] at hd'
    rw [hd']
    exact h0
theorem s_fresh {g : Nat} {w h t : Nat} (ht : m.1 6 g 2 = Int32.ofNat t) : ∃ m', f_X4_startAfresh g (Int32.ofNat w) (Int32.ofNat h) m = some m' ∧ zFr (zGp g) m m' ∧ zGR m' g (zG.frs w h t) := by
  unfold f_X4_startAfresh
  have f1 : zFr (zGp g) m (z_sL (z_sI (z_sI m 6 g 0 (Int32.ofNat w)) 6 g 1 (Int32.ofNat h)) 6 g 3 1) := zFr.sL (zFr.sI (zFr.sI (zFr.refl m) _ (.inl ⟨rfl, rfl, by omega⟩)) _ (.inl ⟨rfl, rfl, by omega⟩)) _ (.inl ⟨rfl, rfl, by omega⟩)
  have g0 : (z_sL (z_sI (z_sI m 6 g 0 (Int32.ofNat w)) 6 g 1 (Int32.ofNat h)) 6 g 3 1).1 6 g 0 = Int32.ofNat w := by
    rw [zm_LI, zm_row, if_neg (by omega), zm_row, if_pos rfl]
  have g1 : (z_sL (z_sI (z_sI m 6 g 0 (Int32.ofNat w)) 6 g 1 (Int32.ofNat h)) 6 g 3 1).1 6 g 1 = Int32.ofNat h := by
    rw [zm_LI, zm_row, if_pos rfl]
  have g2 : (z_sL (z_sI (z_sI m 6 g 0 (Int32.ofNat w)) 6 g 1 (Int32.ofNat h)) 6 g 3 1).1 6 g 2 = Int32.ofNat t := by
    rw [zm_LI, zm_row, if_neg (by omega), zm_row, if_neg (by omega)]
    exact ht
  have g3 : (z_sL (z_sI (z_sI m 6 g 0 (Int32.ofNat w)) 6 g 1 (Int32.ofNat h)) 6 g 3 1).2.1 6 g 3 = 1 := by
    rw [zm_L, if_pos ⟨rfl, rfl, rfl⟩]
  generalize z_sL (z_sI (z_sI m 6 g 0 (Int32.ofNat w)) 6 g 1 (Int32.ofNat h)) 6 g 3 1 = m1 at f1 g0 g1 g2 g3
  rw [s_fill, Option.bind_some, s_fill, Option.bind_some, s_fill, Option.bind_some]
  have f2 : zFr (zGp g) m1 (zm_fill (zm_fill (zm_fill m1 20 (3 * g) (z_alen 20) 50) 20 (3 * g + 1) (z_alen 20) 1) 20 (3 * g + 2) (z_alen 20) 0) := ((zf_fill (P := zGp g) (fun j => .inr ⟨rfl, .inl rfl⟩)).trans (zf_fill fun j => .inr ⟨rfl, .inr (.inl rfl)⟩)).trans (zf_fill fun j => .inr ⟨rfl, .inr (.inr rfl)⟩)
  have gg : ∀ j, (zm_fill (zm_fill (zm_fill m1 20 (3 * g) (z_alen 20) 50) 20 (3 * g + 1) (z_alen 20) 1) 20 (3 * g + 2) (z_alen 20) 0).1 6 g j = m1.1 6 g j := fun j => by
    have q : ∀ (m : zM) (i : Nat) (u : Int32), (zm_fill m 20 i (z_alen 20) u).1 6 g j = m.1 6 g j := fun m i u => by
      show (if 6 = 20 ∧ g = i ∧ j < z_alen 20 then u else m.1 6 g j) = _
      rw [if_neg (by omega)]
    rw [q, q, q]
  refine ⟨_, rfl, f1.trans f2, by rw [gg]; exact g0, by rw [gg]; exact g1, by rw [gg]; exact g2, fun d hd => ?_, fun d hd => ?_, fun d hd => ?_, fun d hd => ?_⟩
  · rw [zm_fillo (by omega), zm_fillo (by omega), zm_fillr hd]
    rfl
  · rw [zm_fillo (by omega), zm_fillr hd]
    rfl
  · rw [zm_fillr hd]
    rfl
  · show zb (m1.2.1 6 g 3) d = decide (d = 0)
    rw [g3, show (1 : Int64) = z_shl 1 (Int32.ofNat 0) from rfl, zb_one (by omega) hd]
theorem s_lays_16 {w h t : Nat} : ∀ (j x : Nat) (m : zM), x ≤ 64 → 64 - x < j → m.1 23 0 0 = Int32.ofNat w → m.1 23 0 1 = Int32.ofNat h → m.1 23 0 2 = Int32.ofNat t → (∀ y, y < x → m.1 23 0 (3 + y) = 50 ∧ m.1 23 0 (67 + y) = 1 ∧ m.1 23 0 (131 + y) = 0 ∧ m.1 23 0 (195 + y) = if y = 0 then 1 else 0) → ∃ m', f_X12_lays_16 j (Int32.ofNat x) m = some m' ∧ zFr (fun k i _ => k = 23 ∧ i = 0) m m' ∧ zMR (m'.1 23 0) (zG.frs w h t)
  | 0, _, _, _, h, _, _, _, _ => absurd h (Nat.not_lt_zero _)
  | j + 1, x, m, hx, hj, h0, h1, h2, hk => by
    unfold f_X12_lays_16
    rw [show (64 : Int32) = Int32.ofNat 64 from rfl]
    by_cases he : x = 64
    · subst he
      rw [if_pos (by rw [zi_le (by omega) (by omega)]; omega)]
      refine ⟨m, rfl, zFr.refl m, h0, h1, h2, fun d hd => (hk d hd).1, fun d hd => (hk d hd).2.1, fun d hd => (hk d hd).2.2.1, fun d hd => ?_⟩
      rw [(hk d hd).2.2.2]
      show _ = if decide (d = 0) = true then 1 else 0
      simp
    · have step : ∀ v : Int32, v = (if x = 0 then 1 else 0) → ∃ m', f_X12_lays_16 j (Int32.ofNat (x + 1)) (z_sI (z_sI (z_sI (z_sI m 23 0 (3 + x) 50) 23 0 (67 + x) 1) 23 0 (131 + x) 0) 23 0 (195 + x) v) = some m' ∧ zFr (fun k i _ => k = 23 ∧ i = 0) m m' ∧ zMR (m'.1 23 0) (zG.frs w h t) := fun v hv => by
        have fr : zFr (fun k i _ => k = 23 ∧ i = 0) m (z_sI (z_sI (z_sI (z_sI m 23 0 (3 + x) 50) 23 0 (67 + x) 1) 23 0 (131 + x) 0) 23 0 (195 + x) v) := zFr.sI (zFr.sI (zFr.sI (zFr.sI (zFr.refl m) _ ⟨rfl, rfl⟩) _ ⟨rfl, rfl⟩) _ ⟨rfl, rfl⟩) _ ⟨rfl, rfl⟩
        obtain ⟨m', p1, p2, p3⟩ := s_lays_16 (w := w) (h := h) (t := t) j (x + 1) (z_sI (z_sI (z_sI (z_sI m 23 0 (3 + x) 50) 23 0 (67 + x) 1) 23 0 (131 + x) 0) 23 0 (195 + x) v) (by omega) (by omega) (by rw [zm_row, if_neg (by omega), zm_row, if_neg (by omega), zm_row, if_neg (by omega), zm_row, if_neg (by omega)]; exact h0) (by rw [zm_row, if_neg (by omega), zm_row, if_neg (by omega), zm_row, if_neg (by omega), zm_row, if_neg (by omega)]; exact h1) (by rw [zm_row, if_neg (by omega), zm_row, if_neg (by omega), zm_row, if_neg (by omega), zm_row, if_neg (by omega)]; exact h2) fun y hy => by
          by_cases wy : y = x
          · subst wy
            refine ⟨?_, ?_, ?_, ?_⟩
            · rw [zm_row, if_neg (by omega), zm_row, if_neg (by omega), zm_row, if_neg (by omega), zm_row, if_pos rfl]
            · rw [zm_row, if_neg (by omega), zm_row, if_neg (by omega), zm_row, if_pos rfl]
            · rw [zm_row, if_neg (by omega), zm_row, if_pos rfl]
            · rw [zm_row, if_pos rfl, hv]
          · obtain ⟨q1, q2, q3, q4⟩ := hk y (by omega)
            refine ⟨?_, ?_, ?_, ?_⟩
            · rw [zm_row, if_neg (by omega), zm_row, if_neg (by omega), zm_row, if_neg (by omega), zm_row, if_neg (by omega)]; exact q1
            · rw [zm_row, if_neg (by omega), zm_row, if_neg (by omega), zm_row, if_neg (by omega), zm_row, if_neg (by omega)]; exact q2
            · rw [zm_row, if_neg (by omega), zm_row, if_neg (by omega), zm_row, if_neg (by omega), zm_row, if_neg (by omega)]; exact q3
            · rw [zm_row, if_neg (by omega), zm_row, if_neg (by omega), zm_row, if_neg (by omega), zm_row, if_neg (by omega)]; exact q4
        exact ⟨m', p1, fr.trans p2, p3⟩
      rw [if_neg (by rw [zi_le (by omega) (by omega)]; omega), show (3 : Int32) = Int32.ofNat 3 from rfl, show (67 : Int32) = Int32.ofNat 67 from rfl, show (131 : Int32) = Int32.ofNat 131 from rfl, show (195 : Int32) = Int32.ofNat 195 from rfl, zi_add, zi_add, zi_add, zi_add, z_gdt (z_in23 (by omega)), z_gdt (z_in23 (by omega)), z_gdt (z_in23 (by omega)), zi_nat (by omega), zi_nat (by omega), zi_nat (by omega)]
      unfold f_X12_lays_71
      by_cases x0 : x = 0
      · rw [if_pos (by rw [x0]; rfl), z_gdt (z_in23 (by omega)), zi_nat (by omega), zi_s]
        exact step 1 (by rw [if_pos x0])
      · rw [if_neg (by rw [zi_0 (by omega)]; exact x0), z_gdt (z_in23 (by omega)), zi_nat (by omega), zi_s]
        exact step 0 (by rw [if_neg x0])
theorem s_lays {w h t : Nat} (ht : m.1 23 0 2 = Int32.ofNat t) : ∃ m', f_X12_lays (Int32.ofNat w) (Int32.ofNat h) m = some m' ∧ zFr (fun k i _ => k = 23 ∧ i = 0) m m' ∧ zMR (m'.1 23 0) (zG.frs w h t) := by
  unfold f_X12_lays
  have fr : zFr (fun k i _ => k = 23 ∧ i = 0) m (z_sI (z_sI m 23 0 0 (Int32.ofNat w)) 23 0 1 (Int32.ofNat h)) := zFr.sI (zFr.sI (zFr.refl m) _ ⟨rfl, rfl⟩) _ ⟨rfl, rfl⟩
  obtain ⟨m', p1, p2, p3⟩ := s_lays_16 (w := w) (h := h) (t := t) zF 0 (z_sI (z_sI m 23 0 0 (Int32.ofNat w)) 23 0 1 (Int32.ofNat h)) (Nat.zero_le _) (zF_lt (by omega)) (by rw [zm_row, if_neg (by omega), zm_row, if_pos rfl]) (by rw [zm_row, if_pos rfl]) (by rw [zm_row, if_neg (by omega), zm_row, if_neg (by omega)]; exact ht) fun y hy => absurd hy (Nat.not_lt_zero _)
  rw [z_gdt (by decide), z_gdt (by decide)]
  exact ⟨m', p1, fr.trans p2, p3⟩
theorem t_resize (I : zInv m) (x : Int32) (y : Int32) : zAg Int32.toInt64 (f_L_resize x y m) (f_X12_resize x y) := by
  obtain ⟨a, b, n, p, s, l, c, e, I'⟩ := I
  have v := I'.1
  obtain ⟨C, J⟩ := I'.split
  unfold f_L_resize
  rcases z_rng x (lo := 2) (hi := 8) (by omega) (by omega) with ⟨w, w2, w8, rfl, g1, g2⟩ | ⟨g0, g1, g2⟩
  · rcases z_rng y (lo := 2) (hi := 8) (by omega) (by omega) with ⟨h, h2, h8, rfl, k1, k2⟩ | ⟨k0, k1, k2⟩
    · have fv := zG.frs_v w2 w8 h2 h8 v.t1 v.t99
      refine zAg.mut Int32.toInt64 J (v := Int32.ofNat (w * h)) (a' := zG.frs w h a.thr) (b' := zpsh b n a) (n' := min (n + 1) 8) (p' := (p + 1) % 8) (s' := s) (l' := l) (c' := c) (e' := e) ?_ fun m1 J1 => ?_
      · obtain ⟨m1, p1, p2, p3⟩ := s_rem C
        obtain ⟨m2, q1, q2, q3⟩ := s_fresh (w := w) (h := h) p3.2.1.thr
        unfold f_X11_resize
        rw [show (2 : Int32) = Int32.ofNat 2 from rfl, show (8 : Int32) = Int32.ofNat 8 from rfl, g1, zbx_l, k1, zbx_l, p1, Option.bind_some, q1, Option.bind_some, s_size fv q3, Option.bind_some]
        exact ⟨m2, rfl, (p2.mono fun k i j => zPrm_n).trans (q2.mono fun k i j => zGp0_n), p3.grid q2 fv q3⟩
      · obtain ⟨m2, q1, q2, q3⟩ := s_chg C.2.2.1.1 (J1.sm (z_th m1 0))
        obtain ⟨m3, r1, r2, r3⟩ := s_lays (w := w) (h := h) q3.1.2.2.1
        unfold f_X12_resize
        rw [show (2 : Int64) = Int32.toInt64 (Int32.ofNat 2) from rfl, show (8 : Int64) = Int32.toInt64 (Int32.ofNat 8) from rfl, g2, Option.bind_some, if_neg (by decide), k2, Option.bind_some, if_neg (by decide), q1, Option.bind_some, r1, Option.bind_some, s_mcells r3, Option.bind_some]
        exact ⟨m3, rfl, (((z_th m1 0).mono fun k i j => zSm_nc).trans (q2.mono fun k i j => zPch_n)).trans (r2.mono fun k i j => z230_n), by rw [(r2 13 0 0 (by omega)).1, (q2 13 0 0 (by unfold zPch; omega)).1]; exact z_th0 _ _, q3.grid r2 r3⟩
    · refine zAg.ex Int32.toInt64 I'.of (x := 0) (k := 1) ?_ rfl fun m' f => ?_
      · unfold f_X11_resize zCl
        rw [show (2 : Int32) = Int32.ofNat 2 from rfl, show (8 : Int32) = Int32.ofNat 8 from rfl, g1, zbx_l, k1, zbx_r]
        exact ⟨m, rfl, zFr.refl m⟩
      · unfold zAn f_X12_resize
        rw [show (2 : Int64) = Int32.toInt64 (Int32.ofNat 2) from rfl, show (8 : Int64) = Int32.toInt64 (Int32.ofNat 8) from rfl, g2, Option.bind_some, if_neg (by decide), k2, Option.bind_some, if_pos (by decide)]
        exact ⟨0, _, rfl, (z_th m' 0).trans (z_th _ 1), by decide, z_th0 _ _⟩
  · refine zAg.ex Int32.toInt64 I'.of (x := 0) (k := 1) ?_ rfl fun m' f => ?_
    · unfold f_X11_resize zCl
      rw [show (2 : Int32) = Int32.ofNat 2 from rfl, show (8 : Int32) = Int32.ofNat 8 from rfl, g1, zbx_r]
      exact ⟨m, rfl, zFr.refl m⟩
    · unfold zAn f_X12_resize
      rw [show (2 : Int64) = Int32.toInt64 (Int32.ofNat 2) from rfl, show (8 : Int64) = Int32.toInt64 (Int32.ofNat 8) from rfl, g2, Option.bind_some, if_pos (by decide)]
      exact ⟨0, _, rfl, (z_th m' 0).trans (z_th _ 1), by decide, z_th0 _ _⟩
/-! undo -/
theorem zIm.hist {m' : zM} {n' : Nat} (I : zIm a b n s l c e m) (f : zFr (fun k i j => k = 13 ∧ i = 0 ∧ j = 3) m m') (h3 : m'.1 13 0 3 = Int32.ofNat n') (hn : n' ≤ n) : zIm a b n' s l c e m' := by
  obtain ⟨h1, ⟨q5, q7⟩, h6, ⟨t3, t5⟩, e2⟩ := I
  refine ⟨by rw [f.row (fun j => by omega)]; exact h1, ⟨h3, fun j hj => by rw [f.row (fun j => by omega)]; exact q7 j (by omega)⟩, ?_, ⟨((f 13 0 8 (by omega)).1).trans t3, fun t ht => ((f 25 0 t (by omega)).1).trans (t5 t ht)⟩, ((f 13 0 10 (by omega)).1).trans e2⟩
  have g3 := (f 13 0 5 (by omega)).1
  cases s with
  | none => exact g3.trans h6
  | some x => exact ⟨g3.trans h6.1, by rw [f.row (fun j => by omega)]; exact h6.2⟩
abbrev zPtb (k i j : Nat) : Prop := zGp 0 k i j ∨ (k = 7 ∧ i = 0 ∧ (j = 1 ∨ j = 2))
theorem zPtb_n {k i j : Nat} (w : zPtb k i j) : zNm k i j := by
  rcases w with w | w
  · exact zGp0_n w
  · unfold zNm zOm
    omega
theorem s_back (n1 : 1 ≤ n) (I : zIc a b n p s l c e m) : ∃ m', f_X5_takeBack 0 m = some m' ∧ zFr zPtb m m' ∧ zIc (b (n - 1)) b (n - 1) ((p + 7) % 8) s l c e m' := by
  obtain ⟨h1, h2, ⟨q1, q2, q3, q4, q6⟩, h5, ht, he⟩ := I
  obtain ⟨gv, gr⟩ := q6 (n - 1) (by omega)
  rw [show 3 + (p + 8 - (n - 1 - (n - 1))) % 8 = 3 + p by omega] at gr
  obtain ⟨m1, p1, p2, p3⟩ := s_copyFrom (g := 0) (h := 3 + p) (by omega) gr
  have slot : f_X5_newestSlot m = some (some (3 + p)) := by
    unfold f_X5_newestSlot
    rw [q3, if_neg (zi_nn (by omega)), if_neg (by rw [show (Int32.ofNat (z_alen 35)) = Int32.ofNat 8 from rfl, zi_le (by omega) (by omega)]; omega), z_gdt (by rw [zi_inb (by omega), decide_eq_true_eq]; exact q2), zi_nat (by omega)]
  have e1 : m1.1 7 0 1 = Int32.ofNat p := ((p2 7 0 1 (by unfold zGp; omega)).1).trans q3
  have e2 : m1.1 7 0 2 = Int32.ofNat n := ((p2 7 0 2 (by unfold zGp; omega)).1).trans q4
  have main : ∀ P : Nat, P = (p + 7) % 8 → ∃ m', f_X5_takeBack_33 0 (Int32.ofNat P) m1 = some m' ∧ zFr zPtb m m' ∧ zIc (b (n - 1)) b (n - 1) ((p + 7) % 8) s l c e m' := fun P hP => by
    unfold f_X5_takeBack_33
    rw [zm_row, if_neg (by omega), e2, zi_q n1, show (0 : Int32) = Int32.ofNat 0 from rfl, z_max (by omega) (by omega), Option.bind_some, Nat.max_eq_left (Nat.zero_le _)]
    have f1 : zFr (fun k i j => k = 7 ∧ i = 0 ∧ (j = 1 ∨ j = 2)) m1 (z_sI (z_sI m1 7 0 1 (Int32.ofNat P)) 7 0 2 (Int32.ofNat (n - 1))) := zFr.sI (zFr.sI (zFr.refl m1) _ ⟨rfl, rfl, .inl rfl⟩) _ ⟨rfl, rfl, .inr rfl⟩
    have ff : zFr zPtb m _ := (p2.mono fun k i j => .inl).trans (f1.mono fun k i j => .inr)
    have kp : ∀ {x : zG} {q : Nat}, q ≠ 0 → zGR m q x → zGR (z_sI (z_sI m1 7 0 1 (Int32.ofNat P)) 7 0 2 (Int32.ofNat (n - 1))) q x := fun {x q} w1 w3 => (w3.keep p2 fun k i j y => by unfold zGp at y ⊢; omega).keep f1 fun k i j y => by unfold zGp at y; omega
    refine ⟨_, rfl, ff, gv, p3.keep f1 fun k i j y => by unfold zGp at y; omega, ⟨by omega, by omega, ?_, by rw [zm_row, if_pos rfl], fun j hj => ⟨(q6 j (by omega)).1, kp (by omega) ?_⟩⟩, ?_, ?_, ?_⟩
    · rw [zm_row, if_neg (by omega), zm_row, if_pos rfl, hP]
    · have : ((p + 7) % 8 + 8 - (n - 1 - 1 - j)) % 8 = (p + 8 - (n - 1 - j)) % 8 := by omega
      rw [this]
      exact (q6 j (by omega)).2
    · have g3 := (ff 12 0 3 (by unfold zPtb zGp; omega)).1
      cases s with
      | none => exact g3.trans h5
      | some x => exact ⟨g3.trans h5.1, h5.2.1, kp (by omega) h5.2.2⟩
    · exact ⟨ht.1, ((ff 10 0 1 (by unfold zPtb zGp; omega)).1).trans ht.2.1, fun t w => ⟨(ht.2.2 t w).1, (ht.2.2 t w).2.1, ((ff 34 0 t (by unfold zPtb zGp; omega)).1).trans (ht.2.2 t w).2.2⟩⟩
    · exact ⟨((ff 12 0 6 (by unfold zPtb zGp; omega)).1).trans he.1, he.2⟩
  unfold f_X5_takeBack
  rw [slot]
  unfold z_oq
  dsimp only
  rw [z_gdt (decide_eq_true (by omega)), p1, Option.bind_some]
  unfold f_X5_takeBack_14
  rw [e1]
  by_cases p0 : p = 0
  · rw [if_pos (by rw [p0]; decide)]
    exact main 7 (by omega)
  · rw [if_neg (by rw [show (0 : Int32) = Int32.ofNat 0 from rfl, zi_le (by omega) (by omega)]; omega), zi_q (by omega)]
    exact main (p - 1) (by omega)
theorem s_cpy_und {n : Nat} (hn : n < 8) {f : Nat → Int32} : ∀ (j x : Nat) (m : zM), x ≤ 259 → 259 - x < j → m.1 13 0 3 = Int32.ofNat n → (∀ y, y < 259 → m.1 24 0 (259 * n + y) = f y) → (∀ y, y < x → m.1 23 0 y = f y) → ∃ m', f_X12_undo_30 j (Int32.ofNat x) m = some (Int32.ofNat n, m') ∧ zFr (fun k i _ => k = 23 ∧ i = 0) m m' ∧ ∀ y, y < 259 → m'.1 23 0 y = f y
  | 0, _, _, _, h, _, _, _ => absurd h (Nat.not_lt_zero _)
  | j + 1, x, m, hx, hj, h3, hf, hk => by
    unfold f_X12_undo_30
    rw [h3, show (259 : Int32) = Int32.ofNat 259 from rfl]
    by_cases he : x = 259
    · subst he
      rw [if_pos (by rw [zi_le (by omega) (by omega)]; omega)]
      exact ⟨m, rfl, zFr.refl m, hk⟩
    · rw [if_neg (by rw [zi_le (by omega) (by omega)]; omega), zi_mul, zi_add, z_gdt (z_in24 (by omega)), z_gdt (z_in23 (by omega)), zi_nat (by omega), zi_nat (by omega), zi_s, hf x (by omega)]
      obtain ⟨m', p1, p2, p3⟩ := s_cpy_und hn (f := f) j (x + 1) (z_sI m 23 0 x (f x)) (by omega) (by omega) (by rw [zm_ot _ _ _ _ (by omega)]; exact h3) (fun y hy => by rw [zm_ot _ _ _ _ (by omega)]; exact hf y hy) fun y hy => by
        rw [zm_row]
        by_cases w : y = x
        · rw [w, if_pos rfl]
        · rw [if_neg w]
          exact hk y (by omega)
      exact ⟨m', p1, (zFr.sI (zFr.refl m) _ ⟨rfl, rfl⟩).trans p2, p3⟩
theorem t_undo (I : zInv m) : zAg Int32.toInt64 (f_L_undo m) f_X12_undo := by
  obtain ⟨a, b, n, p, s, l, c, e, I'⟩ := I
  obtain ⟨C, J⟩ := I'.split
  have n8 := C.2.2.1.1
  unfold f_L_undo
  by_cases n0 : n = 0
  · refine zAg.ex Int32.toInt64 I'.of (x := 2) (k := 1) ?_ rfl fun m' f => ?_
    · unfold f_X11_undo zCl
      rw [C.2.2.1.2.2.2.1, n0, if_pos (by decide)]
      exact ⟨m, rfl, zFr.refl m⟩
    · have h3 : (z_sI m' 13 0 0 0).1 13 0 3 = Int32.ofNat n := by
        rw [zm_row, if_neg (by omega)]
        exact (I'.keep f).split.2.2.1.1
      unfold zAn f_X12_undo
      rw [h3, n0, if_pos (by decide)]
      exact ⟨0, _, rfl, (z_th m' 0).trans (z_th _ 1), by decide, z_th0 _ _⟩
  · refine zAg.mut Int32.toInt64 J (v := Int32.ofNat (n - 1)) (a' := b (n - 1)) (b' := b) (n' := n - 1) (p' := (p + 7) % 8) (s' := s) (l' := l) (c' := c) (e' := e) ?_ fun m1 J1 => ?_
    · obtain ⟨m1, p1, p2, p3⟩ := s_back (by omega) C
      unfold f_X11_undo
      rw [C.2.2.1.2.2.2.1, if_neg (by rw [zi_0 (by omega)]; exact n0), p1, Option.bind_some, p3.2.2.1.2.2.2.1]
      exact ⟨m1, rfl, p2.mono fun k i j => zPtb_n, p3⟩
    · have h3 : (z_sI m1 13 0 0 0).1 13 0 3 = Int32.ofNat n := by
        rw [zm_row, if_neg (by omega)]
        exact J1.2.1.1
      have f1 : zFr (fun k i j => k = 13 ∧ i = 0 ∧ j = 3) (z_sI m1 13 0 0 0) (z_sI (z_sI m1 13 0 0 0) 13 0 3 (Int32.ofNat (n - 1))) := zFr.sI (zFr.refl _) _ ⟨rfl, rfl, rfl⟩
      have J2 := (J1.sm (z_th m1 0)).hist f1 (by rw [zm_row, if_pos rfl]) (Nat.sub_le n 1)
      have J3 := (J1.sm (z_th m1 0)).2.1.2 (n - 1) (by omega)
      obtain ⟨m2, q1, q2, q3⟩ := s_cpy_und (n := n - 1) (by omega) (f := fun y => (z_sI m1 13 0 0 0).1 24 0 (259 * (n - 1) + y)) zF 0 (z_sI (z_sI m1 13 0 0 0) 13 0 3 (Int32.ofNat (n - 1))) (Nat.zero_le _) (zF_lt (by omega)) (by rw [zm_row, if_pos rfl]) (fun y hy => by rw [zm_ot _ _ _ _ (by omega)]) fun y hy => absurd hy (Nat.not_lt_zero _)
      unfold f_X12_undo
      rw [h3, if_neg (by rw [zi_0 (by omega)]; exact n0), zi_q (by omega)]
      refine ⟨m2, q1, (((z_th m1 0).mono fun k i j => zSm_nc).trans (f1.mono fun k i j w => by unfold zNc zOc; omega)).trans (q2.mono fun k i j => z230_n), ?_, J2.grid q2 (J3.ext q3)⟩
      rw [(q2 13 0 0 (by omega)).1, (f1 13 0 0 (by omega)).1]
      exact z_th0 _ _
/-! save and restore -/
theorem s_cpy_sav {f : Nat → Int32} (r : zMR f a) : ∀ (j x : Nat) (m : zM), x ≤ 259 → 259 - x < j → (∀ y, y < 259 → m.1 23 0 y = f y) → (∀ y, y < x → m.1 23 1 y = f y) → ∃ m', f_X12_save_12 j (Int32.ofNat x) m = some (Int32.ofNat a.n, m') ∧ zFr (fun k i _ => k = 23 ∧ i = 1) m m' ∧ ∀ y, y < 259 → m'.1 23 1 y = f y
  | 0, _, _, _, h, _, _ => absurd h (Nat.not_lt_zero _)
  | j + 1, x, m, hx, hj, hf, hk => by
    unfold f_X12_save_12
    rw [show (259 : Int32) = Int32.ofNat 259 from rfl]
    by_cases he : x = 259
    · subst he
      rw [if_pos (by rw [zi_le (by omega) (by omega)]; omega), s_mcells (r.ext hf), Option.bind_some]
      exact ⟨m, rfl, zFr.refl m, hk⟩
    · rw [if_neg (by rw [zi_le (by omega) (by omega)]; omega), z_gdt (z_in23 (by omega)), zi_nat (by omega), zi_s, hf x (by omega)]
      obtain ⟨m', p1, p2, p3⟩ := s_cpy_sav r j (x + 1) (z_sI m 23 1 x (f x)) (by omega) (by omega) (fun y hy => by rw [zm_ot _ _ _ _ (by omega)]; exact hf y hy) fun y hy => by
        rw [zm_row]
        by_cases w : y = x
        · rw [w, if_pos rfl]
        · rw [if_neg w]
          exact hk y (by omega)
      exact ⟨m', p1, (zFr.sI (zFr.refl m) _ ⟨rfl, rfl⟩).trans p2, p3⟩
theorem s_cpy_res {f : Nat → Int32} (r : zMR f a) : ∀ (j x : Nat) (m : zM), x ≤ 259 → 259 - x < j → (∀ y, y < 259 → m.1 23 1 y = f y) → (∀ y, y < x → m.1 23 0 y = f y) → ∃ m', f_X12_restore_24 j (Int32.ofNat x) m = some (Int32.ofNat a.n, m') ∧ zFr (fun k i _ => k = 23 ∧ i = 0) m m' ∧ ∀ y, y < 259 → m'.1 23 0 y = f y
  | 0, _, _, _, h, _, _ => absurd h (Nat.not_lt_zero _)
  | j + 1, x, m, hx, hj, hf, hk => by
    unfold f_X12_restore_24
    rw [show (259 : Int32) = Int32.ofNat 259 from rfl]
    by_cases he : x = 259
    · subst he
      rw [if_pos (by rw [zi_le (by omega) (by omega)]; omega), s_mcells (r.ext hk), Option.bind_some]
      exact ⟨m, rfl, zFr.refl m, hk⟩
    · rw [if_neg (by rw [zi_le (by omega) (by omega)]; omega), z_gdt (z_in23 (by omega)), zi_nat (by omega), zi_s, hf x (by omega)]
      obtain ⟨m', p1, p2, p3⟩ := s_cpy_res r j (x + 1) (z_sI m 23 0 x (f x)) (by omega) (by omega) (fun y hy => by rw [zm_ot _ _ _ _ (by omega)]; exact hf y hy) fun y hy => by
        rw [zm_row]
        by_cases w : y = x
        · rw [w, if_pos rfl]
        · rw [if_neg w]
          exact hk y (by omega)
      exact ⟨m', p1, (zFr.sI (zFr.refl m) _ ⟨rfl, rfl⟩).trans p2, p3⟩
theorem t_save (I : zInv m) : ∃ v m1 m2, f_X11_save m = some (v, m1) ∧ f_X12_save m1 = some (v, m2) ∧ zInv m2 := by
  obtain ⟨a, b, n, p, s, l, c, e, I'⟩ := I
  have v := I'.1
  obtain ⟨C, J⟩ := I'.split
  obtain ⟨m1, p1, p2, p3⟩ := s_copyFrom (g := 2) (h := 0) (by omega) I'.2.1
  have f1 : zFr (fun k i j => k = 12 ∧ i = 0 ∧ j = 3) m1 (z_sI m1 12 0 3 1) := zFr.sI (zFr.refl _) _ ⟨rfl, rfl, rfl⟩
  have r0 : zGR (z_sI m1 12 0 3 1) 0 a := (I'.2.1.keep p2 fun k i j y => by unfold zGp at y ⊢; omega).keep f1 fun k i j y => by unfold zGp at y; omega
  have rs : zGR (z_sI m1 12 0 3 1) 2 a := p3.keep f1 fun k i j y => by unfold zGp at y; omega
  have ff : zFr (fun k i j => zGp 2 k i j ∨ (k = 12 ∧ i = 0 ∧ j = 3)) m (z_sI m1 12 0 3 1) := (p2.mono fun k i j => .inl).trans (f1.mono fun k i j => .inr)
  have C1 : zIc a b n p (some a) l c e (z_sI m1 12 0 3 1) := by
    obtain ⟨h1, h2, ⟨q1, q2, q3, q4, q6⟩, h5, ht, he⟩ := C
    refine ⟨h1, r0, ⟨q1, q2, ((ff 7 0 1 (by unfold zGp; omega)).1).trans q3, ((ff 7 0 2 (by unfold zGp; omega)).1).trans q4, fun j hj => ⟨(q6 j hj).1, (q6 j hj).2.keep ff fun k i j y => by unfold zGp at y ⊢; omega⟩⟩, ⟨by rw [zm_row, if_pos rfl], v, rs⟩, ⟨ht.1, ((ff 10 0 1 (by unfold zGp; omega)).1).trans ht.2.1, fun t w => ⟨(ht.2.2 t w).1, (ht.2.2 t w).2.1, ((ff 34 0 t (by unfold zGp; omega)).1).trans (ht.2.2 t w).2.2⟩⟩, ((ff 12 0 6 (by unfold zGp; omega)).1).trans he.1, he.2⟩
  have J1 : zIm a b n s l c e (z_sI m1 12 0 3 1) := J.keep ff fun k i j h w => by unfold zOm at h; unfold zGp at w; omega
  have f2 : zFr (fun k i j => k = 13 ∧ i = 0 ∧ (j = 0 ∨ j = 5)) (z_sI m1 12 0 3 1) (z_sI (z_sI (z_sI m1 12 0 3 1) 13 0 0 0) 13 0 5 1) := zFr.sI (zFr.sI (zFr.refl _) _ ⟨rfl, rfl, .inl rfl⟩) _ ⟨rfl, rfl, .inr rfl⟩
  obtain ⟨m2, q1, q2, q3⟩ := s_cpy_sav J1.1 zF 0 (z_sI (z_sI (z_sI m1 12 0 3 1) 13 0 0 0) 13 0 5 1) (Nat.zero_le _) (zF_lt (by omega)) (fun y _ => by rw [zm_ot _ _ _ _ (by omega), zm_ot _ _ _ _ (by omega)]) fun y hy => absurd hy (Nat.not_lt_zero _)
  have fm : zFr (fun k i j => (k = 13 ∧ i = 0 ∧ (j = 0 ∨ j = 5)) ∨ (k = 23 ∧ i = 1)) (z_sI m1 12 0 3 1) m2 := (f2.mono fun k i j => .inl).trans (q2.mono fun k i j => .inr)
  refine ⟨Int32.ofNat a.n, z_sI m1 12 0 3 1, m2, ?_, ?_, a, b, n, p, some a, l, c, e, (C1.keep fm fun k i j h w => by unfold zOc at h; omega).join ?_⟩
  · unfold f_X11_save
    rw [p1, Option.bind_some, s_size v r0, Option.bind_some]
  · unfold f_X12_save
    exact q1
  · obtain ⟨h1, ⟨q5, q7⟩, h6, ⟨t3, t5⟩, e2⟩ := J1
    refine ⟨by rw [fm.row (fun j => by omega)]; exact h1, ⟨((fm 13 0 3 (by omega)).1).trans q5, fun j hj => by rw [fm.row (fun j => by omega)]; exact q7 j hj⟩, ⟨?_, h1.ext q3⟩, ⟨((fm 13 0 8 (by omega)).1).trans t3, fun t ht => ((fm 25 0 t (by omega)).1).trans (t5 t ht)⟩, ((fm 13 0 10 (by omega)).1).trans e2⟩
    rw [(q2 13 0 5 (by omega)).1, zm_row, if_pos rfl]
theorem t_restore (I : zInv m) : zAg Int32.toInt64 (f_L_restore m) f_X12_restore := by
  obtain ⟨a, b, n, p, s, l, c, e, I'⟩ := I
  obtain ⟨C, J⟩ := I'.split
  unfold f_L_restore
  cases s with
  | none =>
    refine zAg.ex Int32.toInt64 I'.of (x := 2) (k := 1) ?_ rfl fun m' f => ?_
    · have h5 : m.1 12 0 3 = 0 := C.2.2.2.1
      unfold f_X11_restore zCl
      rw [h5, if_pos rfl]
      exact ⟨m, rfl, zFr.refl m⟩
    · have h3 : (z_sI m' 13 0 0 0).1 13 0 5 = 0 := by
        rw [zm_row, if_neg (by omega)]
        exact (I'.keep f).split.2.2.2.1
      unfold zAn f_X12_restore
      rw [h3, if_pos rfl]
      exact ⟨0, _, rfl, (z_th m' 0).trans (z_th _ 1), by decide, z_th0 _ _⟩
  | some x =>
    obtain ⟨h5, gv, gr⟩ := C.2.2.2.1
    refine zAg.mut Int32.toInt64 J (v := Int32.ofNat x.n) (a' := x) (b' := zpsh b n a) (n' := min (n + 1) 8) (p' := (p + 1) % 8) (s' := some x) (l' := l) (c' := c) (e' := e) ?_ fun m1 J1 => ?_
    · obtain ⟨m1, p1, p2, p3⟩ := s_rem C
      obtain ⟨m2, q1, q2, q3⟩ := s_copyFrom (g := 0) (h := 2) (by omega) p3.2.2.2.1.2.2
      unfold f_X11_restore
      rw [h5, if_neg (by decide), p1, Option.bind_some, q1, Option.bind_some, s_size gv q3, Option.bind_some]
      exact ⟨m2, rfl, (p2.mono fun k i j => zPrm_n).trans (q2.mono fun k i j => zGp0_n), p3.grid q2 gv q3⟩
    · have h3 : (z_sI m1 13 0 0 0).1 13 0 5 = 1 := by
        rw [zm_row, if_neg (by omega)]
        exact J1.2.2.1.1
      obtain ⟨m2, q1, q2, q3⟩ := s_chg C.2.2.1.1 (J1.sm (z_th m1 0))
      obtain ⟨m3, r1, r2, r3⟩ := s_cpy_res q3.2.2.1.2 zF 0 m2 (Nat.zero_le _) (zF_lt (by omega)) (fun _ _ => rfl) fun y hy => absurd hy (Nat.not_lt_zero _)
      unfold f_X12_restore
      rw [h3, if_neg (by decide), q1, Option.bind_some]
      exact ⟨m3, r1, (((z_th m1 0).mono fun k i j => zSm_nc).trans (q2.mono fun k i j => zPch_n)).trans (r2.mono fun k i j => z230_n), by rw [(r2 13 0 0 (by omega)).1, (q2 13 0 0 (by unfold zPch; omega)).1]; exact z_th0 _ _, q3.grid r2 (q3.2.2.1.2.ext r3)⟩
end
