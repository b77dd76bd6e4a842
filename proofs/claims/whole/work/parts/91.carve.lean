/-! carveLake. -/
/-- along a way no step goes up: what is so after k cells, and how many were lowered -/
def zG.cvs (a : zG) (W : Nat → Nat) : Nat → zG × Nat
  | 0 => (a, 0)
  | k + 1 => if k = 0 then (a, 0) else if (a.cvs W k).1.ht (W (k - 1)) < (a.cvs W k).1.ht (W k) then ((a.cvs W k).1.sH (W k) ((a.cvs W k).1.ht (W (k - 1))), (a.cvs W k).2 + 1) else a.cvs W k
section
variable {a : zG} {b : Nat → zG} {n p : Nat} {s : Option zG} {l : Nat} {c : Nat → Nat} {e : Option Nat} {m : zM} {W : Nat → Nat}
theorem zG.cvs_v (v : zGV a) : ∀ k, zGV (a.cvs W k).1 ∧ (a.cvs W k).1.n = a.n ∧ (a.cvs W k).2 ≤ k
  | 0 => ⟨v, rfl, Nat.le_refl _⟩
  | k + 1 => by
    obtain ⟨h1, h2, h3⟩ := zG.cvs_v v k
    unfold zG.cvs
    by_cases k0 : k = 0
    · rw [if_pos k0]
      exact ⟨v, rfl, Nat.zero_le _⟩
    · rw [if_neg k0]
      by_cases w : (a.cvs W k).1.ht (W (k - 1)) < (a.cvs W k).1.ht (W k)
      · rw [if_pos w]
        exact ⟨h1.sH (h1.ht _), h2, by omega⟩
      · rw [if_neg w]
        exact ⟨h1, h2, by omega⟩
theorem zG.sH_id (x : Nat) : a.sH x (a.ht x) = a := by
  have : (fun d => if d = x then a.ht x else a.ht d) = a.ht := funext fun d => by
    by_cases w : d = x
    · rw [if_pos w, w]
    · rw [if_neg w]
  unfold zG.sH
  rw [this]
  rfl
theorem zG.sH_at (x u : Nat) : (a.sH x u).ht x = u := if_pos rfl
theorem s_cv_21 (v : zGV a) {K : Nat} (hK : K ≤ 63) (hW : ∀ t, t ≤ K → W t < a.n) : ∀ (j k : Nat) (m : zM), 1 ≤ k → k ≤ K + 1 → K + 1 - k < j → zGR m 0 (a.cvs W k).1 → m.1 2 0 3 = Int32.ofNat (K + 1) → (∀ t, t ≤ K → m.1 20 58 t = Int32.ofNat (W t)) → ∃ m', f_X0_carve_21 0 j (Int32.ofNat (a.cvs W k).2) (Int32.ofNat ((a.cvs W k).1.ht (W (k - 1)))) (Int32.ofNat k) m = some (Int32.ofNat (a.cvs W (K + 1)).2, m') ∧ zFr (zGp 0) m m' ∧ zGR m' 0 (a.cvs W (K + 1)).1
  | 0, _, _, _, _, h, _, _, _ => absurd h (Nat.not_lt_zero _)
  | j + 1, k, m, hk1, hk2, hj, r, h3, h58 => by
    have n64 := v.n64
    obtain ⟨g1, g2, g3⟩ := zG.cvs_v (W := W) v k
    unfold f_X0_carve_21
    rw [h3]
    by_cases he : k = K + 1
    · subst he
      rw [if_pos (by rw [zi_le (by omega) (by omega)]; omega)]
      exact ⟨m, rfl, zFr.refl m, r⟩
    · have hkK : k ≤ K := by omega
      have wk := hW k hkK
      have wp := hW (k - 1) (by omega)
      have b1 := g1.ht (W k)
      have b2 := g1.ht (W (k - 1))
      have e0 : a.cvs W (k + 1) = if k = 0 then (a, 0) else if (a.cvs W k).1.ht (W (k - 1)) < (a.cvs W k).1.ht (W k) then ((a.cvs W k).1.sH (W k) ((a.cvs W k).1.ht (W (k - 1))), (a.cvs W k).2 + 1) else a.cvs W k := rfl
      rw [if_neg (by omega)] at e0
      have fr : ∀ u, zFr (zGp 0) m (z_sI m 20 0 (W k) u) := fun u => zFr.sI (zFr.refl m) _ (by unfold zGp; omega)
      have h3' : ∀ u, (z_sI m 20 0 (W k) u).1 2 0 3 = Int32.ofNat (K + 1) := fun u => by rw [zm_ot _ _ _ _ (by omega)]; exact h3
      have h58' : ∀ u, ∀ t, t ≤ K → (z_sI m 20 0 (W k) u).1 20 58 t = Int32.ofNat (W t) := fun u t ht => by rw [zm_ot _ _ _ _ (by omega)]; exact h58 t ht
      rw [if_neg (by rw [zi_le (by omega) (by omega)]; omega), s_at' 20 58 (show k < 64 by omega), Option.bind_some, h58 k hkK, s_at' 20 (3 * 0) (show W k < 64 by omega), Option.bind_some, r.ht (W k) (by omega), z_min (by omega) (by omega), Option.bind_some, s_put 20 (3 * 0) (show W k < 64 by omega), Option.bind_some, zi_s]
      by_cases w : (a.cvs W k).1.ht (W (k - 1)) < (a.cvs W k).1.ht (W k)
      · rw [if_pos w] at e0
        have ep : k + 1 - 1 = k := rfl
        have ih := s_cv_21 v hK hW j (k + 1) (z_sI m 20 0 (W k) (Int32.ofNat ((a.cvs W k).1.ht (W (k - 1))))) (by omega) (by omega) (by omega) (by rw [e0]; exact r.sH _) (h3' _) (h58' _)
        rw [e0, ep, zG.sH_at] at ih
        obtain ⟨m', p1, p2, p3⟩ := ih
        rw [Nat.min_eq_left (by omega), if_neg (by rw [zi_eq (by omega) (by omega)]; omega), zi_s]
        exact ⟨m', p1, (fr _).trans p2, p3⟩
      · rw [if_neg w] at e0
        have ep : k + 1 - 1 = k := rfl
        have rn := r.sH (c := W k) ((a.cvs W k).1.ht (W k))
        rw [zG.sH_id] at rn
        have ih := s_cv_21 v hK hW j (k + 1) (z_sI m 20 0 (W k) (Int32.ofNat ((a.cvs W k).1.ht (W k)))) (by omega) (by omega) (by omega) (by rw [e0]; exact rn) (h3' _) (h58' _)
        rw [e0, ep] at ih
        obtain ⟨m', p1, p2, p3⟩ := ih
        rw [Nat.min_eq_right (by omega), if_pos rfl]
        exact ⟨m', p1, (fr _).trans p2, p3⟩
theorem s_cv (v : zGV a) {K : Nat} (hK : K ≤ 63) (hW : ∀ t, t ≤ K → W t < a.n) (r : zGR m 0 a) (h3 : m.1 2 0 3 = Int32.ofNat (K + 1)) (h58 : ∀ t, t ≤ K → m.1 20 58 t = Int32.ofNat (W t)) : ∃ m', f_X0_carve 0 m = some (Int32.ofNat (a.cvs W (K + 1)).2, m') ∧ zFr (zGp 0) m m' ∧ zGR m' 0 (a.cvs W (K + 1)).1 := by
  have n64 := v.n64
  have w0 := hW 0 (Nat.zero_le _)
  have e1 : a.cvs W 1 = (a, 0) := rfl
  have h0 := s_cv_21 v hK hW zF 1 m (Nat.le_refl _) (by omega) (zF_lt (by omega)) (by rw [e1]; exact r) h3 h58
  rw [e1] at h0
  unfold f_X0_carve
  rw [show f_X7_at 20 58 (0 : Int32) m = some (m.1 20 58 0) from s_at' 20 58 (show 0 < 64 by omega) m, Option.bind_some, h58 0 (Nat.zero_le _), s_at' 20 (3 * 0) (show W 0 < 64 by omega), Option.bind_some, r.ht (W 0) (by omega)]
  exact h0
theorem s_cm_36 (v : zGV a) {K : Nat} (hK : K ≤ 63) (hW : ∀ t, t ≤ K → W t < a.n) : ∀ (j k : Nat) (m : zM), 1 ≤ k → k ≤ K + 1 → K + 1 - k < j → zMR (m.1 23 0) (a.cvs W k).1 → m.1 13 0 29 = Int32.ofNat (K + 1) → (∀ t, t ≤ K → m.1 27 0 t = Int32.ofNat (W t)) → ∃ m', f_X12_carveLake_36 j (Int32.ofNat (a.cvs W k).2) (Int32.ofNat k) m = some (Int32.ofNat (a.cvs W (K + 1)).2, m') ∧ zFr (fun k i _ => k = 23 ∧ i = 0) m m' ∧ zMR (m'.1 23 0) (a.cvs W (K + 1)).1
  | 0, _, _, _, _, h, _, _, _ => absurd h (Nat.not_lt_zero _)
  | j + 1, k, m, hk1, hk2, hj, r, h3, h27 => by
    have n64 := v.n64
    obtain ⟨g1, g2, g3⟩ := zG.cvs_v (W := W) v k
    unfold f_X12_carveLake_36
    rw [h3]
    by_cases he : k = K + 1
    · subst he
      rw [if_pos (by rw [zi_le (by omega) (by omega)]; omega)]
      exact ⟨m, rfl, zFr.refl m, r⟩
    · have hkK : k ≤ K := by omega
      have wk := hW k hkK
      have wp := hW (k - 1) (by omega)
      have b1 := g1.ht (W k)
      have b2 := g1.ht (W (k - 1))
      have e0 : a.cvs W (k + 1) = if k = 0 then (a, 0) else if (a.cvs W k).1.ht (W (k - 1)) < (a.cvs W k).1.ht (W k) then ((a.cvs W k).1.sH (W k) ((a.cvs W k).1.ht (W (k - 1))), (a.cvs W k).2 + 1) else a.cvs W k := rfl
      rw [if_neg (by omega)] at e0
      rw [if_neg (by rw [zi_le (by omega) (by omega)]; omega), zi_q hk1, z_gdt (z_in27 (by omega)), zi_nat (by omega), h27 k hkK, s_mheight r (by omega), Option.bind_some, z_gdt (z_in27 (by omega)), zi_nat (by omega), h27 (k - 1) (by omega), s_mheight r (by omega), Option.bind_some, zi_s]
      by_cases w : (a.cvs W k).1.ht (W (k - 1)) < (a.cvs W k).1.ht (W k)
      · rw [if_pos w] at e0
        have ih := s_cm_36 v hK hW j (k + 1) (z_sI m 23 0 (3 + W k) (Int32.ofNat ((a.cvs W k).1.ht (W (k - 1))))) (by omega) (by omega) (by omega) (by rw [e0]; exact r.sH (by omega) _) (by rw [zm_ot _ _ _ _ (by omega)]; exact h3) fun t ht => by rw [zm_ot _ _ _ _ (by omega)]; exact h27 t ht
        rw [e0] at ih
        obtain ⟨m', p1, p2, p3⟩ := ih
        rw [if_pos (by rw [zi_lt (by omega) (by omega)]; exact w), z_gdt (z_in27 (by omega)), z_gdt (z_in27 (by omega)), Option.bind_some, show (3 : Int32) = Int32.ofNat 3 from rfl, zi_add, z_gdt (z_in23 (by omega)), zi_nat (by omega), zi_s]
        exact ⟨m', p1, (zFr.sI (zFr.refl m) _ ⟨rfl, rfl⟩).trans p2, p3⟩
      · rw [if_neg w] at e0
        have ih := s_cm_36 v hK hW j (k + 1) m (by omega) (by omega) (by omega) (by rw [e0]; exact r) h3 h27
        rw [e0] at ih
        rw [if_neg (by rw [zi_lt (by omega) (by omega)]; exact w), zi_s]
        exact ih
theorem t_carveLake (I : zInv m) (x : Int32) : zAg Int32.toInt64 (f_L_carveLake x m) (f_X12_carveLake x) := by
  obtain ⟨a, b, n, p, s, l, c, e, I'⟩ := I
  have v := I'.1
  have n64 := v.n64
  have nn := zG.num_le (a := a) a.n
  obtain ⟨C, J⟩ := I'.split
  obtain ⟨m1, h1, h2, h2', h3, r1, h4, h5⟩ := s_reqLake v I'.2.1
  unfold f_L_carveLake
  rcases z_idx x (k := a.num a.n) (by omega) with ⟨q, hq, rfl, hin⟩ | ⟨hx, hin⟩
  · obtain ⟨o, ho, hm, rfl⟩ := zG.num_at hq
    obtain ⟨l1, l2⟩ := zG.lks_o v hm
    have hlp := zG.lp_n (a := a) (S := a.lks (a.num o)) ho a.n (Nat.le_refl _)
    have hA := zFil.lake v h3 ho hm
    generalize hP : a.lp (a.lks (a.num o)) o a.n = P at hlp
    have k63 := zG.vk63 v (h := a.ht P) hlp
    have hW : ∀ t, t ≤ a.vk (a.ht P) P → a.cw t (a.ht P) P < a.n := fun t ht => zG.cw_n v t _ _ hlp ht
    obtain ⟨gv, gn, _⟩ := zG.cvs_v (W := fun t => a.cw t (a.ht P) P) v (a.vk (a.ht P) P + 1)
    refine zAg.mut Int32.toInt64 J (v := Int32.ofNat (a.cvs (fun t => a.cw t (a.ht P) P) (a.vk (a.ht P) P + 1)).2) (a' := (a.cvs (fun t => a.cw t (a.ht P) P) (a.vk (a.ht P) P + 1)).1) (b' := zpsh b n a) (n' := min (n + 1) 8) (p' := (p + 1) % 8) (s' := s) (l' := l) (c' := c) (e' := e) ?_ fun m3 J1 => ?_
    · obtain ⟨m2, p1, p2, p3⟩ := s_rem (C.scr h2)
      obtain ⟨m3, q1, q2, q3, q4, q5⟩ := s_plan v (show 0 < 11 by omega) hlp p3.2.1
      have p4 := p3.scr (q2.mono fun k i j => zPpn_c)
      obtain ⟨m4, w1, w2, w3⟩ := s_cv v k63 hW p4.2.1 q4 q5
      unfold f_X11_carveLake
      rw [h4 _ hq, zbx_l, p1, Option.bind_some, s_al 30 0 (by rw [zl_30]; omega), Option.bind_some, show m2.2.1 30 0 (a.num o) = m1.2.1 30 0 (a.num o) from (p2 30 0 _ (by unfold zPrm; omega)).2.1, s_lowestPlace v p3.2.1 ho (by rw [hA]; exact l1) (fun d hd => by rw [hA]; exact l2 d hd), Option.bind_some, hA, hP, q1, Option.bind_some, w1, Option.bind_some]
      exact ⟨m4, rfl, (((h2.mono fun k i j => zSc_nm).trans (p2.mono fun k i j => zPrm_n)).trans (q2.mono fun k i j w => zSc_nm (zPpn_c w))).trans (w2.mono fun k i j => zGp0_n), p4.grid w2 gv w3⟩
    · obtain ⟨m4, q1, q2, q3, q4, q5⟩ := s_isLake v (J1.1.th 0) _ hin
      obtain ⟨m5, u1, u2, u3⟩ := s_chg C.2.2.1.1 ((J1.sm (z_th m3 0)).sm (q2.mono fun k i j => zPlk_m))
      have hM : zMk a a.n m5 := ⟨by rw [(u2 13 0 18 (by unfold zPch; omega)).1]; exact q5.1, fun d hd => by rw [(u2 20 65 d (by unfold zPch; omega)).1]; exact q5.2 d hd⟩
      obtain ⟨m6, w1, w2, w3, w4, w5⟩ := s_bestWay v hlp u3.1
      have u4 := u3.sm (w2.mono fun k i j => zPbw_m)
      obtain ⟨m7, x1, x2, x3⟩ := s_cm_36 v k63 hW zF 1 m6 (Nat.le_refl _) (by omega) (zF_lt (by omega)) (by show zMR _ a; exact u4.1) w4 w5
      have bo := s_bot v u3.1 hM ho hm
      rw [hP] at bo
      unfold f_X12_carveLake
      rw [q1, Option.bind_some, if_neg (show ¬ z_bi true = 0 by decide), u1, Option.bind_some, bo, Option.bind_some, w1, Option.bind_some]
      refine ⟨m7, x1, (((((z_th m3 0).trans (q2.mono fun k i j => zPlk_m)).mono fun k i j => zSm_nc).trans (u2.mono fun k i j => zPch_n)).trans (w2.mono fun k i j w => zSm_nc (zPbw_m w))).trans (x2.mono fun k i j => z230_n), ?_, u4.grid x2 x3⟩
      rw [(x2 13 0 0 (by omega)).1, (w2 13 0 0 (by unfold zPbw; omega)).1, (u2 13 0 0 (by unfold zPch; omega)).1]
      exact q2.t0 (by unfold zPlk; omega) (z_th0 _ _)
  · refine zAg.ex Int32.toInt64 I'.of (x := 1) (k := 1) ?_ rfl fun m' f => ?_
    · unfold f_X11_carveLake zCl
      rw [h5 x hx, zbx_r]
      exact ⟨m1, rfl, h2⟩
    · have r2 := (I'.keep f).2.2.1.th 0
      obtain ⟨m2, q1, q2, q3, q4, q5⟩ := s_isLake v r2 _ hin
      unfold zAn f_X12_carveLake
      rw [q1, Option.bind_some, if_pos (show z_bi false = 0 from rfl)]
      exact ⟨0, _, rfl, ((q2.mono fun k i j => zPlk_m).x13).trans (z_th _ 1), by decide, z_th0 _ _⟩
end
