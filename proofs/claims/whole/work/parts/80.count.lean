/-! count and errorPosition. -/
section
variable {m : zM} {a : zG}
theorem s_outs_4 (v : zGV a) (r : zMR (m.1 23 0) a) : ∀ (j c : Nat), c ≤ a.n → a.n - c < j → f_X12_outlets_4 m j (Int32.ofNat (z_cnt a.ou c)) (Int32.ofNat c) = some (Int32.ofNat (z_cnt a.ou a.n))
  | 0, _, _, h => absurd h (Nat.not_lt_zero _)
  | j + 1, c, hc, hj => by
    have n64 := v.n64
    unfold f_X12_outlets_4
    rw [s_mcells r, Option.bind_some]
    by_cases he : c = a.n
    · rw [he, if_pos (by rw [zi_le (by omega) (by omega)]; omega)]
    · have hcn : c < a.n := by omega
      have ih := s_outs_4 v r j (c + 1) hcn (by omega)
      have er : z_cnt a.ou (c + 1) = z_cnt a.ou c + if a.ou c = true then 1 else 0 := rfl
      have en : (195 : Int32) + Int32.ofNat c = Int32.ofNat (195 + c) := by
        rw [show (195 : Int32) = Int32.ofNat 195 from rfl, zi_add]
      rw [if_neg (by rw [zi_le (by omega) (by omega)]; omega), en, z_gdt (z_in23 (by omega)), zi_nat (by omega), r.2.2.2.2.2.2 c (by omega), zi_s]
      rw [er] at ih
      cases ho : a.ou c with
      | true =>
        rw [ho, if_pos rfl] at ih
        rw [if_pos rfl, zi_s]
        exact ih
      | false =>
        rw [ho, if_neg Bool.false_ne_true] at ih
        rw [if_neg Bool.false_ne_true, Int32.add_zero]
        exact ih
theorem s_cnt_109 (v : zGV a) (r : zMW a m) : ∀ (j c : Nat), c ≤ a.n → a.n - c < j → f_X12_count_109 j (Int32.ofNat (z_cnt a.str c)) (Int32.ofNat c) m = some (Int32.ofNat (z_cnt a.str a.n), m)
  | 0, _, _, h => absurd h (Nat.not_lt_zero _)
  | j + 1, c, hc, hj => by
    have n64 := v.n64
    unfold f_X12_count_109
    rw [s_mcells r.1, Option.bind_some]
    by_cases he : c = a.n
    · rw [he, if_pos (by rw [zi_le (by omega) (by omega)]; omega)]
    · have hcn : c < a.n := by omega
      have ih := s_cnt_109 v r j (c + 1) hcn (by omega)
      have er : z_cnt a.str (c + 1) = z_cnt a.str c + if a.str c = true then 1 else 0 := rfl
      rw [if_neg (by rw [zi_le (by omega) (by omega)]; omega), s_isStream v r hcn, Option.bind_some, zi_s, zi_s]
      rw [er] at ih
      cases ho : a.str c with
      | true =>
        rw [ho, if_pos rfl] at ih
        rw [if_neg (by decide)]
        exact ih
      | false =>
        rw [ho, if_neg Bool.false_ne_true] at ih
        rw [if_pos (by decide)]
        exact ih
theorem s_cnt_160 (v : zGV a) (r : zMR (m.1 23 0) a) (hk : ∀ d, d < a.n → m.1 20 60 d = Int32.ofNat (a.rk d)) : ∀ (j c : Nat), c ≤ a.n → a.n - c < j → f_X12_count_160 j (Int32.ofNat (z_cnt a.fla c)) (Int32.ofNat c) m = some (Int32.ofNat (z_cnt a.fla a.n), m)
  | 0, _, _, h => absurd h (Nat.not_lt_zero _)
  | j + 1, c, hc, hj => by
    have n64 := v.n64
    unfold f_X12_count_160
    rw [s_mcells r, Option.bind_some]
    by_cases he : c = a.n
    · rw [he, if_pos (by rw [zi_le (by omega) (by omega)]; omega)]
    · have hcn : c < a.n := by omega
      have ih := s_cnt_160 v r hk j (c + 1) hcn (by omega)
      have h0 := zG.rk0 (a := a) hcn
      have hr := zG.rk63 v hcn
      have er : z_cnt a.fla (c + 1) = z_cnt a.fla c + if a.fla c = true then 1 else 0 := rfl
      rw [if_neg (by rw [zi_le (by omega) (by omega)]; omega), z_gdt (z_in64 (by omega)), zi_nat (by omega), hk c hcn, zi_s, zi_s]
      rw [er] at ih
      cases ho : a.fla c with
      | true =>
        rw [ho, if_pos rfl] at ih
        rw [if_neg]
        · exact ih
        · rw [show (0 : Int32) = Int32.ofNat 0 from rfl, zi_le (by omega) (by omega)]
          intro w
          have := h0.mp (by omega)
          rw [ho] at this
          cases this
      | false =>
        rw [ho, if_neg Bool.false_ne_true] at ih
        rw [if_pos]
        · exact ih
        · rw [h0.mpr ho]
          decide
theorem zG.str_n {d : Nat} (h : a.str d = true) : d < a.n := by
  unfold zG.str at h
  exact (of_decide_eq_true h).1
theorem zG.fla_n {d : Nat} (h : a.fla d = true) : d < a.n := by
  unfold zG.fla at h
  rw [Bool.and_eq_true, Bool.and_eq_true] at h
  exact of_decide_eq_true h.1.1
theorem z_and_n {S : Nat → Bool} {n : Nat} (h : ∀ d, S d = true → d < n) (d : Nat) : S d = (decide (d < n) && S d) := by
  cases w : S d with
  | false => simp
  | true => simp [h d w]
theorem t_count (I : zInv m) (x : Int32) : zAg Int32.toInt64 (f_L_count x m) (f_X12_count x) := by
  obtain ⟨a, b, n, p, s, l, c, e, I'⟩ := I
  have v := I'.1
  have n64 := v.n64
  unfold f_L_count
  rcases z_rng x (lo := 0) (hi := 10) (by omega) (by omega) with ⟨k, _, k2, rfl, g1, g2⟩ | ⟨g0, g1, g2⟩
  · refine zAg.ok Int32.toInt64 I'.of (v := Int32.ofNat (if k = 0 then a.w else if k = 1 then a.h else if k = 2 then z_cnt a.ou a.n else if k = 3 then a.thr else if k = 4 then a.num a.n else if k = 5 then z_cnt a.str a.n else if k = 6 then a.rno a.n else if k = 7 then (a.dp 100).k else if k = 8 then z_cnt a.fla a.n else if k = 9 then l else n)) ?_ fun m' f => ?_
    · unfold f_X11_count zCl
      rw [show (0 : Int32) = Int32.ofNat 0 from rfl, show (10 : Int32) = Int32.ofNat 10 from rfl, g1, zbx_l]
      have r := I'.2.1
      have hk : k = 0 ∨ k = 1 ∨ k = 2 ∨ k = 3 ∨ k = 4 ∨ k = 5 ∨ k = 6 ∨ k = 7 ∨ k = 8 ∨ k = 9 ∨ k = 10 := by omega
      rcases hk with rfl | rfl | rfl | rfl | rfl | rfl | rfl | rfl | rfl | rfl | rfl
      · rw [if_pos (by decide), r.w, if_pos rfl]
        exact ⟨m, rfl, zFr.refl m⟩
      · rw [if_neg (by decide), if_pos (by decide), r.h, if_neg (by omega), if_pos rfl]
        exact ⟨m, rfl, zFr.refl m⟩
      · rw [if_neg (by decide), if_neg (by decide), if_pos (by decide), s_bitn v (zGR.on v r), Option.bind_some, if_neg (by omega), if_neg (by omega), if_pos rfl]
        exact ⟨m, rfl, zFr.refl m⟩
      · rw [if_neg (by decide), if_neg (by decide), if_neg (by decide), if_pos (by decide), r.thr, if_neg (by omega), if_neg (by omega), if_neg (by omega), if_pos rfl]
        exact ⟨m, rfl, zFr.refl m⟩
      · obtain ⟨m1, h1, h2, h2', h3⟩ := s_fl v (show 0 < 11 by omega) r
        rw [if_neg (by decide), if_neg (by decide), if_neg (by decide), if_neg (by decide), if_pos (by decide), h1, Option.bind_some, h3.1.2.2.2.1, if_neg (by omega), if_neg (by omega), if_neg (by omega), if_neg (by omega), if_pos rfl]
        exact ⟨m1, rfl, h2⟩
      · obtain ⟨m1, h1, h2, h3⟩ := s_streams2 v r
        rw [if_neg (by decide), if_neg (by decide), if_neg (by decide), if_neg (by decide), if_neg (by decide), if_pos (by decide), h1, Option.bind_some, s_bitn (S := a.str) v (fun d hd => by rw [h3.1 d hd]; exact z_and_n (fun _ => zG.str_n) d), Option.bind_some, if_neg (by omega), if_neg (by omega), if_neg (by omega), if_neg (by omega), if_neg (by omega), if_pos rfl]
        exact ⟨m1, rfl, h2.mono fun k i j => zPss_c⟩
      · obtain ⟨m1, h1, h2, h3⟩ := s_streams2 v r
        rw [if_neg (by decide), if_neg (by decide), if_neg (by decide), if_neg (by decide), if_neg (by decide), if_neg (by decide), if_pos (by decide), h1, Option.bind_some, h3.2.2.1, if_neg (by omega), if_neg (by omega), if_neg (by omega), if_neg (by omega), if_neg (by omega), if_neg (by omega), if_pos rfl]
        exact ⟨m1, rfl, h2.mono fun k i j => zPss_c⟩
      · obtain ⟨m1, h1, h2, h3, _⟩ := s_dfind v (show 0 < 11 by omega) r
        rw [if_neg (by decide), if_neg (by decide), if_neg (by decide), if_neg (by decide), if_neg (by decide), if_neg (by decide), if_neg (by decide), if_pos (by decide), h1, Option.bind_some, h3, if_neg (by omega), if_neg (by omega), if_neg (by omega), if_neg (by omega), if_neg (by omega), if_neg (by omega), if_neg (by omega), if_pos rfl]
        exact ⟨m1, rfl, h2.mono fun k i j => zPde_c⟩
      · obtain ⟨m1, s1, h1, h2, h3, h4, h5⟩ := s_flows v (show 0 < 11 by omega) r
        rw [if_neg (by decide), if_neg (by decide), if_neg (by decide), if_neg (by decide), if_neg (by decide), if_neg (by decide), if_neg (by decide), if_neg (by decide), if_pos (by decide), h1, Option.bind_some, s_bitn (S := a.fla) v (fun d hd => by rw [h5.2.1 d hd]; exact z_and_n (fun _ => zG.fla_n) d), Option.bind_some, if_neg (by omega), if_neg (by omega), if_neg (by omega), if_neg (by omega), if_neg (by omega), if_neg (by omega), if_neg (by omega), if_neg (by omega), if_pos rfl]
        exact ⟨m1, rfl, h2⟩
      · rw [if_neg (by decide), if_neg (by decide), if_neg (by decide), if_neg (by decide), if_neg (by decide), if_neg (by decide), if_neg (by decide), if_neg (by decide), if_neg (by decide), if_pos (by decide), I'.2.2.2.2.2.1.2.1, if_neg (by omega), if_neg (by omega), if_neg (by omega), if_neg (by omega), if_neg (by omega), if_neg (by omega), if_neg (by omega), if_neg (by omega), if_neg (by omega), if_pos rfl]
        exact ⟨m, rfl, zFr.refl m⟩
      · rw [if_neg (by decide), if_neg (by decide), if_neg (by decide), if_neg (by decide), if_neg (by decide), if_neg (by decide), if_neg (by decide), if_neg (by decide), if_neg (by decide), if_neg (by decide), I'.2.2.2.1.2.2.2.1, if_neg (by omega), if_neg (by omega), if_neg (by omega), if_neg (by omega), if_neg (by omega), if_neg (by omega), if_neg (by omega), if_neg (by omega), if_neg (by omega), if_neg (by omega)]
        exact ⟨m, rfl, zFr.refl m⟩
    · have I1 := I'.keep f
      have r1 := I1.2.2.1.th 0
      have r1' := r1
      obtain ⟨ra, rb, rc, _⟩ := r1'
      unfold zAn f_X12_count
      have hk : k = 0 ∨ k = 1 ∨ k = 2 ∨ k = 3 ∨ k = 4 ∨ k = 5 ∨ k = 6 ∨ k = 7 ∨ k = 8 ∨ k = 9 ∨ k = 10 := by omega
      rcases hk with rfl | rfl | rfl | rfl | rfl | rfl | rfl | rfl | rfl | rfl | rfl
      · rw [if_pos (by decide), z_gdt (by decide)]
        rw [show Int32.toNatClampNeg (0 : Int32) = 0 from rfl, ra, if_pos rfl]
        exact ⟨_, _, rfl, z_th m' 0, z_th0 _ _, rfl⟩
      · rw [if_neg (by decide), if_pos (by decide), z_gdt (by decide)]
        rw [show Int32.toNatClampNeg (1 : Int32) = 1 from rfl, rb, if_neg (by omega), if_pos rfl]
        exact ⟨_, _, rfl, z_th m' 0, z_th0 _ _, rfl⟩
      · have h0 := s_outs_4 v r1 zF 0 (Nat.zero_le _) (zF_lt (by omega))
        rw [if_neg (by decide), if_neg (by decide), if_pos (by decide)]
        unfold f_X12_outlets
        rw [show f_X12_outlets_4 (z_sI m' 13 0 0 0) zF (0 : Int32) (0 : Int32) = _ from h0, Option.bind_some, if_neg (by omega), if_neg (by omega), if_pos rfl]
        exact ⟨_, _, rfl, z_th m' 0, z_th0 _ _, rfl⟩
      · rw [if_neg (by decide), if_neg (by decide), if_neg (by decide), if_pos (by decide), z_gdt (by decide)]
        rw [show Int32.toNatClampNeg (2 : Int32) = 2 from rfl, rc, if_neg (by omega), if_neg (by omega), if_neg (by omega), if_pos rfl]
        exact ⟨_, _, rfl, z_th m' 0, z_th0 _ _, rfl⟩
      · obtain ⟨m2, q1, q2, q3, q4⟩ := s_mlakes v r1
        rw [if_neg (by decide), if_neg (by decide), if_neg (by decide), if_neg (by decide), if_pos (by decide), q1, Option.bind_some, q4.1, if_neg (by omega), if_neg (by omega), if_neg (by omega), if_neg (by omega), if_pos rfl]
        exact ⟨_, m2, rfl, (q2.mono fun k i j => zPlk_m).x13, q2.t0 (by unfold zPlk; omega) (z_th0 _ _), rfl⟩
      · obtain ⟨m2, q1, q2, q3, q4⟩ := s_mwaters v r1
        have r2 : zMR (m2.1 23 0) a := by rw [q2.row (fun j => by unfold zPwa; omega)]; exact r1
        have h0 := s_cnt_109 v ⟨r2, q3.f, q4⟩ zF 0 (Nat.zero_le _) (zF_lt (by omega))
        rw [if_neg (by decide), if_neg (by decide), if_neg (by decide), if_neg (by decide), if_neg (by decide), if_pos (by decide), q1, Option.bind_some, show f_X12_count_109 zF (0 : Int32) (0 : Int32) m2 = _ from h0, if_neg (by omega), if_neg (by omega), if_neg (by omega), if_neg (by omega), if_neg (by omega), if_pos rfl]
        exact ⟨_, m2, rfl, (q2.mono fun k i j => zPwa_m).x13, q2.t0 (by unfold zPwa; omega) (z_th0 _ _), rfl⟩
      · obtain ⟨m2, q1, q2, q3, q4, q5⟩ := s_mstreams v r1
        rw [if_neg (by decide), if_neg (by decide), if_neg (by decide), if_neg (by decide), if_neg (by decide), if_neg (by decide), if_pos (by decide), q1, Option.bind_some, q5.1, if_neg (by omega), if_neg (by omega), if_neg (by omega), if_neg (by omega), if_neg (by omega), if_neg (by omega), if_pos rfl]
        exact ⟨_, m2, rfl, (q2.mono fun k i j => zPst_m).x13, q2.t0 (by unfold zPst; omega) (z_th0 _ _), rfl⟩
      · obtain ⟨m2, q1, q2, q3, q4⟩ := s_mdeps v r1
        rw [if_neg (by decide), if_neg (by decide), if_neg (by decide), if_neg (by decide), if_neg (by decide), if_neg (by decide), if_neg (by decide), if_pos (by decide), q1, Option.bind_some, q3, if_neg (by omega), if_neg (by omega), if_neg (by omega), if_neg (by omega), if_neg (by omega), if_neg (by omega), if_neg (by omega), if_pos rfl]
        exact ⟨_, m2, rfl, (q2.mono fun k i j => zPdm_m).x13, q2.t0 (by unfold zPdm; omega) (z_th0 _ _), rfl⟩
      · obtain ⟨m2, q1, q2, q3⟩ := s_looks v r1
        have r2 : zMR (m2.1 23 0) a := by rw [q2.row (fun j => by unfold zPlo; omega)]; exact r1
        have h0 := s_cnt_160 v r2 q3.1.2 zF 0 (Nat.zero_le _) (zF_lt (by omega))
        rw [if_neg (by decide), if_neg (by decide), if_neg (by decide), if_neg (by decide), if_neg (by decide), if_neg (by decide), if_neg (by decide), if_neg (by decide), if_pos (by decide), q1, Option.bind_some, show f_X12_count_160 zF (0 : Int32) (0 : Int32) m2 = _ from h0, if_neg (by omega), if_neg (by omega), if_neg (by omega), if_neg (by omega), if_neg (by omega), if_neg (by omega), if_neg (by omega), if_neg (by omega), if_pos rfl]
        exact ⟨_, m2, rfl, (q2.mono fun k i j => zPlo_m).x13, q2.t0 (by unfold zPlo; omega) (z_th0 _ _), rfl⟩
      · rw [if_neg (by decide), if_neg (by decide), if_neg (by decide), if_neg (by decide), if_neg (by decide), if_neg (by decide), if_neg (by decide), if_neg (by decide), if_neg (by decide), if_pos (by decide), zm_row, if_neg (by omega), I1.2.2.2.2.2.1.2.2.1, if_neg (by omega), if_neg (by omega), if_neg (by omega), if_neg (by omega), if_neg (by omega), if_neg (by omega), if_neg (by omega), if_neg (by omega), if_neg (by omega), if_pos rfl]
        exact ⟨_, _, rfl, z_th m' 0, z_th0 _ _, rfl⟩
      · rw [if_neg (by decide), if_neg (by decide), if_neg (by decide), if_neg (by decide), if_neg (by decide), if_neg (by decide), if_neg (by decide), if_neg (by decide), if_neg (by decide), if_neg (by decide), if_pos (by decide), zm_row, if_neg (by omega), I1.2.2.2.1.2.2.2.2.1, if_neg (by omega), if_neg (by omega), if_neg (by omega), if_neg (by omega), if_neg (by omega), if_neg (by omega), if_neg (by omega), if_neg (by omega), if_neg (by omega), if_neg (by omega)]
        exact ⟨_, _, rfl, z_th m' 0, z_th0 _ _, rfl⟩
  · refine zAg.ex Int32.toInt64 I'.of (x := 0) (k := 1) ?_ rfl fun m' f => ?_
    · unfold f_X11_count zCl
      rw [show (0 : Int32) = Int32.ofNat 0 from rfl, show (10 : Int32) = Int32.ofNat 10 from rfl, g1, zbx_r]
      exact ⟨m, rfl, zFr.refl m⟩
    · unfold zAn f_X12_count
      rw [if_neg (show ¬ x = (0 : Int32) from g0 0 (by omega) (by omega)), if_neg (show ¬ x = (1 : Int32) from g0 1 (by omega) (by omega)), if_neg (show ¬ x = (2 : Int32) from g0 2 (by omega) (by omega)), if_neg (show ¬ x = (3 : Int32) from g0 3 (by omega) (by omega)), if_neg (show ¬ x = (4 : Int32) from g0 4 (by omega) (by omega)), if_neg (show ¬ x = (5 : Int32) from g0 5 (by omega) (by omega)), if_neg (show ¬ x = (6 : Int32) from g0 6 (by omega) (by omega)), if_neg (show ¬ x = (7 : Int32) from g0 7 (by omega) (by omega)), if_neg (show ¬ x = (8 : Int32) from g0 8 (by omega) (by omega)), if_neg (show ¬ x = (9 : Int32) from g0 9 (by omega) (by omega)), if_neg (show ¬ x = (10 : Int32) from g0 10 (by omega) (by omega))]
      exact ⟨0, _, rfl, (z_th m' 0).trans (z_th _ 1), by decide, z_th0 _ _⟩
theorem t_errorPosition (I : zInv m) : zAg Int32.toInt64 (f_L_errorPosition m) f_X12_errorPosition := by
  obtain ⟨a, b, n, p, s, l, c, e, I'⟩ := I
  unfold f_L_errorPosition
  have he := I'.2.2.2.2.2.2
  cases e with
  | none =>
    refine zAg.ex Int32.toInt64 I'.of (x := 3) (k := 1) ?_ rfl fun m' f => ?_
    · unfold f_X11_errorPosition zCl
      rw [he.1, zo_none, if_pos rfl]
      exact ⟨m, rfl, zFr.refl m⟩
    · have h1 := (I'.keep f).2.2.2.2.2.2.2.1
      have hh : (z_sI m' 13 0 0 0).1 13 0 10 = m'.1 13 0 10 := by rw [zm_row, if_neg (by omega)]
      unfold zAn f_X12_errorPosition
      rw [hh, h1, zo_none, if_neg (by decide)]
      exact ⟨0, _, rfl, (z_th m' 0).trans (z_th _ 1), by decide, z_th0 _ _⟩
  | some q =>
    have := he.2.2 q rfl
    refine zAg.ok Int32.toInt64 I'.of (v := Int32.ofNat q) ?_ fun m' f => ?_
    · unfold f_X11_errorPosition zCl
      rw [he.1, zo_some, if_neg (zi_m1 (by omega))]
      exact ⟨m, rfl, zFr.refl m⟩
    · have h1 := (I'.keep f).2.2.2.2.2.2.2.1
      have hh : (z_sI m' 13 0 0 0).1 13 0 10 = m'.1 13 0 10 := by rw [zm_row, if_neg (by omega)]
      unfold zAn f_X12_errorPosition
      rw [hh, h1, zo_some, if_pos (zi_zl (by omega))]
      exact ⟨_, _, rfl, z_th m' 0, z_th0 _ _, rfl⟩
end
