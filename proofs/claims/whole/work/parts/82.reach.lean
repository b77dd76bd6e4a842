/-! reach. -/
section
variable {m : zM} {a : zG}
theorem zG.rno_at : ∀ {c q : Nat}, q < a.rno c → ∃ o, o < c ∧ a.beg o = true ∧ a.rno o = q
  | 0, q, h => absurd h (Nat.not_lt_zero _)
  | c + 1, q, h => by
    rw [zG.rno_s] at h
    by_cases w : q < a.rno c
    · obtain ⟨o, h1, h2, h3⟩ := zG.rno_at w
      exact ⟨o, by omega, h2, h3⟩
    · by_cases w2 : a.beg c = true
      · rw [if_pos w2] at h
        exact ⟨c, by omega, w2, by omega⟩
      · rw [if_neg w2] at h
        exact absurd h w
theorem zMs.eq (v : zGV a) (h : zMs a m) {q d : Nat} (hq : q < 2147483648) (hd : d < a.n) : m.1 20 65 d = Int32.ofNat q ↔ a.str d = true ∧ a.rl d = q := by
  have n64 := v.n64
  rw [(h.2 d hd).1]
  by_cases w : a.str d = true
  · have f2 := zG.rno_le (a := a) (a.hd d)
    have f3 := zG.beg_n (zG.hd_beg v d hd w)
    have f4 : a.rl d = a.rno (a.hd d) := rfl
    rw [if_pos w, zi_eq (by omega) hq]
    exact ⟨fun y => ⟨w, y⟩, fun y => y.2⟩
  · rw [if_neg w]
    exact ⟨fun y => absurd y.symm (zi_m1 hq), fun y => absurd y.1 w⟩
theorem zG.beg_rl {b : Nat} (hb : a.beg b = true) : a.rl b = a.rno b := by
  unfold zG.rl
  rw [zG.beg_hd hb]
theorem s_hd_2 (v : zGV a) (r : zMW a m) (h : zMs a m) {b : Nat} (hb : a.beg b = true) : ∀ (j c : Nat), c ≤ b → b - c < j → f_X12_head_2 m j (Int32.ofNat (a.rno b)) (Int32.ofNat c) = some (Int32.ofNat b)
  | 0, _, _, h => absurd h (Nat.not_lt_zero _)
  | j + 1, c, hc, hj => by
    have n64 := v.n64
    have hbn := zG.beg_n hb
    have rb := zG.rno_le (a := a) b
    have fb := zG.fn_b v c
    have fb2 := zG.fn_b v b
    have hq := zG.beg_iff.mp hb
    unfold f_X12_head_2
    rw [z_gdt (z_in64 (by omega)), zi_nat (by omega), zi_s]
    by_cases he : c = b
    · rw [he, if_pos ((zMs.eq v h (by omega) hbn).mpr ⟨hq.1, zG.beg_rl hb⟩), s_feeders v r hbn, Option.bind_some, if_neg (by rw [show (1 : Int32) = Int32.ofNat 1 from rfl, zi_eq (by omega) (by omega)]; exact hq.2)]
    · have ih := s_hd_2 v r h hb j (c + 1) (by omega) (by omega)
      by_cases w : a.str c = true ∧ a.rl c = a.rno b
      · have w2 : a.fn c = 1 := Classical.byContradiction fun y => by
          have hb2 := zG.beg_iff.mpr ⟨w.1, y⟩
          have h3 := w.2
          rw [zG.beg_rl hb2] at h3
          exact he (zG.rno_inj hb2 hb h3)
        rw [if_pos ((zMs.eq v h (by omega) (by omega)).mpr w), s_feeders v r (by omega), Option.bind_some, if_pos (by rw [w2]; rfl)]
        exact ih
      · rw [if_neg (fun y => w ((zMs.eq v h (by omega) (by omega)).mp y))]
        exact ih
theorem s_hd (v : zGV a) (r : zMW a m) (h : zMs a m) {b : Nat} (hb : a.beg b = true) : f_X12_head (Int32.ofNat (a.rno b)) m = some (Int32.ofNat b) :=
  s_hd_2 v r h hb zF 0 (Nat.zero_le _) (zF_lt (by have := v.n64; have := zG.beg_n hb; omega))
theorem s_tl_6 (v : zGV a) (r : zMW a m) (h : zMs a m) {q : Nat} (hq : q < 2147483648) : ∀ (j c : Nat), c < a.n → a.str c = true → a.rl c = q → a.st c < j → f_X12_tail_6 m j (Int32.ofNat q) (Int32.ofNat c) = some (Int32.ofNat (a.tl c)) := by
  intro j
  induction j with
  | zero => exact fun _ _ _ _ h => absurd h (Nat.not_lt_zero _)
  | succ j ih =>
    intro c hc hs hr hj
    have n64 := v.n64
    unfold f_X12_tail_6
    rw [s_onward v r.1 r.2.1 hc, Option.bind_some]
    cases ht : a.to c with
    | none =>
      have hn : a.nx c = none := by
        unfold zG.nx
        rw [ht]
      rw [zo_none, if_pos (by decide), zG.tl0 hn]
    | some y =>
      have hy := zG.to_n v hc ht
      have hst := zG.st1 v hc ht
      rw [zo_some, if_neg (zi_nn (by omega)), Option.bind_some, z_gdt (z_in64 (by omega)), zi_nat (by omega)]
      by_cases w : a.str y = true ∧ a.rl y = q
      · rw [if_pos ((zMs.eq v h hq hy).mpr w), Option.bind_some]
        cases hn : a.nx c with
        | none => exact absurd (w.2.trans hr.symm) ((zG.nx_iff v hs).mp hn y ht w.1)
        | some y' =>
          have h1 := (zG.nx_to hn).1
          rw [ht] at h1
          cases h1
          rw [zG.tl1 v hc hn]
          exact ih y hy w.1 w.2 (by omega)
      · rw [if_neg (fun z => w ((zMs.eq v h hq hy).mp z)), zG.tl0]
        exact (zG.nx_iff v hs).mpr fun y' q1 q2 q3 => by
          rw [ht] at q1
          cases q1
          exact w ⟨q2, q3.trans hr⟩
theorem s_tl (v : zGV a) (r : zMW a m) (h : zMs a m) {b : Nat} (hb : a.beg b = true) : f_X12_tail (Int32.ofNat (a.rno b)) m = some (Int32.ofNat (a.tl b)) := by
  have n64 := v.n64
  have hbn := zG.beg_n hb
  have rb := zG.rno_le (a := a) b
  have := zG.st_lt v hbn
  unfold f_X12_tail
  rw [s_hd v r h hb, Option.bind_some]
  exact s_tl_6 v r h (by omega) zF b hbn (zG.beg_iff.mp hb).1 (zG.beg_rl hb) (zF_lt (by omega))
theorem s_rch_85 (v : zGV a) (r : zMR (m.1 23 0) a) (h : zMs a m) {q : Nat} (hq : q < 2147483648) : ∀ (j c : Nat), c ≤ a.n → a.n - c < j → f_X12_reach_85 j (Int32.ofNat q) (Int32.ofNat (z_cnt (fun y => a.str y && decide (a.rl y = q)) c)) (Int32.ofNat c) m = some (Int32.ofNat (z_cnt (fun y => a.str y && decide (a.rl y = q)) a.n), m)
  | 0, _, _, h => absurd h (Nat.not_lt_zero _)
  | j + 1, c, hc, hj => by
    have n64 := v.n64
    unfold f_X12_reach_85
    rw [s_mcells r, Option.bind_some]
    by_cases he : c = a.n
    · rw [he, if_pos (by rw [zi_le (by omega) (by omega)]; omega)]
    · have hcn : c < a.n := by omega
      have ih := s_rch_85 v r h hq j (c + 1) hcn (by omega)
      have e : z_cnt (fun y => a.str y && decide (a.rl y = q)) (c + 1) = z_cnt (fun y => a.str y && decide (a.rl y = q)) c + if (a.str c && decide (a.rl c = q)) = true then 1 else 0 := rfl
      rw [e] at ih
      rw [if_neg (by rw [zi_le (by omega) (by omega)]; omega), z_gdt (z_in64 (by omega)), zi_nat (by omega), zi_s, zi_s]
      by_cases w : a.str c = true ∧ a.rl c = q
      · rw [if_pos ((zMs.eq v h hq hcn).mpr w)]
        rw [if_pos (by rw [w.1, w.2]; simp)] at ih
        exact ih
      · rw [if_neg (fun y => w ((zMs.eq v h hq hcn).mp y))]
        rw [if_neg (fun y => w (by rw [Bool.and_eq_true, decide_eq_true_eq] at y; exact y))] at ih
        exact ih
/-- what lies behind a reach -/
noncomputable def zG.bh (a : zG) (t : Nat) : Int32 := match a.to t with
  | none => -1
  | some y => if a.str y = true then Int32.ofNat (a.rl y) else -1
theorem s_behind (v : zGV a) {s : Nat → Nat} (t : zTr a m s) (h : zSt a m) {b : Nat} (hb : a.beg b = true) : f_X8_reachBehind (Int32.ofNat (a.rno b)) m = some (a.bh (a.tl b)) := by
  have n64 := v.n64
  have hbn := zG.beg_n hb
  have hbs := (zG.beg_iff.mp hb).1
  have rb := zG.rno_le (a := a) b
  obtain ⟨t1, t2, t3⟩ := zG.tl_of v b hbn hbs
  have tn : a.tl b < a.n := (zG.str_iff.mp t1).1
  unfold f_X8_reachBehind
  rw [s_at' 20 54 (show a.rno b < 64 by omega), Option.bind_some, (h.2.2.2.2.2 b hb).2.1, s_at' 20 39 (show a.tl b < 64 by omega), Option.bind_some, (t.2.2.2.1 _ tn).2.2]
  unfold zG.bh
  cases ht : a.to (a.tl b) with
  | none => rw [s_beginn, Option.bind_some, if_pos (by decide)]
  | some y =>
    have hy := zG.to_n v tn ht
    rw [zo_some, s_begin v h.1 h.2.1 hy, Option.bind_some]
    cases hs : a.str y with
    | false =>
      have : a.beg y = false := by
        unfold zG.beg
        rw [hs]
        rfl
      rw [this, if_pos (by decide)]
      show _ = some (if a.str y = true then Int32.ofNat (a.rl y) else -1)
      rw [hs]
      rfl
    | true =>
      have : a.beg y = true := zG.beg_iff.mpr ⟨hs, zG.nx_none t3 ht hs⟩
      rw [this, if_neg (by decide), s_at' 20 52 (show y < 64 by omega), Option.bind_some, h.2.2.2.2.1 y hy hs]
      show _ = some (if a.str y = true then Int32.ofNat (a.rl y) else -1)
      rw [hs]
      rfl
theorem t_reach (I : zInv m) (x : Int32) (y : Int32) : zAg Int32.toInt64 (f_L_reach x y m) (f_X12_reach x y) := by
  obtain ⟨a, b, n, p, s, l, c, e, I'⟩ := I
  have v := I'.1
  have n64 := v.n64
  have nn := zG.rno_le (a := a) a.n
  obtain ⟨m1, s1, h1, h2, h3, h4, h5, h6⟩ := s_streams v I'.2.1
  unfold f_L_reach
  rcases z_idx x (k := a.rno a.n) (by omega) with ⟨q, hq, rfl, hin⟩ | ⟨hx, hin⟩
  · obtain ⟨o, ho, hb, rfl⟩ := zG.rno_at hq
    have hs := (zG.beg_iff.mp hb).1
    rcases z_rng y (lo := 0) (hi := 4) (by omega) (by omega) with ⟨k, _, k2, rfl, g1, g2⟩ | ⟨g0, g1, g2⟩
    · have hk : k = 0 ∨ k = 1 ∨ k = 2 ∨ k = 3 ∨ k = 4 := by omega
      refine zAg.ok Int32.toInt64 I'.of (v := if k = 4 then a.bh (a.tl o) else Int32.ofNat (if k = 0 then o else if k = 1 then a.tl o else if k = 2 then z_cnt (fun y => a.str y && decide (a.rl y = a.rno o)) a.n else a.or o)) ?_ fun m' f => ?_
      · obtain ⟨b1, b2, b3⟩ := h6.2.2.2.2.2 o hb
        unfold f_X11_reach zCl
        rw [h1, Option.bind_some, if_neg (zi_nn (by omega)), h6.2.2.1, if_pos (by rw [zi_lt (by omega) (by omega)]; exact hq), show (0 : Int32) = Int32.ofNat 0 from rfl, show (4 : Int32) = Int32.ofNat 4 from rfl, g1, zbx_l, s_at' 20 53 (show a.rno o < 64 by omega), Option.bind_some, b1]
        refine ⟨m1, ?_, h2⟩
        rcases hk with rfl | rfl | rfl | rfl | rfl
        · rw [if_pos (by decide), if_neg (by omega), if_pos rfl]
        · rw [if_neg (by decide), if_pos (by decide), s_at' 20 54 (show a.rno o < 64 by omega), Option.bind_some, b2, if_neg (by omega), if_neg (by omega), if_pos rfl]
        · rw [if_neg (by decide), if_neg (by decide), if_pos (by decide), s_at' 20 55 (show a.rno o < 64 by omega), Option.bind_some, b3, if_neg (by omega), if_neg (by omega), if_neg (by omega), if_pos rfl]
        · rw [if_neg (by decide), if_neg (by decide), if_neg (by decide), if_pos (by decide), s_at' 20 48 (show o < 64 by omega), Option.bind_some, h6.2.2.2.1 o ho, if_pos hs, if_neg (by omega), if_neg (by omega), if_neg (by omega), if_neg (by omega)]
        · rw [if_neg (by decide), if_neg (by decide), if_neg (by decide), if_neg (by decide), s_behind v h4 h6 hb, Option.bind_some, if_pos rfl]
      · have r1 := (I'.keep f).2.2.1.th 0
        obtain ⟨m2, q1, q2, q3, q4, q5⟩ := s_mstreams v r1
        have fr := (q2.mono fun k i j => zPst_m).x13
        have t0 : m2.1 13 0 0 = 0 := q2.t0 (by unfold zPst; omega) (z_th0 _ _)
        unfold zAn f_X12_reach
        rw [q1, Option.bind_some, q5.1, hin, Option.bind_some, if_neg (by decide)]
        refine ⟨_, m2, ?_, fr, t0, rfl⟩
        rcases hk with rfl | rfl | rfl | rfl | rfl
        · rw [if_pos (by decide), s_hd v q4 q5 hb, Option.bind_some, if_neg (by omega), if_pos rfl]
        · rw [if_neg (by decide), if_pos (by decide), s_tl v q4 q5 hb, Option.bind_some, if_neg (by omega), if_neg (by omega), if_pos rfl]
        · have h0 := s_rch_85 v q4.1 q5 (q := a.rno o) (by omega) zF 0 (Nat.zero_le _) (zF_lt (by omega))
          rw [if_neg (by decide), if_neg (by decide), if_pos (by decide), show f_X12_reach_85 zF (Int32.ofNat (a.rno o)) (0 : Int32) (0 : Int32) m2 = _ from h0, if_neg (by omega), if_neg (by omega), if_neg (by omega), if_pos rfl]
        · rw [if_neg (by decide), if_neg (by decide), if_neg (by decide), if_pos (by decide), s_hd v q4 q5 hb, Option.bind_some, z_gdt (z_in64 (by omega)), zi_nat (by omega), (q5.2 o ho).2, if_pos hs, if_neg (by omega), if_neg (by omega), if_neg (by omega), if_neg (by omega)]
        · obtain ⟨t1, t2, t3⟩ := zG.tl_of v o ho hs
          have tn : a.tl o < a.n := (zG.str_iff.mp t1).1
          rw [if_neg (by decide), if_neg (by decide), if_neg (by decide), if_neg (by decide), if_pos (by decide), s_tl v q4 q5 hb, Option.bind_some, s_onward v q4.1 q4.2.1 tn, Option.bind_some, if_pos rfl]
          unfold zG.bh
          cases ht : a.to (a.tl o) with
          | none => rw [zo_none, if_pos (by decide)]
          | some y =>
            have hy := zG.to_n v tn ht
            rw [zo_some, if_neg (zi_nn (by omega)), z_gdt (z_in64 (by omega)), zi_nat (by omega), (q5.2 y hy).1]
    · refine zAg.ex Int32.toInt64 I'.of (x := 0) (k := 2) ?_ rfl fun m' f => ?_
      · unfold f_X11_reach zCl
        rw [h1, Option.bind_some, if_neg (zi_nn (by omega)), h6.2.2.1, if_pos (by rw [zi_lt (by omega) (by omega)]; exact hq), show (0 : Int32) = Int32.ofNat 0 from rfl, show (4 : Int32) = Int32.ofNat 4 from rfl, g1, zbx_r]
        exact ⟨m1, rfl, h2⟩
      · have r1 := (I'.keep f).2.2.1.th 0
        obtain ⟨m2, q1, q2, q3, q4, q5⟩ := s_mstreams v r1
        unfold zAn f_X12_reach
        rw [q1, Option.bind_some, q5.1, hin, Option.bind_some, if_neg (by decide), if_neg (show ¬ y = (0 : Int32) from g0 0 (by omega) (by omega)), if_neg (show ¬ y = (1 : Int32) from g0 1 (by omega) (by omega)), if_neg (show ¬ y = (2 : Int32) from g0 2 (by omega) (by omega)), if_neg (show ¬ y = (3 : Int32) from g0 3 (by omega) (by omega)), if_neg (show ¬ y = (4 : Int32) from g0 4 (by omega) (by omega))]
        exact ⟨0, _, rfl, ((q2.mono fun k i j => zPst_m).x13).trans (z_th _ 2), by decide, z_th0 _ _⟩
  · refine zAg.ex Int32.toInt64 I'.of (x := 1) (k := 1) ?_ rfl fun m' f => ?_
    · unfold f_X11_reach zCl
      rw [h1, Option.bind_some, h6.2.2.1]
      refine ⟨m1, ?_, h2⟩
      rcases hx with w | ⟨q, qb, q1, rfl⟩
      · rw [if_pos w]
      · rw [if_neg (zi_nn qb), if_neg (by rw [zi_lt qb (by omega)]; omega)]
    · have r1 := (I'.keep f).2.2.1.th 0
      obtain ⟨m2, q1, q2, q3, q4, q5⟩ := s_mstreams v r1
      unfold zAn f_X12_reach
      rw [q1, Option.bind_some, q5.1, hin, Option.bind_some, if_pos (by decide)]
      exact ⟨0, _, rfl, ((q2.mono fun k i j => zPst_m).x13).trans (z_th _ 1), by decide, z_th0 _ _⟩
end
