/-! Calls that ask: flows, waters, streams, lakes. -/
theorem zbx_l {β δ : Type} (u : β) (m : zM) (B : β → zM → Option ((δ ⊕ Nat) × zM)) : z_bx (some (.inl u, m)) B id = B u m := rfl
theorem zbx_r {β δ : Type} (u : Nat) (m : zM) (B : β → zM → Option ((δ ⊕ Nat) × zM)) : z_bx (some (.inr u, m)) B id = some (.inr u, m) := rfl
theorem zP13 {k i j : Nat} (f : zSm k i j) : True := trivial
section
variable {m : zM}
theorem zFr.t0 {m m' : zM} {P : Nat → Nat → Nat → Prop} (f : zFr P m m') (h : ¬ P 13 0 0) {u : Int32} (e : m.1 13 0 0 = u) : m'.1 13 0 0 = u := by
  rw [(f 13 0 0 h).1]
  exact e
theorem t_flow (I : zInv m) (x : Int32) : zAg Int32.toInt64 (f_L_flow x m) (f_X12_flow x) := by
  obtain ⟨a, b, n, p, s, l, c, e, I'⟩ := I
  have v := I'.1
  have n64 := v.n64
  unfold f_L_flow
  rcases z_cell v x with ⟨d, hd, rfl⟩ | hx
  · by_cases ho : a.ou d = true
    · refine zAg.ex Int32.toInt64 I'.of (x := 3) (k := 2) ?_ rfl fun m' f => ?_
      · unfold f_X11_flow zCl
        obtain ⟨m1, s1, h1, h2, h3, h4, h5⟩ := s_flows v (show 0 < 11 by omega) I'.2.1
        rw [s_req v I'.2.1 hd, zbx_l, h1, Option.bind_some, s_at' 20 37 (show d < 64 by omega), Option.bind_some, (h5.2.2.2.1 d hd).1, (zG.fd_none v hd).mpr ho, zo_none, if_pos rfl]
        exact ⟨m1, rfl, h2⟩
      · have I1 := I'.keep f
        have r1 := I1.2.2.1.th 0
        unfold zAn f_X12_flow
        rw [s_isCell v r1 hd, Option.bind_some, if_neg (by decide), s_mout r1 (by omega), Option.bind_some, ho, if_neg (by decide)]
        exact ⟨0, _, rfl, (z_th m' 0).trans (z_th _ 2), by decide, z_th0 _ _⟩
    · have ho' : a.ou d = false := by cases q : a.ou d <;> simp_all
      have hne : a.fd d ≠ none := fun q => ho ((zG.fd_none v hd).mp q)
      refine zAg.ok Int32.toInt64 I'.of (v := zo (a.fd d)) ?_ fun m' f => ?_
      · unfold f_X11_flow zCl
        obtain ⟨m1, s1, h1, h2, h3, h4, h5⟩ := s_flows v (show 0 < 11 by omega) I'.2.1
        rw [s_req v I'.2.1 hd, zbx_l, h1, Option.bind_some, s_at' 20 37 (show d < 64 by omega), Option.bind_some, (h5.2.2.2.1 d hd).1]
        cases hf : a.fd d with
        | none => exact absurd hf hne
        | some q =>
          have := (zG.fd_lt hf).1
          rw [zo_some, if_neg (zi_m1 (by omega))]
          exact ⟨m1, rfl, h2⟩
      · have I1 := I'.keep f
        have r1 := I1.2.2.1.th 0
        obtain ⟨m2, q1, q2, q3⟩ := s_looks v r1
        unfold zAn f_X12_flow
        rw [s_isCell v r1 hd, Option.bind_some, if_neg (by decide), s_mout r1 (by omega), Option.bind_some, ho', if_pos (by decide), q1, Option.bind_some, z_gdt (z_in64 (by omega)), zi_nat (by omega), (q3.2 d hd).1]
        exact ⟨_, m2, rfl, (z_th m' 0).trans (q2.mono fun k i j => zPlo_m), q2.t0 (by unfold zPlo; omega) (z_th0 _ _), rfl⟩
  · refine zAg.ex Int32.toInt64 I'.of (x := 1) (k := 1) ?_ rfl fun m' f => ?_
    · unfold f_X11_flow zCl
      rw [s_reqn v I'.2.1 hx]
      exact ⟨m, rfl, zFr.refl m⟩
    · have I1 := I'.keep f
      unfold zAn f_X12_flow
      rw [s_isCelln v (I1.2.2.1.th 0) hx, Option.bind_some, if_pos (by decide)]
      exact ⟨0, _, rfl, (z_th m' 0).trans (z_th _ 1), by decide, z_th0 _ _⟩
theorem t_why (I : zInv m) (x : Int32) (y : Int32) : zAg Int32.toInt64 (f_L_why x y m) (f_X12_why x y) := by
  obtain ⟨a, b, n, p, s, l, c, e, I'⟩ := I
  have v := I'.1
  have n64 := v.n64
  unfold f_L_why
  rcases z_cell v x with ⟨d, hd, rfl⟩ | hx
  · rcases z_rng y (lo := 0) (hi := 2) (by omega) (by omega) with ⟨k, _, k2, rfl, g1, g2⟩ | ⟨g0, g1, g2⟩
    · refine zAg.ok Int32.toInt64 I'.of (v := if k = 0 then (if a.ou d = true then 0 else if a.rk d = 0 then 1 else 2) else if k = 1 then Int32.ofNat (a.am d) else Int32.ofNat (a.rk d)) ?_ fun m' f => ?_
      · unfold f_X11_why zCl
        obtain ⟨m1, s1, h1, h2, h3, h4, h5⟩ := s_flows v (show 0 < 11 by omega) I'.2.1
        rw [s_req v I'.2.1 hd, zbx_l, show (0 : Int32) = Int32.ofNat 0 from rfl, show (2 : Int32) = Int32.ofNat 2 from rfl, g1, zbx_l, h1, Option.bind_some]
        refine ⟨m1, ?_, h2⟩
        by_cases k0 : k = 0
        · rw [if_pos (by rw [k0]), if_pos k0, s_has _ (show d < 64 by omega), Option.bind_some, h5.2.1 d (by omega)]
          have h0 := zG.rk0 (a := a) hd
          cases hf : a.fla d with
          | true =>
            have o1 : ¬ a.ou d = true := fun q => by unfold zG.fla at hf; rw [q] at hf; simp at hf
            have o2 : ¬ a.rk d = 0 := fun q => by rw [h0.mp q] at hf; cases hf
            rw [if_neg (by decide), if_neg o1, if_neg o2]
          | false =>
            rw [if_pos (by decide), s_outlet v h3 hd, Option.bind_some]
            cases ho : a.ou d with
            | true => rw [if_neg (by decide), if_pos rfl]
            | false => rw [if_pos (by decide), if_neg Bool.false_ne_true, if_pos (h0.mpr hf)]
        · rw [if_neg (by rw [zi_eq (by omega) (by omega)]; exact k0), if_neg k0]
          by_cases k1 : k = 1
          · rw [if_pos (by rw [k1]; rfl), if_pos k1, s_at' 20 38 (show d < 64 by omega), Option.bind_some, (h5.2.2.2.1 d hd).2.1]
          · rw [if_neg (by rw [show (1 : Int32) = Int32.ofNat 1 from rfl, zi_eq (by omega) (by omega)]; exact k1), if_neg k1, s_at' 20 36 (show d < 64 by omega), Option.bind_some, h5.2.2.1 d hd]
      · have I1 := I'.keep f
        have r1 := I1.2.2.1.th 0
        obtain ⟨m2, q1, q2, q3⟩ := s_looks v r1
        have r2 : zMR (m2.1 23 0) a := by rw [q2.row (fun j => by unfold zPlo; omega)]; exact r1
        have rk := zG.rk63 v hd
        unfold zAn f_X12_why
        rw [s_isCell v r1 hd, Option.bind_some, if_neg (by decide), q1, Option.bind_some]
        refine ⟨_, m2, ?_, (z_th m' 0).trans (q2.mono fun k i j => zPlo_m), q2.t0 (by unfold zPlo; omega) (z_th0 _ _), rfl⟩
        by_cases k0 : k = 0
        · rw [if_pos (by rw [k0]; rfl), if_pos k0, s_mout r2 (by omega), Option.bind_some]
          cases ho : a.ou d with
          | true => rw [if_neg (by decide), if_pos rfl]
          | false =>
            rw [if_pos (by decide), if_neg Bool.false_ne_true, z_gdt (z_in64 (by omega)), zi_nat (by omega), q3.1.2 d hd]
            by_cases w : a.rk d = 0
            · rw [if_pos (by rw [w]; rfl), if_pos w]
            · rw [if_neg (by rw [zi_0 (by omega)]; exact w), if_neg w]
        · rw [if_neg (by rw [show (0 : Int32) = Int32.ofNat 0 from rfl, zi_eq (by omega) (by omega)]; exact k0), if_neg k0]
          by_cases k1 : k = 1
          · rw [if_pos (by rw [k1]; rfl), if_pos k1, z_gdt (z_in64 (by omega)), zi_nat (by omega), (q3.2 d hd).2]
          · rw [if_neg (by rw [show (1 : Int32) = Int32.ofNat 1 from rfl, zi_eq (by omega) (by omega)]; exact k1), if_neg k1, if_pos (by rw [show k = 2 by omega]; rfl), z_gdt (z_in64 (by omega)), zi_nat (by omega), q3.1.2 d hd]
    · refine zAg.ex Int32.toInt64 I'.of (x := 0) (k := 2) ?_ rfl fun m' f => ?_
      · unfold f_X11_why zCl
        rw [s_req v I'.2.1 hd, zbx_l, show (0 : Int32) = Int32.ofNat 0 from rfl, show (2 : Int32) = Int32.ofNat 2 from rfl, g1, zbx_r]
        exact ⟨m, rfl, zFr.refl m⟩
      · have I1 := I'.keep f
        have r1 := I1.2.2.1.th 0
        obtain ⟨m2, q1, q2, q3⟩ := s_looks v r1
        unfold zAn f_X12_why
        rw [s_isCell v r1 hd, Option.bind_some, if_neg (by decide), q1, Option.bind_some, if_neg (show ¬ y = (0 : Int32) from g0 0 (by omega) (by omega)), if_neg (show ¬ y = (1 : Int32) from g0 1 (by omega) (by omega)), if_neg (show ¬ y = (2 : Int32) from g0 2 (by omega) (by omega))]
        exact ⟨0, _, rfl, ((z_th m' 0).trans (q2.mono fun k i j => zPlo_m)).trans (z_th _ 2), by decide, z_th0 _ _⟩
  · refine zAg.ex Int32.toInt64 I'.of (x := 1) (k := 1) ?_ rfl fun m' f => ?_
    · unfold f_X11_why zCl
      rw [s_reqn v I'.2.1 hx]
      exact ⟨m, rfl, zFr.refl m⟩
    · have I1 := I'.keep f
      unfold zAn f_X12_why
      rw [s_isCelln v (I1.2.2.1.th 0) hx, Option.bind_some, if_pos (by decide)]
      exact ⟨0, _, rfl, (z_th m' 0).trans (z_th _ 1), by decide, z_th0 _ _⟩
theorem s_ups_35 {a : zG} (v : zGV a) {m : zM} (r : zMR (m.1 23 0) a) (h : zMF a m) {g : Nat} (hg : g < a.n) {A : Int64} (hA : ∀ d, d < 64 → zb A d = (decide (d < a.n) && a.on g d)) : ∀ (j c : Nat) (x : Int64), c ≤ a.n → a.n - c < j → (∀ d, d < 64 → zb x d = (decide (d < c) && a.on g d)) → f_X12_upstream_35 j (Int32.ofNat g) x (Int32.ofNat c) m = some (A, m)
  | 0, _, _, _, h, _ => absurd h (Nat.not_lt_zero _)
  | j + 1, c, x, hc, hj, hx => by
    have n64 := v.n64
    unfold f_X12_upstream_35
    rw [s_mcells r, Option.bind_some]
    by_cases he : c = a.n
    · subst he
      rw [if_pos (by rw [zi_le (by omega) (by omega)]; omega)]
      congr 2
      exact zb_ext fun d hd => by rw [hx d hd, hA d hd]
    · have hcn : c < a.n := by omega
      have hj2 : a.n - (c + 1) < j := by omega
      rw [if_neg (by rw [zi_le (by omega) (by omega)]; omega), s_leadsTo v r h hg hcn, Option.bind_some, zi_s]
      cases hq : a.on g c with
      | false =>
        rw [if_pos (by decide)]
        refine s_ups_35 v r h hg hA j (c + 1) x hcn hj2 fun d hd => ?_
        rw [hx d hd]
        by_cases z : d = c
        · rw [z, hq]; simp
        · have : d < c ↔ d < c + 1 := by omega
          simp only [this]
      | true =>
        rw [if_neg (by decide)]
        refine s_ups_35 v r h hg hA j (c + 1) _ hcn hj2 fun d hd => ?_
        rw [zb_or, hx d hd, zb_one (by omega) hd]
        by_cases z : d = c
        · rw [z, hq]; simp
        · have : d < c ↔ d < c + 1 := by omega
          simp [z, this]
theorem t_upstream (I : zInv m) (x : Int32) : zAg (fun u : Int64 => u) (f_L_upstream x m) (f_X12_upstream x) := by
  obtain ⟨a, b, n, p, s, l, c, e, I'⟩ := I
  have v := I'.1
  have n64 := v.n64
  unfold f_L_upstream
  rcases z_cell v x with ⟨d, hd, rfl⟩ | hx
  · obtain ⟨m1, s1, h1, h2, h3, h4, h5⟩ := s_flows v (show 0 < 11 by omega) I'.2.1
    obtain ⟨A, a1, a2⟩ := s_above v h5 hd
    refine zAg.ok (fun u : Int64 => u) I'.of (v := A) ?_ fun m' f => ?_
    · unfold f_X11_upstream zCl
      rw [s_req v I'.2.1 hd, zbx_l, h1, Option.bind_some, a1, Option.bind_some]
      exact ⟨m1, rfl, h2⟩
    · have I1 := I'.keep f
      have r1 := I1.2.2.1.th 0
      obtain ⟨m2, q1, q2, q3⟩ := s_looks v r1
      have r2 : zMR (m2.1 23 0) a := by rw [q2.row (fun j => by unfold zPlo; omega)]; exact r1
      unfold zAn f_X12_upstream
      rw [s_isCell v I1.2.2.1 hd, Option.bind_some, if_neg (by decide)]
      unfold f_X12_upstream_14
      rw [z_th0, if_pos (by decide), q1, Option.bind_some]
      exact ⟨A, m2, s_ups_35 v r2 q3.f hd a2 zF 0 0 (Nat.zero_le _) (zF_lt (by omega)) (fun d _ => by rw [zb_0]; simp), (z_th m' 0).trans (q2.mono fun k i j => zPlo_m), q2.t0 (by unfold zPlo; omega) (z_th0 _ _), rfl⟩
  · refine zAg.ex (fun u : Int64 => u) I'.of (x := 1) (k := 1) ?_ rfl fun m' f => ?_
    · unfold f_X11_upstream zCl
      rw [s_reqn v I'.2.1 hx]
      exact ⟨m, rfl, zFr.refl m⟩
    · have I1 := I'.keep f
      unfold zAn f_X12_upstream
      rw [s_isCelln v I1.2.2.1 hx, Option.bind_some, if_pos (by decide)]
      unfold f_X12_upstream_14
      rw [z_th0, if_neg (by decide)]
      exact ⟨0, _, rfl, z_th _ 1, by decide, z_th0 _ _⟩
theorem t_water (I : zInv m) (x : Int32) (y : Int32) : zAg Int32.toInt64 (f_L_water x y m) (f_X12_water x y) := by
  obtain ⟨a, b, n, p, s, l, c, e, I'⟩ := I
  have v := I'.1
  have n64 := v.n64
  unfold f_L_water
  rcases z_cell v x with ⟨d, hd, rfl⟩ | hx
  · rcases z_rng y (lo := 0) (hi := 3) (by omega) (by omega) with ⟨k, _, k2, rfl, g1, g2⟩ | ⟨g0, g1, g2⟩
    · refine zAg.ok Int32.toInt64 I'.of (v := if k = 0 then Int32.ofNat (a.inf d) else if k = 1 then Int32.ofNat (a.wa d) else if k = 2 then Int32.ofNat (a.sos d) else Int32.ofNat (a.out d)) ?_ fun m' f => ?_
      · unfold f_X11_water zCl
        obtain ⟨m1, s1, h1, h2, h3, h4, h5, h6, h7⟩ := s_waters v (show 0 < 11 by omega) I'.2.1
        obtain ⟨w1, w2, w3⟩ := h7 d hd
        rw [s_req v I'.2.1 hd, zbx_l, show (0 : Int32) = Int32.ofNat 0 from rfl, show (3 : Int32) = Int32.ofNat 3 from rfl, g1, zbx_l, h1, Option.bind_some]
        refine ⟨m1, ?_, h2⟩
        by_cases k0 : k = 0
        · rw [if_pos (by rw [k0]), if_pos k0, s_at' 20 44 (show d < 64 by omega), Option.bind_some, h6 d hd]
        · rw [if_neg (by rw [zi_eq (by omega) (by omega)]; exact k0), if_neg k0]
          by_cases k1 : k = 1
          · rw [if_pos (by rw [k1]; rfl), if_pos k1, s_at' 20 45 (show d < 64 by omega), Option.bind_some, w1]
          · rw [if_neg (by rw [show (1 : Int32) = Int32.ofNat 1 from rfl, zi_eq (by omega) (by omega)]; exact k1), if_neg k1]
            by_cases k2' : k = 2
            · rw [if_pos (by rw [k2']; rfl), if_pos k2', s_at' 20 46 (show d < 64 by omega), Option.bind_some, w2]
            · rw [if_neg (by rw [show (2 : Int32) = Int32.ofNat 2 from rfl, zi_eq (by omega) (by omega)]; exact k2'), if_neg k2', s_at' 20 47 (show d < 64 by omega), Option.bind_some, w3]
      · have I1 := I'.keep f
        have r1 := I1.2.2.1.th 0
        obtain ⟨m2, q1, q2, q3, q4⟩ := s_mwaters v r1
        have r2 : zMR (m2.1 23 0) a := by rw [q2.row (fun j => by unfold zPwa; omega)]; exact r1
        obtain ⟨so, o1, o2⟩ := s_soaks_ex v r2 hd
        have o3 := o2 (q4 d hd)
        unfold zAn f_X12_water
        rw [s_isCell v r1 hd, Option.bind_some, if_neg (by decide), q1, Option.bind_some]
        refine ⟨_, m2, ?_, (z_th m' 0).trans (q2.mono fun k i j => zPwa_m), q2.t0 (by unfold zPwa; omega) (z_th0 _ _), rfl⟩
        by_cases k0 : k = 0
        · obtain ⟨y, y1, y2⟩ := s_inflow v r2 q3.f hd
          rw [if_pos (by rw [k0]; rfl), if_pos k0, y1, Option.bind_some, y2 fun e he _ => q4 e he]
        · rw [if_neg (by rw [show (0 : Int32) = Int32.ofNat 0 from rfl, zi_eq (by omega) (by omega)]; exact k0), if_neg k0]
          by_cases k1 : k = 1
          · rw [if_pos (by rw [k1]; rfl), if_pos k1, z_gdt (z_in64 (by omega)), zi_nat (by omega), q4 d hd]
          · rw [if_neg (by rw [show (1 : Int32) = Int32.ofNat 1 from rfl, zi_eq (by omega) (by omega)]; exact k1), if_neg k1]
            by_cases k2' : k = 2
            · rw [if_pos (by rw [k2']; rfl), if_pos k2', o1, Option.bind_some, o3]
            · rw [if_neg (by rw [show (2 : Int32) = Int32.ofNat 2 from rfl, zi_eq (by omega) (by omega)]; exact k2'), if_neg k2', if_pos (by rw [show k = 3 by omega]; rfl), z_gdt (z_in64 (by omega)), o1, Option.bind_some, o3, zi_nat (by omega), q4 d hd, zi_sub (by unfold zG.sos; omega)]
              rfl
    · refine zAg.ex Int32.toInt64 I'.of (x := 0) (k := 2) ?_ rfl fun m' f => ?_
      · unfold f_X11_water zCl
        rw [s_req v I'.2.1 hd, zbx_l, show (0 : Int32) = Int32.ofNat 0 from rfl, show (3 : Int32) = Int32.ofNat 3 from rfl, g1, zbx_r]
        exact ⟨m, rfl, zFr.refl m⟩
      · have I1 := I'.keep f
        have r1 := I1.2.2.1.th 0
        obtain ⟨m2, q1, q2, q3, q4⟩ := s_mwaters v r1
        unfold zAn f_X12_water
        rw [s_isCell v r1 hd, Option.bind_some, if_neg (by decide), q1, Option.bind_some, if_neg (show ¬ y = (0 : Int32) from g0 0 (by omega) (by omega)), if_neg (show ¬ y = (1 : Int32) from g0 1 (by omega) (by omega)), if_neg (show ¬ y = (2 : Int32) from g0 2 (by omega) (by omega)), if_neg (show ¬ y = (3 : Int32) from g0 3 (by omega) (by omega))]
        exact ⟨0, _, rfl, ((z_th m' 0).trans (q2.mono fun k i j => zPwa_m)).trans (z_th _ 2), by decide, z_th0 _ _⟩
  · refine zAg.ex Int32.toInt64 I'.of (x := 1) (k := 1) ?_ rfl fun m' f => ?_
    · unfold f_X11_water zCl
      rw [s_reqn v I'.2.1 hx]
      exact ⟨m, rfl, zFr.refl m⟩
    · have I1 := I'.keep f
      unfold zAn f_X12_water
      rw [s_isCelln v (I1.2.2.1.th 0) hx, Option.bind_some, if_pos (by decide)]
      exact ⟨0, _, rfl, (z_th m' 0).trans (z_th _ 1), by decide, z_th0 _ _⟩
theorem t_order (I : zInv m) (x : Int32) : zAg Int32.toInt64 (f_L_order x m) (f_X12_order x) := by
  obtain ⟨a, b, n, p, s, l, c, e, I'⟩ := I
  have v := I'.1
  have n64 := v.n64
  unfold f_L_order
  rcases z_cell v x with ⟨d, hd, rfl⟩ | hx
  · refine zAg.ok Int32.toInt64 I'.of (v := if a.str d = true then Int32.ofNat (a.or d) else 0) ?_ fun m' f => ?_
    · unfold f_X11_order zCl
      obtain ⟨m1, s1, h1, h2, h3, h4, h5, h6⟩ := s_streams v I'.2.1
      rw [s_req v I'.2.1 hd, zbx_l, h1, Option.bind_some, s_at' 20 48 (show d < 64 by omega), Option.bind_some, h6.2.2.2.1 d hd]
      exact ⟨m1, rfl, h2⟩
    · have I1 := I'.keep f
      have r1 := I1.2.2.1.th 0
      obtain ⟨m2, q1, q2, q3, q4, q5⟩ := s_mstreams v r1
      unfold zAn f_X12_order
      rw [s_isCell v r1 hd, Option.bind_some, if_neg (by decide), q1, Option.bind_some, z_gdt (z_in64 (by omega)), zi_nat (by omega), (q5.2 d hd).2]
      exact ⟨_, m2, rfl, (z_th m' 0).trans (q2.mono fun k i j => zPst_m), q2.t0 (by unfold zPst; omega) (z_th0 _ _), rfl⟩
  · refine zAg.ex Int32.toInt64 I'.of (x := 1) (k := 1) ?_ rfl fun m' f => ?_
    · unfold f_X11_order zCl
      rw [s_reqn v I'.2.1 hx]
      exact ⟨m, rfl, zFr.refl m⟩
    · have I1 := I'.keep f
      unfold zAn f_X12_order
      rw [s_isCelln v (I1.2.2.1.th 0) hx, Option.bind_some, if_pos (by decide)]
      exact ⟨0, _, rfl, (z_th m' 0).trans (z_th _ 1), by decide, z_th0 _ _⟩
theorem t_reachOf (I : zInv m) (x : Int32) : zAg Int32.toInt64 (f_L_reachOf x m) (f_X12_reachOf x) := by
  obtain ⟨a, b, n, p, s, l, c, e, I'⟩ := I
  have v := I'.1
  have n64 := v.n64
  unfold f_L_reachOf
  rcases z_cell v x with ⟨d, hd, rfl⟩ | hx
  · cases hs : a.str d with
    | true =>
      have rb := zG.rno_le (a := a) (a.hd d)
      have hb := zG.beg_n (zG.hd_beg v d hd hs)
      refine zAg.ok Int32.toInt64 I'.of (v := Int32.ofNat (a.rl d)) ?_ fun m' f => ?_
      · unfold f_X11_reachOf zCl
        obtain ⟨m1, s1, h1, h2, h3, h4, h5, h6⟩ := s_streams v I'.2.1
        rw [s_req v I'.2.1 hd, zbx_l, h1, Option.bind_some, s_has _ (show d < 64 by omega), Option.bind_some, h6.1 d (by omega), hs, if_neg (by decide), s_at' 20 52 (show d < 64 by omega), Option.bind_some, h6.2.2.2.2.1 d hd hs]
        exact ⟨m1, rfl, h2⟩
      · have I1 := I'.keep f
        have r1 := I1.2.2.1.th 0
        obtain ⟨m2, q1, q2, q3, q4, q5⟩ := s_mstreams v r1
        unfold zAn f_X12_reachOf
        rw [s_isCell v r1 hd, Option.bind_some, if_neg (by decide), q1, Option.bind_some, z_gdt (z_in64 (by omega)), z_gdt (z_in64 (by omega)), zi_nat (by omega), (show m2.1 20 65 d = Int32.ofNat (a.rl d) by rw [(q5.2 d hd).1, if_pos hs]), if_pos (zi_zl (by unfold zG.rl; omega))]
        exact ⟨_, m2, rfl, (z_th m' 0).trans (q2.mono fun k i j => zPst_m), q2.t0 (by unfold zPst; omega) (z_th0 _ _), rfl⟩
    | false =>
      refine zAg.ex Int32.toInt64 I'.of (x := 3) (k := 2) ?_ rfl fun m' f => ?_
      · unfold f_X11_reachOf zCl
        obtain ⟨m1, s1, h1, h2, h3, h4, h5, h6⟩ := s_streams v I'.2.1
        rw [s_req v I'.2.1 hd, zbx_l, h1, Option.bind_some, s_has _ (show d < 64 by omega), Option.bind_some, h6.1 d (by omega), hs, if_pos (by decide)]
        exact ⟨m1, rfl, h2⟩
      · have I1 := I'.keep f
        have r1 := I1.2.2.1.th 0
        obtain ⟨m2, q1, q2, q3, q4, q5⟩ := s_mstreams v r1
        unfold zAn f_X12_reachOf
        rw [s_isCell v r1 hd, Option.bind_some, if_neg (by decide), q1, Option.bind_some, z_gdt (z_in64 (by omega)), zi_nat (by omega), (show m2.1 20 65 d = -1 by rw [(q5.2 d hd).1, hs, if_neg Bool.false_ne_true]), if_neg (by decide)]
        exact ⟨0, _, rfl, ((z_th m' 0).trans (q2.mono fun k i j => zPst_m)).trans (z_th _ 2), by decide, z_th0 _ _⟩
  · refine zAg.ex Int32.toInt64 I'.of (x := 1) (k := 1) ?_ rfl fun m' f => ?_
    · unfold f_X11_reachOf zCl
      rw [s_reqn v I'.2.1 hx]
      exact ⟨m, rfl, zFr.refl m⟩
    · have I1 := I'.keep f
      unfold zAn f_X12_reachOf
      rw [s_isCelln v (I1.2.2.1.th 0) hx, Option.bind_some, if_pos (by decide)]
      exact ⟨0, _, rfl, (z_th m' 0).trans (z_th _ 1), by decide, z_th0 _ _⟩
theorem t_lakeOf (I : zInv m) (x : Int32) : zAg Int32.toInt64 (f_L_lakeOf x m) (f_X12_lakeOf x) := by
  obtain ⟨a, b, n, p, s, l, c, e, I'⟩ := I
  have v := I'.1
  have n64 := v.n64
  unfold f_L_lakeOf
  rcases z_cell v x with ⟨d, hd, rfl⟩ | hx
  · cases hw : a.wet d with
    | true =>
      have f1 := zG.fi_le v (zG.com_refl hw)
      have f2 := zG.num_le (a := a) (a.fi d)
      refine zAg.ok Int32.toInt64 I'.of (v := Int32.ofNat (a.lk d)) ?_ fun m' f => ?_
      · unfold f_X11_lakeOf zCl
        obtain ⟨m1, h1, h2, _, h3⟩ := s_fl v (show 0 < 11 by omega) I'.2.1
        rw [s_req v I'.2.1 hd, zbx_l, h1, Option.bind_some, s_at' 20 35 (show d < 64 by omega), Option.bind_some, (show m1.1 20 35 d = Int32.ofNat (a.lk d) by rw [h3.1.2.2.1 d (by omega), if_pos ⟨hw, by omega⟩]), if_neg (zi_m1 (by unfold zG.lk; omega))]
        exact ⟨m1, rfl, h2⟩
      · have I1 := I'.keep f
        have r1 := I1.2.2.1.th 0
        obtain ⟨m2, q1, q2, q3, q4⟩ := s_mlakes v r1
        unfold zAn f_X12_lakeOf
        rw [s_isCell v r1 hd, Option.bind_some, if_neg (by decide), q1, Option.bind_some, z_gdt (z_in64 (by omega)), z_gdt (z_in64 (by omega)), zi_nat (by omega), (show m2.1 20 65 d = Int32.ofNat (a.lk d) by rw [q4.2 d hd, if_pos ⟨hw, by omega⟩]), if_pos (zi_zl (by unfold zG.lk; omega))]
        exact ⟨_, m2, rfl, (z_th m' 0).trans (q2.mono fun k i j => zPlk_m), q2.t0 (by unfold zPlk; omega) (z_th0 _ _), rfl⟩
    | false =>
      refine zAg.ex Int32.toInt64 I'.of (x := 3) (k := 2) ?_ rfl fun m' f => ?_
      · unfold f_X11_lakeOf zCl
        obtain ⟨m1, h1, h2, _, h3⟩ := s_fl v (show 0 < 11 by omega) I'.2.1
        rw [s_req v I'.2.1 hd, zbx_l, h1, Option.bind_some, s_at' 20 35 (show d < 64 by omega), Option.bind_some, (show m1.1 20 35 d = -1 by rw [h3.1.2.2.1 d (by omega), if_neg (fun y => by rw [hw] at y; cases y.1)]), if_pos rfl]
        exact ⟨m1, rfl, h2⟩
      · have I1 := I'.keep f
        have r1 := I1.2.2.1.th 0
        obtain ⟨m2, q1, q2, q3, q4⟩ := s_mlakes v r1
        unfold zAn f_X12_lakeOf
        rw [s_isCell v r1 hd, Option.bind_some, if_neg (by decide), q1, Option.bind_some, z_gdt (z_in64 (by omega)), zi_nat (by omega), (show m2.1 20 65 d = -1 by rw [q4.2 d hd, if_neg (fun y => by rw [hw] at y; cases y.1)]), if_neg (by decide)]
        exact ⟨0, _, rfl, ((z_th m' 0).trans (q2.mono fun k i j => zPlk_m)).trans (z_th _ 2), by decide, z_th0 _ _⟩
  · refine zAg.ex Int32.toInt64 I'.of (x := 1) (k := 1) ?_ rfl fun m' f => ?_
    · unfold f_X11_lakeOf zCl
      rw [s_reqn v I'.2.1 hx]
      exact ⟨m, rfl, zFr.refl m⟩
    · have I1 := I'.keep f
      unfold zAn f_X12_lakeOf
      rw [s_isCelln v (I1.2.2.1.th 0) hx, Option.bind_some, if_pos (by decide)]
      exact ⟨0, _, rfl, (z_th m' 0).trans (z_th _ 1), by decide, z_th0 _ _⟩
theorem t_carveWay (I : zInv m) (x : Int32) (y : Int32) : zAg Int32.toInt64 (f_L_carveWay x y m) (f_X12_carveWay x y) := by
  obtain ⟨a, b, n, p, s, l, c, e, I'⟩ := I
  have v := I'.1
  have n64 := v.n64
  unfold f_L_carveWay
  rcases z_cell v x with ⟨d, hd, rfl⟩ | hx
  · have k63 := zG.vk63 v (h := a.ht d) hd
    rcases z_rng y (lo := 0) (hi := a.vk (a.ht d) d) (by omega) (by omega) with ⟨k, _, k2, rfl, g1, g2⟩ | ⟨g0, g1, g2⟩
    · refine zAg.ok Int32.toInt64 I'.of (v := Int32.ofNat (a.cw k (a.ht d) d)) ?_ fun m' f => ?_
      · unfold f_X11_carveWay zCl
        obtain ⟨m1, h1, h2, h3, h4, h5⟩ := s_plan v (show 0 < 11 by omega) hd I'.2.1
        rw [s_req v I'.2.1 hd, zbx_l, h1, Option.bind_some, if_neg (zi_nn (by omega)), h4, if_pos (by rw [zi_lt (by omega) (by omega)]; omega), s_at' 20 58 (show k < 64 by omega), Option.bind_some, h5 k k2]
        exact ⟨m1, rfl, h2.mono fun k i j => zPpn_c⟩
      · have I1 := I'.keep f
        have r1 := I1.2.2.1.th 0
        obtain ⟨m2, q1, q2, q3, q4, q5⟩ := s_bestWay v hd r1
        unfold zAn f_X12_carveWay
        rw [s_isCell v r1 hd, Option.bind_some, if_neg (by decide), q1, Option.bind_some, q4, zi_q (by omega), Nat.add_sub_cancel, show (0 : Int64) = Int32.toInt64 (Int32.ofNat 0) from rfl, g2, Option.bind_some, if_neg (by decide), z_gdt (z_in27 (by omega)), zi_nat (by omega), q5 k k2]
        exact ⟨_, m2, rfl, (z_th m' 0).trans (q2.mono fun k i j => zPbw_m), q2.t0 (by unfold zPbw; omega) (z_th0 _ _), rfl⟩
    · refine zAg.ex Int32.toInt64 I'.of (x := 3) (k := 2) ?_ rfl fun m' f => ?_
      · unfold f_X11_carveWay zCl
        obtain ⟨m1, h1, h2, h3, h4, h5⟩ := s_plan v (show 0 < 11 by omega) hd I'.2.1
        rw [s_req v I'.2.1 hd, zbx_l, h1, Option.bind_some, h4]
        refine ⟨m1, ?_, h2.mono fun k i j => zPpn_c⟩
        rcases zi_cases y with w | ⟨k, kb, rfl⟩
        · rw [if_pos w]
        · rw [if_neg (zi_nn kb), if_neg]
          rw [zi_lt kb (by omega)]
          exact fun w => g0 k (by omega) (by omega) rfl
      · have I1 := I'.keep f
        have r1 := I1.2.2.1.th 0
        obtain ⟨m2, q1, q2, q3, q4, q5⟩ := s_bestWay v hd r1
        unfold zAn f_X12_carveWay
        rw [s_isCell v r1 hd, Option.bind_some, if_neg (by decide), q1, Option.bind_some, q4, zi_q (by omega), Nat.add_sub_cancel, show (0 : Int64) = Int32.toInt64 (Int32.ofNat 0) from rfl, g2, Option.bind_some, if_pos (by decide)]
        exact ⟨0, _, rfl, ((z_th m' 0).trans (q2.mono fun k i j => zPbw_m)).trans (z_th _ 2), by decide, z_th0 _ _⟩
  · refine zAg.ex Int32.toInt64 I'.of (x := 1) (k := 1) ?_ rfl fun m' f => ?_
    · unfold f_X11_carveWay zCl
      rw [s_reqn v I'.2.1 hx]
      exact ⟨m, rfl, zFr.refl m⟩
    · have I1 := I'.keep f
      unfold zAn f_X12_carveWay
      rw [s_isCelln v (I1.2.2.1.th 0) hx, Option.bind_some, if_pos (by decide)]
      exact ⟨0, _, rfl, (z_th m' 0).trans (z_th _ 1), by decide, z_th0 _ _⟩
theorem t_cell (I : zInv m) (x : Int32) (y : Int32) : zAg Int32.toInt64 (f_L_cell x y m) (f_X12_cell x y) := by
  obtain ⟨a, b, n, p, s, l, c, e, I'⟩ := I
  have v := I'.1
  have n64 := v.n64
  unfold f_L_cell
  rcases z_cell v x with ⟨d, hd, rfl⟩ | hx
  · rcases z_rng y (lo := 0) (hi := 3) (by omega) (by omega) with ⟨k, _, k2, rfl, g1, g2⟩ | ⟨g0, g1, g2⟩
    · refine zAg.ok Int32.toInt64 I'.of (v := if k = 0 then Int32.ofNat (a.ht d) else if k = 1 then Int32.ofNat (a.rn d) else if k = 2 then Int32.ofNat (a.sk d) else if a.ou d = true then 1 else 0) ?_ fun m' f => ?_
      · unfold f_X11_cell zCl
        rw [s_req v I'.2.1 hd, zbx_l, show (0 : Int32) = Int32.ofNat 0 from rfl, show (3 : Int32) = Int32.ofNat 3 from rfl, g1, zbx_l]
        refine ⟨m, ?_, zFr.refl m⟩
        by_cases k0 : k = 0
        · rw [if_pos (by rw [k0]), if_pos k0, s_at' 20 0 (show d < 64 by omega), Option.bind_some, I'.2.1.ht d (by omega)]
        · rw [if_neg (by rw [zi_eq (by omega) (by omega)]; exact k0), if_neg k0]
          by_cases k1 : k = 1
          · rw [if_pos (by rw [k1]; rfl), if_pos k1, s_at' 20 1 (show d < 64 by omega), Option.bind_some, I'.2.1.rn d (by omega)]
          · rw [if_neg (by rw [show (1 : Int32) = Int32.ofNat 1 from rfl, zi_eq (by omega) (by omega)]; exact k1), if_neg k1]
            by_cases k2' : k = 2
            · rw [if_pos (by rw [k2']; rfl), if_pos k2', s_at' 20 2 (show d < 64 by omega), Option.bind_some, I'.2.1.sk d (by omega)]
            · rw [if_neg (by rw [show (2 : Int32) = Int32.ofNat 2 from rfl, zi_eq (by omega) (by omega)]; exact k2'), if_neg k2', s_outlet v I'.2.1 hd, Option.bind_some]
              cases a.ou d with
              | true => rw [if_neg (by decide)]; rfl
              | false => rw [if_pos (by decide)]; rfl
      · have I1 := I'.keep f
        have r1 := I1.2.2.1.th 0
        unfold zAn f_X12_cell
        rw [s_isCell v r1 hd, Option.bind_some, if_neg (by decide), show (0 : Int64) = Int32.toInt64 (Int32.ofNat 0) from rfl, show (3 : Int64) = Int32.toInt64 (Int32.ofNat 3) from rfl, g2, Option.bind_some, if_neg (by decide), show (3 : Int32) = Int32.ofNat 3 from rfl, show (64 : Int32) = Int32.ofNat 64 from rfl, zi_mul, zi_add, zi_add, z_gdt (z_in23 (by omega)), zi_nat (by omega)]
        refine ⟨_, _, rfl, z_th m' 0, z_th0 _ _, ?_⟩
        obtain ⟨_, _, _, e1, e2, e3, e4⟩ := r1
        by_cases k0 : k = 0
        · rw [if_pos k0, k0]
          exact e1 d (by omega)
        · rw [if_neg k0]
          by_cases k1 : k = 1
          · rw [if_pos k1, k1]
            exact e2 d (by omega)
          · rw [if_neg k1]
            by_cases k2' : k = 2
            · rw [if_pos k2', k2']
              exact e3 d (by omega)
            · rw [if_neg k2', show k = 3 by omega]
              exact e4 d (by omega)
    · refine zAg.ex Int32.toInt64 I'.of (x := 0) (k := 2) ?_ rfl fun m' f => ?_
      · unfold f_X11_cell zCl
        rw [s_req v I'.2.1 hd, zbx_l, show (0 : Int32) = Int32.ofNat 0 from rfl, show (3 : Int32) = Int32.ofNat 3 from rfl, g1, zbx_r]
        exact ⟨m, rfl, zFr.refl m⟩
      · have I1 := I'.keep f
        have r1 := I1.2.2.1.th 0
        unfold zAn f_X12_cell
        rw [s_isCell v r1 hd, Option.bind_some, if_neg (by decide), show (0 : Int64) = Int32.toInt64 (Int32.ofNat 0) from rfl, show (3 : Int64) = Int32.toInt64 (Int32.ofNat 3) from rfl, g2, Option.bind_some, if_pos (by decide)]
        exact ⟨0, _, rfl, (z_th m' 0).trans (z_th _ 2), by decide, z_th0 _ _⟩
  · refine zAg.ex Int32.toInt64 I'.of (x := 1) (k := 1) ?_ rfl fun m' f => ?_
    · unfold f_X11_cell zCl
      rw [s_reqn v I'.2.1 hx]
      exact ⟨m, rfl, zFr.refl m⟩
    · have I1 := I'.keep f
      unfold zAn f_X12_cell
      rw [s_isCelln v (I1.2.2.1.th 0) hx, Option.bind_some, if_pos (by decide)]
      exact ⟨0, _, rfl, (z_th m' 0).trans (z_th _ 1), by decide, z_th0 _ _⟩
end
