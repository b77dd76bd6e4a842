/-! Calls that ask what would be; divides. -/
section
variable {m : zM} {a : zG}
theorem zFr.x13 {m m2 : zM} {u : Int32} (f : zFr zSm (z_sI m 13 0 0 u) m2) : zFr zSm m m2 := (z_th m u).trans f
theorem t_depthsIf (I : zInv m) (x : Int32) (y : Int32) : zAg Int32.toInt64 (f_L_depthsIf x y m) (f_X12_depthsIf x y) := by
  obtain ⟨a, b, n, p, s, l, c, e, I'⟩ := I
  have v := I'.1
  have n64 := v.n64
  unfold f_L_depthsIf
  rcases z_cell v x with ⟨d, hd, rfl⟩ | hx
  · rcases z_rng y (lo := 0) (hi := 99) (by omega) (by omega) with ⟨k, _, k2, rfl, g1, g2⟩ | ⟨g0, g1, g2⟩
    · refine zAg.ok Int32.toInt64 I'.of (v := Int32.ofNat (z_tot (fun e => (a.sH d k).lv e - (a.sH d k).ht e) a.n)) ?_ fun m' f => ?_
      · unfold f_X11_depthsIf zCl
        rw [s_req v I'.2.1 hd, zbx_l, show (0 : Int32) = Int32.ofNat 0 from rfl, show (99 : Int32) = Int32.ofNat 99 from rfl, g1, zbx_l]
        have vH := v.sH (c := d) k2
        obtain ⟨m1, c1, c2, c3⟩ := s_copyFrom (g := 1) (h := 0) (by omega) I'.2.1
        have rH := c3.sH (c := d) k
        have f1 : zFr (zGp 1) m1 (z_sI m1 20 3 d (Int32.ofNat k)) := zFr.sI (zFr.refl m1) _ (.inr ⟨rfl, .inl rfl⟩)
        obtain ⟨m2, q1, q2, q2', q3⟩ := s_fl vH (show 1 < 11 by omega) rH
        obtain ⟨A, A1, A2⟩ := s_alln vH (rH.keep q2' fun k i j => zGp_f (by omega))
        rw [c1, Option.bind_some, s_put 20 3 (show d < 64 by omega), Option.bind_some]
        rw [show z_sI m1 20 3 d (Int32.ofNat k) = z_sI m1 20 (3 * 1) d (Int32.ofNat k) from rfl, q1, Option.bind_some, A1, Option.bind_some, s_sumn vH 34 A2 fun e he _ => q3.2 e he, Option.bind_some]
        exact ⟨m2, rfl, ((c2.trans f1).mono fun k i j => zGp1).trans q2⟩
      · have I1 := I'.keep f
        have r1 := I1.2.2.1.th 0
        unfold zAn f_X12_depthsIf
        rw [s_isCell v I1.2.2.1 hd, Option.bind_some, if_neg (by decide), show (0 : Int64) = Int32.toInt64 (Int32.ofNat 0) from rfl, show (99 : Int64) = Int32.toInt64 (Int32.ofNat 99) from rfl, g2, Option.bind_some, if_neg (by decide)]
        unfold f_X12_depthsIf_30
        rw [z_th0, if_pos (by decide)]
        have vH := v.sH (c := d) k2
        have rH := r1.sH (c := d) (by omega) k
        obtain ⟨m2, q1, q2⟩ := s_depthsM vH rH
        have ho : (z_sI m' 13 0 0 0).1 23 0 (3 + d) = Int32.ofNat (a.ht d) := r1.2.2.2.1 d (by omega)
        rw [s_mheight r1 (by omega), Option.bind_some, show (3 : Int32) + Int32.ofNat d = Int32.ofNat (3 + d) from zi_add 3 d, z_gdt (z_in23 (by omega)), zi_nat (by omega), q1, Option.bind_some, z_gdt (z_in23 (by omega))]
        have bk := zFr.back (J := 3 + d) (q2.mono fun k i j => zP59_m)
        rw [ho] at bk
        exact ⟨_, _, rfl, bk.x13, by rw [zm_ot _ _ _ _ (by omega), (q2 13 0 0 (by unfold zP59; omega)).1, zm_ot _ _ _ _ (by omega)]; exact z_th0 _ _, rfl⟩
    · refine zAg.ex Int32.toInt64 I'.of (x := 0) (k := 2) ?_ rfl fun m' f => ?_
      · unfold f_X11_depthsIf zCl
        rw [s_req v I'.2.1 hd, zbx_l, show (0 : Int32) = Int32.ofNat 0 from rfl, show (99 : Int32) = Int32.ofNat 99 from rfl, g1, zbx_r]
        exact ⟨m, rfl, zFr.refl m⟩
      · have I1 := I'.keep f
        unfold zAn f_X12_depthsIf
        rw [s_isCell v I1.2.2.1 hd, Option.bind_some, if_neg (by decide), show (0 : Int64) = Int32.toInt64 (Int32.ofNat 0) from rfl, show (99 : Int64) = Int32.toInt64 (Int32.ofNat 99) from rfl, g2, Option.bind_some, if_pos (by decide)]
        unfold f_X12_depthsIf_30
        rw [z_th0, if_neg (by decide)]
        exact ⟨0, _, rfl, z_th _ 2, by decide, z_th0 _ _⟩
  · refine zAg.ex Int32.toInt64 I'.of (x := 1) (k := 1) ?_ rfl fun m' f => ?_
    · unfold f_X11_depthsIf zCl
      rw [s_reqn v I'.2.1 hx]
      exact ⟨m, rfl, zFr.refl m⟩
    · have I1 := I'.keep f
      unfold zAn f_X12_depthsIf
      rw [s_isCelln v I1.2.2.1 hx, Option.bind_some, if_pos (by decide)]
      unfold f_X12_depthsIf_30
      rw [z_th0, if_neg (by decide)]
      exact ⟨0, _, rfl, z_th _ 1, by decide, z_th0 _ _⟩
theorem t_leavingIf (I : zInv m) (x : Int32) (y : Int32) : zAg Int32.toInt64 (f_L_leavingIf x y m) (f_X12_leavingIf x y) := by
  obtain ⟨a, b, n, p, s, l, c, e, I'⟩ := I
  have v := I'.1
  have n64 := v.n64
  unfold f_L_leavingIf
  rcases z_cell v x with ⟨d, hd, rfl⟩ | hx
  · rcases z_rng y (lo := 0) (hi := 9) (by omega) (by omega) with ⟨k, _, k2, rfl, g1, g2⟩ | ⟨g0, g1, g2⟩
    · refine zAg.ok Int32.toInt64 I'.of (v := Int32.ofNat (z_tot (fun e => if (a.sS d k).ou e = true then (a.sS d k).out e else 0) a.n)) ?_ fun m' f => ?_
      · unfold f_X11_leavingIf zCl
        rw [s_req v I'.2.1 hd, zbx_l, show (0 : Int32) = Int32.ofNat 0 from rfl, show (9 : Int32) = Int32.ofNat 9 from rfl, g1, zbx_l]
        have vH := v.sS (c := d) k2
        obtain ⟨m1, c1, c2, c3⟩ := s_copyFrom (g := 1) (h := 0) (by omega) I'.2.1
        have rH := c3.sS (c := d) k
        have f1 : zFr (zGp 1) m1 (z_sI m1 20 5 d (Int32.ofNat k)) := zFr.sI (zFr.refl m1) _ (.inr ⟨rfl, .inr (.inr rfl)⟩)
        obtain ⟨m2, s1, q1, q2, q3, q4, q5, q6, q7⟩ := s_waters vH (show 1 < 11 by omega) rH
        rw [c1, Option.bind_some, s_put 20 5 (show d < 64 by omega), Option.bind_some]
        rw [show z_sI m1 20 5 d (Int32.ofNat k) = z_sI m1 20 (3 * 1 + 2) d (Int32.ofNat k) from rfl, q1, Option.bind_some, s_sumn vH 47 (q3.on vH) fun e he _ => (q7 e he).2.2, Option.bind_some]
        exact ⟨m2, rfl, ((c2.trans f1).mono fun k i j => zGp1).trans q2⟩
      · have I1 := I'.keep f
        have r1 := I1.2.2.1.th 0
        unfold zAn f_X12_leavingIf
        rw [s_isCell v I1.2.2.1 hd, Option.bind_some, if_neg (by decide), show (0 : Int64) = Int32.toInt64 (Int32.ofNat 0) from rfl, show (9 : Int64) = Int32.toInt64 (Int32.ofNat 9) from rfl, g2, Option.bind_some, if_neg (by decide)]
        unfold f_X12_leavingIf_30
        rw [z_th0, if_pos (by decide)]
        have vH := v.sS (c := d) k2
        have rH := r1.sS (c := d) (by omega) k
        obtain ⟨m2, q1, q2⟩ := s_leaves vH rH
        rw [show (131 : Int32) + Int32.ofNat d = Int32.ofNat (131 + d) from zi_add 131 d, z_gdt (z_in23 (by omega)), zi_nat (by omega), q1, Option.bind_some, z_gdt (z_in23 (by omega))]
        have bk := zFr.back (J := 131 + d) (q2.mono fun k i j => zPwa_m)
        exact ⟨_, _, rfl, bk.x13, by rw [zm_ot _ _ _ _ (by omega), (q2 13 0 0 (by unfold zPwa; omega)).1, zm_ot _ _ _ _ (by omega)]; exact z_th0 _ _, rfl⟩
    · refine zAg.ex Int32.toInt64 I'.of (x := 0) (k := 2) ?_ rfl fun m' f => ?_
      · unfold f_X11_leavingIf zCl
        rw [s_req v I'.2.1 hd, zbx_l, show (0 : Int32) = Int32.ofNat 0 from rfl, show (9 : Int32) = Int32.ofNat 9 from rfl, g1, zbx_r]
        exact ⟨m, rfl, zFr.refl m⟩
      · have I1 := I'.keep f
        unfold zAn f_X12_leavingIf
        rw [s_isCell v I1.2.2.1 hd, Option.bind_some, if_neg (by decide), show (0 : Int64) = Int32.toInt64 (Int32.ofNat 0) from rfl, show (9 : Int64) = Int32.toInt64 (Int32.ofNat 9) from rfl, g2, Option.bind_some, if_pos (by decide)]
        unfold f_X12_leavingIf_30
        rw [z_th0, if_neg (by decide)]
        exact ⟨0, _, rfl, z_th _ 2, by decide, z_th0 _ _⟩
  · refine zAg.ex Int32.toInt64 I'.of (x := 1) (k := 1) ?_ rfl fun m' f => ?_
    · unfold f_X11_leavingIf zCl
      rw [s_reqn v I'.2.1 hx]
      exact ⟨m, rfl, zFr.refl m⟩
    · have I1 := I'.keep f
      unfold zAn f_X12_leavingIf
      rw [s_isCelln v I1.2.2.1 hx, Option.bind_some, if_pos (by decide)]
      unfold f_X12_leavingIf_30
      rw [z_th0, if_neg (by decide)]
      exact ⟨0, _, rfl, z_th _ 1, by decide, z_th0 _ _⟩
theorem t_mouthIf (I : zInv m) (x : Int32) (y : Int32) : zAg Int32.toInt64 (f_L_mouthIf x y m) (f_X12_mouthIf x y) := by
  obtain ⟨a, b, n, p, s, l, c, e, I'⟩ := I
  have v := I'.1
  have n64 := v.n64
  unfold f_L_mouthIf
  rcases z_cell v x with ⟨d, hd, rfl⟩ | hx
  · rcases z_cell v y with ⟨o, ho, rfl⟩ | hy
    · have vH := v.sO (c := o) (u := true) ho (.inl rfl)
      refine zAg.ok Int32.toInt64 I'.of (v := Int32.ofNat ((a.sO o true).mo d)) ?_ fun m' f => ?_
      · unfold f_X11_mouthIf zCl
        obtain ⟨m1, c1, c2, c3⟩ := s_copyFrom (g := 1) (h := 0) (by omega) I'.2.1
        obtain ⟨z, z1, z2⟩ := s_mark v c3 ho true
        have rH := c3.sO z2
        have f1 : zFr (zGp 1) m1 (z_sL m1 6 1 3 z) := zFr.sL (zFr.refl m1) _ (.inl ⟨rfl, rfl, by omega⟩)
        obtain ⟨m2, s1, q1, q2, q3, q4, q5⟩ := s_flows vH (show 1 < 11 by omega) rH
        rw [s_req v I'.2.1 hd, zbx_l, s_req v I'.2.1 ho, zbx_l, c1, Option.bind_some, show (1 : Int32) = z_bi true from rfl, z1, Option.bind_some, q1, Option.bind_some, s_at' 20 42 (show d < 64 by omega), Option.bind_some, (q5.2.2.2.2.2 d hd).1]
        exact ⟨m2, rfl, ((c2.trans f1).mono fun k i j => zGp1).trans q2⟩
      · have I1 := I'.keep f
        have r1 := I1.2.2.1.th 0
        have rH := r1.sO (c := o) (by omega) true
        obtain ⟨m2, q1, q2, q3⟩ := s_looks vH rH
        have r2 : zMR (m2.1 23 0) (a.sO o true) := by rw [q2.row (fun j => by unfold zPlo; omega)]; exact rH
        unfold zAn f_X12_mouthIf
        rw [s_isCell v r1 hd, Option.bind_some, if_neg (by decide), s_isCell v r1 ho, Option.bind_some, if_neg (by decide), show (195 : Int32) + Int32.ofNat o = Int32.ofNat (195 + o) from zi_add 195 o, z_gdt (z_in23 (by omega)), zi_nat (by omega), show (1 : Int32) = z_bi true from rfl, q1, Option.bind_some, s_mouth vH r2 q3.f hd, Option.bind_some, z_gdt (z_in23 (by omega))]
        have bk := zFr.back (J := 195 + o) (q2.mono fun k i j => zPlo_m)
        exact ⟨_, _, rfl, bk.x13, by rw [zm_ot _ _ _ _ (by omega), (q2 13 0 0 (by unfold zPlo; omega)).1, zm_ot _ _ _ _ (by omega)]; exact z_th0 _ _, rfl⟩
    · refine zAg.ex Int32.toInt64 I'.of (x := 1) (k := 1) ?_ rfl fun m' f => ?_
      · unfold f_X11_mouthIf zCl
        rw [s_req v I'.2.1 hd, zbx_l, s_reqn v I'.2.1 hy, zbx_r]
        exact ⟨m, rfl, zFr.refl m⟩
      · have r1 := (I'.keep f).2.2.1.th 0
        unfold zAn f_X12_mouthIf
        rw [s_isCell v r1 hd, Option.bind_some, if_neg (by decide), s_isCelln v r1 hy, Option.bind_some, if_pos (by decide)]
        exact ⟨0, _, rfl, (z_th m' 0).trans (z_th _ 1), by decide, z_th0 _ _⟩
  · refine zAg.ex Int32.toInt64 I'.of (x := 1) (k := 1) ?_ rfl fun m' f => ?_
    · unfold f_X11_mouthIf zCl
      rw [s_reqn v I'.2.1 hx]
      exact ⟨m, rfl, zFr.refl m⟩
    · have I1 := I'.keep f
      unfold zAn f_X12_mouthIf
      rw [s_isCelln v (I1.2.2.1.th 0) hx, Option.bind_some, if_pos (by decide)]
      exact ⟨0, _, rfl, (z_th m' 0).trans (z_th _ 1), by decide, z_th0 _ _⟩
noncomputable def zG.dv1 (a : zG) (c : Nat) : Nat → Nat
  | 0 => 0
  | d + 1 => a.dv1 c d + match a.nb c (d + 1) with
    | none => 0
    | some e => if a.mo c = a.mo e then 0 else 1
noncomputable def zG.dvs (a : zG) (c : Nat) : Nat := z_tot (fun d => a.dv1 d 2) c
theorem s_div_28 (v : zGV a) {s : Nat → Nat} (r : zGR m 0 a) (ht : zTr a m s) (K : Int32 → Int32 → Int32 → zM → Option (Int32 × zM)) {c : Nat} (hc : c < a.n) (z : Nat) : ∀ (j d : Nat), d ≤ 2 → 2 - d < j → f_X11_divides_28 K j (Int32.ofNat (z + a.dv1 c d)) (Int32.ofNat a.n) (Int32.ofNat c) (Int32.ofNat (d + 1)) m = K (Int32.ofNat (z + a.dv1 c 2)) (Int32.ofNat a.n) (Int32.ofNat (c + 1)) m
  | 0, _, _, h => absurd h (Nat.not_lt_zero _)
  | j + 1, d, hd, hj => by
    have n64 := v.n64
    unfold f_X11_divides_28
    rw [show (2 : Int32) = Int32.ofNat 2 from rfl]
    by_cases he : d = 2
    · subst he
      rw [if_pos (by rw [zi_lt (by omega) (by omega)]; omega), zi_s]
    · have ih := s_div_28 v r ht K hc z j (d + 1) (by omega) (by omega)
      have m1 := (zG.mo_ou v c hc).2
      have e1 : a.dv1 c (d + 1) = a.dv1 c d + match a.nb c (d + 1) with
        | none => 0
        | some e => if a.mo c = a.mo e then 0 else 1 := rfl
      rw [if_neg (by rw [zi_lt (by omega) (by omega)]; omega), s_nb v r hc (by omega), Option.bind_some, zi_s]
      cases hn : a.nb c (d + 1) with
      | none =>
        rw [hn] at e1
        rw [zo_none, if_pos rfl]
        rw [e1] at ih
        exact ih
      | some f =>
        have hf := zG.nb_n v hc hn
        have m2 := (zG.mo_ou v f hf).2
        rw [hn] at e1
        have e2 : a.dv1 c (d + 1) = a.dv1 c d + if a.mo c = a.mo f then 0 else 1 := e1
        rw [zo_some, if_neg (zi_m1 (by omega)), s_at' 20 42 (show c < 64 by omega), Option.bind_some, s_at' 20 42 (show f < 64 by omega), Option.bind_some, (ht.2.2.2.2.2 c hc).1, (ht.2.2.2.2.2 f hf).1]
        by_cases w : a.mo c = a.mo f
        · rw [if_pos (by rw [w])]
          rw [e2, if_pos w] at ih
          exact ih
        · rw [if_neg (by rw [zi_eq (by omega) (by omega)]; exact w), zi_s]
          rw [e2, if_neg w] at ih
          exact ih
theorem s_div_20 (v : zGV a) {s : Nat → Nat} (r : zGR m 0 a) (ht : zTr a m s) : ∀ (j c : Nat), c ≤ a.n → a.n - c < j → f_X11_divides_20 j (Int32.ofNat (a.dvs c)) (Int32.ofNat a.n) (Int32.ofNat c) m = some (Int32.ofNat (a.dvs a.n), m)
  | 0, _, _, h => absurd h (Nat.not_lt_zero _)
  | j + 1, c, hc, hj => by
    have n64 := v.n64
    unfold f_X11_divides_20
    by_cases he : c = a.n
    · subst he
      rw [if_pos (by rw [zi_le (by omega) (by omega)]; omega)]
    · have hcn : c < a.n := by omega
      rw [if_neg (by rw [zi_le (by omega) (by omega)]; omega)]
      have h1 := s_div_28 v r ht (f_X11_divides_20 j) hcn (a.dvs c) zF 0 (by omega) (zF_lt (by omega))
      rw [show (1 : Int32) = Int32.ofNat (0 + 1) from rfl]
      exact h1.trans (s_div_20 v r ht j (c + 1) hcn (by omega))
theorem s_mdiv_23 (v : zGV a) (r : zMR (m.1 23 0) a) (hf : zMF a m) (K : Int32 → Int32 → zM → Option (Int32 × zM)) {c : Nat} (hc : c < a.n) (z : Nat) : ∀ (j d : Nat), d ≤ 2 → 2 - d < j → f_X12_divides_23 K j (Int32.ofNat (z + a.dv1 c d)) (Int32.ofNat c) (Int32.ofNat (d + 1)) m = K (Int32.ofNat (z + a.dv1 c 2)) (Int32.ofNat (c + 1)) m
  | 0, _, _, h => absurd h (Nat.not_lt_zero _)
  | j + 1, d, hd, hj => by
    have n64 := v.n64
    unfold f_X12_divides_23
    rw [show (3 : Int32) = Int32.ofNat 3 from rfl]
    by_cases he : d = 2
    · subst he
      rw [if_pos (by rw [zi_le (by omega) (by omega)]; omega), zi_s]
    · have ih := s_mdiv_23 v r hf K hc z j (d + 1) (by omega) (by omega)
      have m1 := (zG.mo_ou v c hc).2
      have e1 : a.dv1 c (d + 1) = a.dv1 c d + match a.nb c (d + 1) with
        | none => 0
        | some e => if a.mo c = a.mo e then 0 else 1 := rfl
      rw [if_neg (by rw [zi_le (by omega) (by omega)]; omega), s_next v r hc (by omega), Option.bind_some, zi_s]
      cases hn : a.nb c (d + 1) with
      | none =>
        rw [hn] at e1
        rw [if_pos (show zo none < 0 by decide)]
        rw [e1] at ih
        exact ih
      | some f =>
        have hfn := zG.nb_n v hc hn
        have m2 := (zG.mo_ou v f hfn).2
        rw [hn] at e1
        have e2 : a.dv1 c (d + 1) = a.dv1 c d + if a.mo c = a.mo f then 0 else 1 := e1
        rw [zo_some, if_neg (zi_z (by omega)), s_mouth v r hf hc, Option.bind_some, Option.bind_some, s_mouth v r hf hfn, Option.bind_some]
        by_cases w : a.mo c = a.mo f
        · rw [if_pos (by rw [w])]
          rw [e2, if_pos w] at ih
          exact ih
        · rw [if_neg (by rw [zi_eq (by omega) (by omega)]; exact w), zi_s]
          rw [e2, if_neg w] at ih
          exact ih
theorem s_mdiv_13 (v : zGV a) (r : zMR (m.1 23 0) a) (hf : zMF a m) : ∀ (j c : Nat), c ≤ a.n → a.n - c < j → f_X12_divides_13 j (Int32.ofNat (a.dvs c)) (Int32.ofNat c) m = some (Int32.ofNat (a.dvs a.n), m)
  | 0, _, _, h => absurd h (Nat.not_lt_zero _)
  | j + 1, c, hc, hj => by
    have n64 := v.n64
    unfold f_X12_divides_13
    rw [s_mcells r, Option.bind_some]
    by_cases he : c = a.n
    · subst he
      rw [if_pos (by rw [zi_le (by omega) (by omega)]; omega)]
    · have hcn : c < a.n := by omega
      rw [if_neg (by rw [zi_le (by omega) (by omega)]; omega)]
      have h1 := s_mdiv_23 v r hf (f_X12_divides_13 j) hcn (a.dvs c) zF 0 (by omega) (zF_lt (by omega))
      rw [show (1 : Int32) = Int32.ofNat (0 + 1) from rfl]
      exact h1.trans (s_mdiv_13 v r hf j (c + 1) hcn (by omega))
/-- divides: no number is thrown -/
theorem t_divides (I : zInv m) : ∃ u m1 m2, f_X11_divides m = some (u, m1) ∧ f_X12_divides m1 = some (u, m2) ∧ zInv m2 := by
  obtain ⟨a, b, n, p, s, l, c, e, I'⟩ := I
  have v := I'.1
  have n64 := v.n64
  obtain ⟨m1, s1, h1, h2, h3, h4, h5⟩ := s_flows v (show 0 < 11 by omega) I'.2.1
  have I1 := I'.keep h2
  have r1 := I1.2.2.1.th 0
  obtain ⟨m2, q1, q2, q3⟩ := s_looks v r1
  have r2 : zMR (m2.1 23 0) a := by rw [q2.row (fun j => by unfold zPlo; omega)]; exact r1
  refine ⟨Int32.ofNat (a.dvs a.n), m1, m2, ?_, ?_, (I1.keep (((z_th m1 0).trans (q2.mono fun k i j => zPlo_m)).mono fun k i j w => w.1)).of⟩
  · unfold f_X11_divides
    rw [h1, Option.bind_some, s_size v h3, Option.bind_some]
    exact s_div_20 v h3 h5 zF 0 (Nat.zero_le _) (zF_lt (by omega))
  · unfold f_X12_divides
    rw [q1, Option.bind_some]
    exact s_mdiv_13 v r2 q3.f zF 0 (Nat.zero_le _) (zF_lt (by omega))
end
