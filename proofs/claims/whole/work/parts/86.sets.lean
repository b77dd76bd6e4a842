/-! setHeight, setRain, setSoak, setOutlet, setThreshold. -/
section
variable {a : zG} {b : Nat → zG} {n p : Nat} {s : Option zG} {l : Nat} {c : Nat → Nat} {e : Option Nat} {m : zM}
theorem zOc_pro {k i j : Nat} (w : zOc k i j) : zPro k i j := by
  rcases w with w | w | w | w | w | w
  · exact .inl w
  · exact .inr (.inl w)
  · exact .inr (.inr (.inr (.inr (.inr (.inl w)))))
  · exact .inr (.inr (.inr (.inr (.inr (.inr (.inl w))))))
  · exact .inr (.inr (.inr (.inr (.inr (.inr (.inr (.inr (.inl w))))))))
  · exact .inr (.inr (.inr (.inr (.inr (.inr (.inr (.inr (.inr (w)))))))))
theorem zOm_pro {k i j : Nat} (w : zOm k i j) : zPro k i j := by
  rcases w with w | w | w | w
  · exact .inr (.inr (.inl w))
  · exact .inr (.inr (.inr (.inl w)))
  · exact .inr (.inr (.inr (.inr (.inl w))))
  · exact .inr (.inr (.inr (.inr (.inr (.inr (.inr (.inl w)))))))
theorem zSm_nc {k i j : Nat} (w : zSm k i j) : zNc k i j := ⟨fun y => w.1 (zOc_pro y), w.2⟩
theorem zSc_nm {k i j : Nat} (w : zSc k i j) : zNm k i j := fun y => w (zOm_pro y)
theorem zIm.sm {m' : zM} (I : zIm a b n s l c e m) (f : zFr zSm m m') : zIm a b n s l c e m' := I.keep f fun _ _ _ h w => w.1 (zOm_pro h)
theorem zIc.scr {m' : zM} (I : zIc a b n p s l c e m) (f : zFr zSc m m') : zIc a b n p s l c e m' := I.keep f fun _ _ _ h w => w (zOc_pro h)
theorem zGp0_n {k i j : Nat} (w : zGp 0 k i j) : zNm k i j := by
  unfold zGp at w
  unfold zNm zOm
  omega
theorem z230_n {k i j : Nat} (w : k = 23 ∧ i = 0) : zNc k i j := by
  unfold zNc zOc
  omega
theorem zIc.grid {m' : zM} {a' : zG} (I : zIc a b n p s l c e m) (f : zFr (zGp 0) m m') (v : zGV a') (r : zGR m' 0 a') : zIc a' b n p s l c e m' := by
  obtain ⟨h1, h2, ⟨q1, q2, q3, q4, q6⟩, h5, ⟨t1, t2, t4⟩, e1, e3⟩ := I
  have gr : ∀ {x : zG} {q : Nat}, q ≠ 0 → zGR m q x → zGR m' q x := fun {x q} w1 w3 => w3.keep f fun k i j y => by unfold zGp at y ⊢; omega
  have g : ∀ k i j, ¬ zGp 0 k i j → m'.1 k i j = m.1 k i j := fun k i j w => (f k i j w).1
  refine ⟨v, r, ⟨q1, q2, (g _ _ _ (by unfold zGp; omega)).trans q3, (g _ _ _ (by unfold zGp; omega)).trans q4, fun j hj => ⟨(q6 j hj).1, gr (by omega) (q6 j hj).2⟩⟩, ?_, ⟨t1, (g _ _ _ (by unfold zGp; omega)).trans t2, fun t ht => ⟨(t4 t ht).1, (t4 t ht).2.1, (g _ _ _ (by unfold zGp; omega)).trans (t4 t ht).2.2⟩⟩, (g _ _ _ (by unfold zGp; omega)).trans e1, e3⟩
  have g3 := g 12 0 3 (by unfold zGp; omega)
  cases s with
  | none => exact g3.trans h5
  | some x => exact ⟨g3.trans h5.1, h5.2.1, gr (by omega) h5.2.2⟩
theorem zIm.grid {m' : zM} {a' : zG} (I : zIm a b n s l c e m) (f : zFr (fun k i _ => k = 23 ∧ i = 0) m m') (r : zMR (m'.1 23 0) a') : zIm a' b n s l c e m' := by
  obtain ⟨h3, ⟨q5, q7⟩, h6, ⟨t3, t5⟩, e2⟩ := I
  have g : ∀ k i j, ¬ (k = 23 ∧ i = 0) → m'.1 k i j = m.1 k i j := fun k i j w => (f k i j w).1
  refine ⟨r, ⟨(g _ _ _ (by omega)).trans q5, fun j hj => ?_⟩, ?_, ⟨(g _ _ _ (by omega)).trans t3, fun t ht => (g _ _ _ (by omega)).trans (t5 t ht)⟩, (g _ _ _ (by omega)).trans e2⟩
  · rw [show (fun x => m'.1 24 0 (259 * j + x)) = fun x => m.1 24 0 (259 * j + x) from funext fun x => g 24 0 _ (by omega)]
    exact q7 j hj
  · have g3 := g 13 0 5 (by omega)
    cases s with
    | none => exact g3.trans h6
    | some x => exact ⟨g3.trans h6.1, by rw [show m'.1 23 1 = m.1 23 1 from funext fun j => g 23 1 j (by omega)]; exact h6.2⟩
theorem t_setHeight (I : zInv m) (x : Int32) (y : Int32) : zAg Int32.toInt64 (f_L_setHeight x y m) (f_X12_setHeight x y) := by
  obtain ⟨a, b, n, p, s, l, c, e, I'⟩ := I
  have v := I'.1
  have n64 := v.n64
  obtain ⟨C, J⟩ := I'.split
  have bad : ∀ (k : Int32), ¬ k ≤ 0 → ∀ m', f_X12_sets_30 3 x y k m' = some (0, z_sI m' 13 0 0 k) := fun k hk m' => by
    unfold f_X12_sets_30
    rw [z_th0, if_neg hk]
  unfold f_L_setHeight
  rcases z_cell v x with ⟨d, hd, rfl⟩ | hx
  · rcases z_rng y (lo := 0) (hi := 99) (by omega) (by omega) with ⟨k, _, k2, rfl, g1, g2⟩ | ⟨g0, g1, g2⟩
    · refine zAg.mut Int32.toInt64 J (v := Int32.ofNat (a.ht d)) (a' := a.sH d k) (b' := zpsh b n a) (n' := min (n + 1) 8) (p' := (p + 1) % 8) (s' := s) (l' := l) (c' := c) (e' := e) ?_ fun m1 J1 => ?_
      · obtain ⟨m1, p1, p2, p3⟩ := s_rem C
        have r1 := p3.2.1
        have fr : zFr (zGp 0) m1 (z_sI m1 20 0 d (Int32.ofNat k)) := zFr.sI (zFr.refl m1) _ (by unfold zGp; omega)
        unfold f_X11_setHeight
        rw [s_req v I'.2.1 hd, zbx_l, show (0 : Int32) = Int32.ofNat 0 from rfl, show (99 : Int32) = Int32.ofNat 99 from rfl, g1, zbx_l, p1, Option.bind_some, s_at' 20 0 (show d < 64 by omega), Option.bind_some, show m1.1 20 0 d = Int32.ofNat (a.ht d) from r1.ht d (by omega), s_put 20 0 (show d < 64 by omega), Option.bind_some]
        exact ⟨_, rfl, (p2.mono fun k i j => zPrm_n).trans (fr.mono fun k i j => zGp0_n), p3.grid fr (v.sH k2) (r1.sH k)⟩
      · unfold f_X12_setHeight f_X12_sets
        rw [s_isCell v J1.1 hd, Option.bind_some, if_neg (by decide), show (0 : Int64) = Int32.toInt64 (Int32.ofNat 0) from rfl, show (99 : Int32) = Int32.ofNat 99 from rfl, g2, Option.bind_some, if_neg (by decide)]
        unfold f_X12_sets_30
        obtain ⟨m2, q1, q2, q3⟩ := s_chg C.2.2.1.1 (J1.sm (z_th m1 0))
        have fr : zFr (fun k i _ => k = 23 ∧ i = 0) m2 (z_sI m2 23 0 (3 + d) (Int32.ofNat k)) := zFr.sI (zFr.refl m2) _ ⟨rfl, rfl⟩
        rw [z_th0, if_pos (by decide), q1, Option.bind_some, show (3 : Int32) = Int32.ofNat 3 from rfl, zi_add, z_gdt (z_in23 (by omega)), zi_nat (by omega), q3.1.2.2.2.1 d (by omega), Option.bind_some]
        exact ⟨_, rfl, (((z_th m1 0).mono fun k i j => zSm_nc).trans (q2.mono fun k i j => zPch_n)).trans (fr.mono fun k i j => z230_n), by rw [zm_ot _ _ _ _ (by omega), (q2 13 0 0 (by unfold zPch; omega)).1]; exact z_th0 _ _, q3.grid fr (q3.1.sH (by omega) k)⟩
    · refine zAg.ex Int32.toInt64 I'.of (x := 0) (k := 2) ?_ rfl fun m' f => ?_
      · unfold f_X11_setHeight zCl
        rw [s_req v I'.2.1 hd, zbx_l, show (0 : Int32) = Int32.ofNat 0 from rfl, show (99 : Int32) = Int32.ofNat 99 from rfl, g1, zbx_r]
        exact ⟨m, rfl, zFr.refl m⟩
      · unfold zAn f_X12_setHeight f_X12_sets
        rw [s_isCell v (I'.keep f).2.2.1 hd, Option.bind_some, if_neg (by decide), show (0 : Int64) = Int32.toInt64 (Int32.ofNat 0) from rfl, show (99 : Int32) = Int32.ofNat 99 from rfl, g2, Option.bind_some, if_pos (by decide), bad 2 (by decide), Option.bind_some]
        exact ⟨0, _, rfl, z_th m' 2, by decide, z_th0 _ _⟩
  · refine zAg.ex Int32.toInt64 I'.of (x := 1) (k := 1) ?_ rfl fun m' f => ?_
    · unfold f_X11_setHeight zCl
      rw [s_reqn v I'.2.1 hx, zbx_r]
      exact ⟨m, rfl, zFr.refl m⟩
    · unfold zAn f_X12_setHeight f_X12_sets
      rw [s_isCelln v (I'.keep f).2.2.1 hx, Option.bind_some, if_pos (by decide), bad 1 (by decide), Option.bind_some]
      exact ⟨0, _, rfl, z_th m' 1, by decide, z_th0 _ _⟩
theorem t_setRain (I : zInv m) (x : Int32) (y : Int32) : zAg Int32.toInt64 (f_L_setRain x y m) (f_X12_setRain x y) := by
  obtain ⟨a, b, n, p, s, l, c, e, I'⟩ := I
  have v := I'.1
  have n64 := v.n64
  obtain ⟨C, J⟩ := I'.split
  have bad : ∀ (k : Int32), ¬ k ≤ 0 → ∀ m', f_X12_sets_30 67 x y k m' = some (0, z_sI m' 13 0 0 k) := fun k hk m' => by
    unfold f_X12_sets_30
    rw [z_th0, if_neg hk]
  unfold f_L_setRain
  rcases z_cell v x with ⟨d, hd, rfl⟩ | hx
  · rcases z_rng y (lo := 0) (hi := 9) (by omega) (by omega) with ⟨k, _, k2, rfl, g1, g2⟩ | ⟨g0, g1, g2⟩
    · refine zAg.mut Int32.toInt64 J (v := Int32.ofNat (a.rn d)) (a' := a.sR d k) (b' := zpsh b n a) (n' := min (n + 1) 8) (p' := (p + 1) % 8) (s' := s) (l' := l) (c' := c) (e' := e) ?_ fun m1 J1 => ?_
      · obtain ⟨m1, p1, p2, p3⟩ := s_rem C
        have r1 := p3.2.1
        have fr : zFr (zGp 0) m1 (z_sI m1 20 1 d (Int32.ofNat k)) := zFr.sI (zFr.refl m1) _ (by unfold zGp; omega)
        unfold f_X11_setRain
        rw [s_req v I'.2.1 hd, zbx_l, show (0 : Int32) = Int32.ofNat 0 from rfl, show (9 : Int32) = Int32.ofNat 9 from rfl, g1, zbx_l, p1, Option.bind_some, s_at' 20 1 (show d < 64 by omega), Option.bind_some, show m1.1 20 1 d = Int32.ofNat (a.rn d) from r1.rn d (by omega), s_put 20 1 (show d < 64 by omega), Option.bind_some]
        exact ⟨_, rfl, (p2.mono fun k i j => zPrm_n).trans (fr.mono fun k i j => zGp0_n), p3.grid fr (v.sR k2) (r1.sR k)⟩
      · unfold f_X12_setRain f_X12_sets
        rw [s_isCell v J1.1 hd, Option.bind_some, if_neg (by decide), show (0 : Int64) = Int32.toInt64 (Int32.ofNat 0) from rfl, show (9 : Int32) = Int32.ofNat 9 from rfl, g2, Option.bind_some, if_neg (by decide)]
        unfold f_X12_sets_30
        obtain ⟨m2, q1, q2, q3⟩ := s_chg C.2.2.1.1 (J1.sm (z_th m1 0))
        have fr : zFr (fun k i _ => k = 23 ∧ i = 0) m2 (z_sI m2 23 0 (67 + d) (Int32.ofNat k)) := zFr.sI (zFr.refl m2) _ ⟨rfl, rfl⟩
        rw [z_th0, if_pos (by decide), q1, Option.bind_some, show (67 : Int32) = Int32.ofNat 67 from rfl, zi_add, z_gdt (z_in23 (by omega)), zi_nat (by omega), q3.1.2.2.2.2.1 d (by omega), Option.bind_some]
        exact ⟨_, rfl, (((z_th m1 0).mono fun k i j => zSm_nc).trans (q2.mono fun k i j => zPch_n)).trans (fr.mono fun k i j => z230_n), by rw [zm_ot _ _ _ _ (by omega), (q2 13 0 0 (by unfold zPch; omega)).1]; exact z_th0 _ _, q3.grid fr (q3.1.sR (by omega) k)⟩
    · refine zAg.ex Int32.toInt64 I'.of (x := 0) (k := 2) ?_ rfl fun m' f => ?_
      · unfold f_X11_setRain zCl
        rw [s_req v I'.2.1 hd, zbx_l, show (0 : Int32) = Int32.ofNat 0 from rfl, show (9 : Int32) = Int32.ofNat 9 from rfl, g1, zbx_r]
        exact ⟨m, rfl, zFr.refl m⟩
      · unfold zAn f_X12_setRain f_X12_sets
        rw [s_isCell v (I'.keep f).2.2.1 hd, Option.bind_some, if_neg (by decide), show (0 : Int64) = Int32.toInt64 (Int32.ofNat 0) from rfl, show (9 : Int32) = Int32.ofNat 9 from rfl, g2, Option.bind_some, if_pos (by decide), bad 2 (by decide), Option.bind_some]
        exact ⟨0, _, rfl, z_th m' 2, by decide, z_th0 _ _⟩
  · refine zAg.ex Int32.toInt64 I'.of (x := 1) (k := 1) ?_ rfl fun m' f => ?_
    · unfold f_X11_setRain zCl
      rw [s_reqn v I'.2.1 hx, zbx_r]
      exact ⟨m, rfl, zFr.refl m⟩
    · unfold zAn f_X12_setRain f_X12_sets
      rw [s_isCelln v (I'.keep f).2.2.1 hx, Option.bind_some, if_pos (by decide), bad 1 (by decide), Option.bind_some]
      exact ⟨0, _, rfl, z_th m' 1, by decide, z_th0 _ _⟩
theorem t_setSoak (I : zInv m) (x : Int32) (y : Int32) : zAg Int32.toInt64 (f_L_setSoak x y m) (f_X12_setSoak x y) := by
  obtain ⟨a, b, n, p, s, l, c, e, I'⟩ := I
  have v := I'.1
  have n64 := v.n64
  obtain ⟨C, J⟩ := I'.split
  have bad : ∀ (k : Int32), ¬ k ≤ 0 → ∀ m', f_X12_sets_30 131 x y k m' = some (0, z_sI m' 13 0 0 k) := fun k hk m' => by
    unfold f_X12_sets_30
    rw [z_th0, if_neg hk]
  unfold f_L_setSoak
  rcases z_cell v x with ⟨d, hd, rfl⟩ | hx
  · rcases z_rng y (lo := 0) (hi := 9) (by omega) (by omega) with ⟨k, _, k2, rfl, g1, g2⟩ | ⟨g0, g1, g2⟩
    · refine zAg.mut Int32.toInt64 J (v := Int32.ofNat (a.sk d)) (a' := a.sS d k) (b' := zpsh b n a) (n' := min (n + 1) 8) (p' := (p + 1) % 8) (s' := s) (l' := l) (c' := c) (e' := e) ?_ fun m1 J1 => ?_
      · obtain ⟨m1, p1, p2, p3⟩ := s_rem C
        have r1 := p3.2.1
        have fr : zFr (zGp 0) m1 (z_sI m1 20 2 d (Int32.ofNat k)) := zFr.sI (zFr.refl m1) _ (by unfold zGp; omega)
        unfold f_X11_setSoak
        rw [s_req v I'.2.1 hd, zbx_l, show (0 : Int32) = Int32.ofNat 0 from rfl, show (9 : Int32) = Int32.ofNat 9 from rfl, g1, zbx_l, p1, Option.bind_some, s_at' 20 2 (show d < 64 by omega), Option.bind_some, show m1.1 20 2 d = Int32.ofNat (a.sk d) from r1.sk d (by omega), s_put 20 2 (show d < 64 by omega), Option.bind_some]
        exact ⟨_, rfl, (p2.mono fun k i j => zPrm_n).trans (fr.mono fun k i j => zGp0_n), p3.grid fr (v.sS k2) (r1.sS k)⟩
      · unfold f_X12_setSoak f_X12_sets
        rw [s_isCell v J1.1 hd, Option.bind_some, if_neg (by decide), show (0 : Int64) = Int32.toInt64 (Int32.ofNat 0) from rfl, show (9 : Int32) = Int32.ofNat 9 from rfl, g2, Option.bind_some, if_neg (by decide)]
        unfold f_X12_sets_30
        obtain ⟨m2, q1, q2, q3⟩ := s_chg C.2.2.1.1 (J1.sm (z_th m1 0))
        have fr : zFr (fun k i _ => k = 23 ∧ i = 0) m2 (z_sI m2 23 0 (131 + d) (Int32.ofNat k)) := zFr.sI (zFr.refl m2) _ ⟨rfl, rfl⟩
        rw [z_th0, if_pos (by decide), q1, Option.bind_some, show (131 : Int32) = Int32.ofNat 131 from rfl, zi_add, z_gdt (z_in23 (by omega)), zi_nat (by omega), q3.1.2.2.2.2.2.1 d (by omega), Option.bind_some]
        exact ⟨_, rfl, (((z_th m1 0).mono fun k i j => zSm_nc).trans (q2.mono fun k i j => zPch_n)).trans (fr.mono fun k i j => z230_n), by rw [zm_ot _ _ _ _ (by omega), (q2 13 0 0 (by unfold zPch; omega)).1]; exact z_th0 _ _, q3.grid fr (q3.1.sS (by omega) k)⟩
    · refine zAg.ex Int32.toInt64 I'.of (x := 0) (k := 2) ?_ rfl fun m' f => ?_
      · unfold f_X11_setSoak zCl
        rw [s_req v I'.2.1 hd, zbx_l, show (0 : Int32) = Int32.ofNat 0 from rfl, show (9 : Int32) = Int32.ofNat 9 from rfl, g1, zbx_r]
        exact ⟨m, rfl, zFr.refl m⟩
      · unfold zAn f_X12_setSoak f_X12_sets
        rw [s_isCell v (I'.keep f).2.2.1 hd, Option.bind_some, if_neg (by decide), show (0 : Int64) = Int32.toInt64 (Int32.ofNat 0) from rfl, show (9 : Int32) = Int32.ofNat 9 from rfl, g2, Option.bind_some, if_pos (by decide), bad 2 (by decide), Option.bind_some]
        exact ⟨0, _, rfl, z_th m' 2, by decide, z_th0 _ _⟩
  · refine zAg.ex Int32.toInt64 I'.of (x := 1) (k := 1) ?_ rfl fun m' f => ?_
    · unfold f_X11_setSoak zCl
      rw [s_reqn v I'.2.1 hx, zbx_r]
      exact ⟨m, rfl, zFr.refl m⟩
    · unfold zAn f_X12_setSoak f_X12_sets
      rw [s_isCelln v (I'.keep f).2.2.1 hx, Option.bind_some, if_pos (by decide), bad 1 (by decide), Option.bind_some]
      exact ⟨0, _, rfl, z_th m' 1, by decide, z_th0 _ _⟩
theorem t_setThreshold (I : zInv m) (x : Int32) : zAg Int32.toInt64 (f_L_setThreshold x m) (f_X12_setThreshold x) := by
  obtain ⟨a, b, n, p, s, l, c, e, I'⟩ := I
  have v := I'.1
  obtain ⟨C, J⟩ := I'.split
  unfold f_L_setThreshold
  rcases z_rng x (lo := 1) (hi := 99) (by omega) (by omega) with ⟨k, k1, k2, rfl, g1, g2⟩ | ⟨g0, g1, g2⟩
  · refine zAg.mut Int32.toInt64 J (v := Int32.ofNat a.thr) (a' := a.sT k) (b' := zpsh b n a) (n' := min (n + 1) 8) (p' := (p + 1) % 8) (s' := s) (l' := l) (c' := c) (e' := e) ?_ fun m1 J1 => ?_
    · obtain ⟨m1, p1, p2, p3⟩ := s_rem C
      have r1 := p3.2.1
      have fr : zFr (zGp 0) m1 (z_sI m1 6 0 2 (Int32.ofNat k)) := zFr.sI (zFr.refl m1) _ (by unfold zGp; omega)
      unfold f_X11_setThreshold
      rw [show (1 : Int32) = Int32.ofNat 1 from rfl, show (99 : Int32) = Int32.ofNat 99 from rfl, g1, zbx_l, p1, Option.bind_some, r1.thr]
      exact ⟨_, rfl, (p2.mono fun k i j => zPrm_n).trans (fr.mono fun k i j => zGp0_n), p3.grid fr (v.sT k1 k2) (r1.sT k)⟩
    · unfold f_X12_setThreshold
      obtain ⟨m2, q1, q2, q3⟩ := s_chg C.2.2.1.1 (J1.sm (z_th m1 0))
      have fr : zFr (fun k i _ => k = 23 ∧ i = 0) m2 (z_sI m2 23 0 2 (Int32.ofNat k)) := zFr.sI (zFr.refl m2) _ ⟨rfl, rfl⟩
      rw [show (1 : Int64) = Int32.toInt64 (Int32.ofNat 1) from rfl, show (99 : Int64) = Int32.toInt64 (Int32.ofNat 99) from rfl, g2, Option.bind_some, if_neg (by decide), q1, Option.bind_some, z_gdt (by decide)]
      rw [show Int32.toNatClampNeg (2 : Int32) = 2 from rfl, q3.1.2.2.1]
      exact ⟨_, rfl, (((z_th m1 0).mono fun k i j => zSm_nc).trans (q2.mono fun k i j => zPch_n)).trans (fr.mono fun k i j => z230_n), by rw [zm_ot _ _ _ _ (by omega), (q2 13 0 0 (by unfold zPch; omega)).1]; exact z_th0 _ _, q3.grid fr (q3.1.sT k)⟩
  · refine zAg.ex Int32.toInt64 I'.of (x := 0) (k := 1) ?_ rfl fun m' f => ?_
    · unfold f_X11_setThreshold zCl
      rw [show (1 : Int32) = Int32.ofNat 1 from rfl, show (99 : Int32) = Int32.ofNat 99 from rfl, g1, zbx_r]
      exact ⟨m, rfl, zFr.refl m⟩
    · unfold zAn f_X12_setThreshold
      rw [show (1 : Int64) = Int32.toInt64 (Int32.ofNat 1) from rfl, show (99 : Int64) = Int32.toInt64 (Int32.ofNat 99) from rfl, g2, Option.bind_some, if_pos (by decide)]
      exact ⟨0, _, rfl, (z_th m' 0).trans (z_th _ 1), by decide, z_th0 _ _⟩
theorem z_cnt_1 {S : Nat → Bool} {n d : Nat} (hd : d < n) (h : S d = true) : z_cnt S n = 1 ↔ ∀ q, q < n → q ≠ d → S q = false := by
  constructor
  · intro w q hq hn
    cases hs : S q with
    | false => rfl
    | true =>
      have h1 := z_cnt_one (p := fun x => S x && !(decide (x = d))) (q := S) (x := d) hd (fun x _ hx => by simp [hx]) (by simp) h
      have h2 := z_cnt_0.mp (show z_cnt (fun x => S x && !(decide (x = d))) n = 0 by omega) q hq
      simp [hs, hn] at h2
  · intro w
    rw [z_cnt_one (p := fun _ => false) (q := S) (x := d) hd (fun x hx hn => (w x hx hn).symm) rfl h, z_cnt_0.mpr fun _ _ => rfl]
theorem t_setOutlet (I : zInv m) (x : Int32) (u : Bool) : zAg zcb (f_L_setOutlet x (z_bi u) m) (f_X12_setOutlet x (z_bi u)) := by
  obtain ⟨a, b, n, p, s, l, c, e, I'⟩ := I
  have v := I'.1
  have n64 := v.n64
  obtain ⟨C, J⟩ := I'.split
  have bad : ∀ (k : Int32), ¬ k ≤ 0 → ∀ m', f_X12_setOutlet_38 x (z_bi u) k m' = some (false, z_sI m' 13 0 0 k) := fun k hk m' => by
    unfold f_X12_setOutlet_38
    rw [z_th0, if_neg hk]
  unfold f_L_setOutlet
  have e0 : (fun (r1 : Bool) (m2 : zM) => if (z_bi r1) = 0 then f_L_setOutlet_16 (0 : Int32) (0 : Int64) m2 else f_L_setOutlet_16 (0 : Int32) (1 : Int64) m2) = fun r1 m2 => z_gd (z_inb (0 : Int32) (z_alen 32)) <| some ((0 : Int32), (z_sL m2 32 0 (Int32.toNatClampNeg (0 : Int32)) (zcb r1))) := by
    funext r1 m2
    cases r1 <;> rfl
  rw [e0]
  rcases z_cell v x with ⟨d, hd, rfl⟩ | hx
  · by_cases only : u = false ∧ a.ou d = true ∧ z_cnt a.ou a.n = 1
    · obtain ⟨rfl, ho, h1⟩ := only
      refine zAg.ex zcb I'.of (x := 2) (k := 2) ?_ rfl fun m' f => ?_
      · unfold f_X11_setOutlet f_X4_isOnlyOutlet zCl
        rw [s_req v I'.2.1 hd, zbx_l, if_pos (by decide), s_outlet v I'.2.1 hd, Option.bind_some, ho, if_neg (by decide), s_bitn v (zGR.on v I'.2.1), Option.bind_some, h1, if_pos (by decide), Option.bind_some, if_neg (by decide)]
        exact ⟨m, rfl, zFr.refl m⟩
      · have r1 := (I'.keep f).2.2.1
        have h0 := s_outs_4 v r1 zF 0 (Nat.zero_le _) (zF_lt (by omega))
        unfold zAn f_X12_setOutlet f_X12_outlets
        rw [s_isCell v r1 hd, Option.bind_some, if_neg (by decide), if_pos (by decide), s_mout r1 (by omega), Option.bind_some, ho, if_neg (by decide), show f_X12_outlets_4 m' zF (0 : Int32) (0 : Int32) = _ from h0, Option.bind_some, h1, if_pos (by decide), bad 2 (by decide)]
        exact ⟨_, _, rfl, z_th m' 2, by decide, z_th0 _ _⟩
    · have hok : u = true ∨ ∃ q, q ≠ d ∧ q < a.n ∧ a.ou q = true := by
        cases hu : u with
        | true => exact .inl rfl
        | false =>
          refine .inr ?_
          cases ho : a.ou d with
          | false =>
            obtain ⟨q, q1, q2⟩ := v.ou
            exact ⟨q, (fun w => by rw [w, ho] at q2; cases q2), q1, q2⟩
          | true =>
            refine Classical.byContradiction fun w => only ⟨hu, ho, (z_cnt_1 hd ho).mpr fun q q1 q2 => Bool.eq_false_iff.mpr fun q3 => w ⟨q, q2, q1, q3⟩⟩
      refine zAg.mut zcb J (v := a.ou d) (a' := a.sO d u) (b' := zpsh b n a) (n' := min (n + 1) 8) (p' := (p + 1) % 8) (s' := s) (l' := l) (c' := c) (e' := e) ?_ fun m1 J1 => ?_
      · obtain ⟨m1, p1, p2, p3⟩ := s_rem C
        have r1 := p3.2.1
        obtain ⟨y, y1, y2⟩ := s_mark v r1 hd u
        have fr : zFr (zGp 0) m1 (z_sL m1 6 0 3 y) := zFr.sL (zFr.refl m1) _ (by unfold zGp; omega)
        have go : ∃ m1, f_X11_setOutlet_30 (Int32.ofNat d) (z_bi u) m = some (.inl (a.ou d), m1) ∧ zFr zNm m m1 ∧ zIc (a.sO d u) (zpsh b n a) (min (n + 1) 8) ((p + 1) % 8) s l c e m1 := by
          unfold f_X11_setOutlet_30
          rw [p1, Option.bind_some, s_outlet v r1 hd, Option.bind_some, y1, Option.bind_some]
          exact ⟨_, rfl, (p2.mono fun k i j => zPrm_n).trans (fr.mono fun k i j => zGp0_n), p3.grid fr (v.sO hd hok) (r1.sO y2)⟩
        unfold f_X11_setOutlet
        rw [s_req v I'.2.1 hd, zbx_l]
        cases hu : u with
        | true =>
          rw [hu] at go
          rw [if_neg (by decide)]
          exact go
        | false =>
          rw [hu] at go
          unfold f_X4_isOnlyOutlet
          rw [if_pos (by decide), s_outlet v I'.2.1 hd, Option.bind_some]
          cases ho : a.ou d with
          | false =>
            rw [ho] at go
            rw [if_pos (by decide), Option.bind_some, if_pos (by decide)]
            exact go
          | true =>
            rw [ho] at go
            rw [if_neg (by decide), s_bitn v (zGR.on v I'.2.1), Option.bind_some, if_neg (by rw [show (1 : Int32) = Int32.ofNat 1 from rfl, zi_eq (by have := z_cnt_le a.ou a.n; omega) (by omega)]; exact fun w => only ⟨hu, ho, w⟩), Option.bind_some, if_pos (by decide)]
            exact go
      · have go : ∃ m2, f_X12_setOutlet_37 (Int32.ofNat d) (z_bi u) m1 = some (a.ou d, m2) ∧ zFr zNc m1 m2 ∧ m2.1 13 0 0 = 0 ∧ zIm (a.sO d u) (zpsh b n a) (min (n + 1) 8) s l c e m2 := by
          obtain ⟨m2, q1, q2, q3⟩ := s_chg C.2.2.1.1 (J1.sm (z_th m1 0))
          have fr : zFr (fun k i _ => k = 23 ∧ i = 0) m2 (z_sI m2 23 0 (195 + d) (z_bi u)) := zFr.sI (zFr.refl m2) _ ⟨rfl, rfl⟩
          have fin : ∃ m3, some (a.ou d, z_sI m2 23 0 (195 + d) (z_bi u)) = some (a.ou d, m3) ∧ zFr zNc m1 m3 ∧ m3.1 13 0 0 = 0 ∧ zIm (a.sO d u) (zpsh b n a) (min (n + 1) 8) s l c e m3 := ⟨_, rfl, (((z_th m1 0).mono fun k i j => zSm_nc).trans (q2.mono fun k i j => zPch_n)).trans (fr.mono fun k i j => z230_n), by rw [zm_ot _ _ _ _ (by omega), (q2 13 0 0 (by unfold zPch; omega)).1]; exact z_th0 _ _, q3.grid fr (q3.1.sO (by omega) u)⟩
          have eo : decide (z_bi (a.ou d) = 1) = a.ou d := by cases a.ou d <;> rfl
          have eb : z_b01 (z_bi (a.ou d)) = true := by cases a.ou d <;> rfl
          unfold f_X12_setOutlet_37 f_X12_setOutlet_38
          rw [z_th0, if_pos (by decide), q1, Option.bind_some, s_mout q3.1 (by omega), Option.bind_some, show (195 : Int32) = Int32.ofNat 195 from rfl, zi_add]
          cases hu : u with
          | true =>
            rw [hu] at fin
            rw [if_neg (by decide)]
            unfold f_X12_setOutlet_78
            rw [z_gdt (z_in23 (by omega)), z_gdt eb, eo, zi_nat (by omega)]
            exact fin
          | false =>
            rw [hu] at fin
            rw [if_pos (by decide)]
            unfold f_X12_setOutlet_78
            rw [z_gdt (z_in23 (by omega)), z_gdt eb, eo, zi_nat (by omega)]
            exact fin
        unfold f_X12_setOutlet
        rw [s_isCell v J1.1 hd, Option.bind_some, if_neg (by decide)]
        cases hu : u with
        | true =>
          rw [hu] at go
          rw [if_neg (by decide)]
          exact go
        | false =>
          rw [hu] at go
          rw [if_pos (by decide), s_mout J1.1 (by omega), Option.bind_some]
          cases ho : a.ou d with
          | false =>
            rw [ho] at go
            rw [if_pos (by decide)]
            exact go
          | true =>
            rw [ho] at go
            have h0 := s_outs_4 v J1.1 zF 0 (Nat.zero_le _) (zF_lt (by omega))
            unfold f_X12_outlets
            rw [if_neg (by decide), show f_X12_outlets_4 m1 zF (0 : Int32) (0 : Int32) = _ from h0, Option.bind_some, if_neg (by rw [show (1 : Int32) = Int32.ofNat 1 from rfl, zi_eq (by have := z_cnt_le a.ou a.n; omega) (by omega)]; exact fun w => only ⟨hu, ho, w⟩)]
            exact go
  · refine zAg.ex zcb I'.of (x := 1) (k := 1) ?_ rfl fun m' f => ?_
    · unfold f_X11_setOutlet zCl
      rw [s_reqn v I'.2.1 hx, zbx_r]
      exact ⟨m, rfl, zFr.refl m⟩
    · unfold zAn f_X12_setOutlet
      rw [s_isCelln v (I'.keep f).2.2.1 hx, Option.bind_some, if_pos (by decide), bad 1 (by decide)]
      exact ⟨_, _, rfl, z_th m' 1, by decide, z_th0 _ _⟩
end
