/-! Calls that ask: sights, sections, pools. -/
section
variable {m : zM} {a : zG}
theorem z_m0 (x : Nat) : (Int32.ofNat x).toInt64 = Int32.toInt64 (Int32.ofNat x) := rfl
theorem s_view_26 (v : zGV a) {o : Nat} (ho : o < a.n) (e : Int32) : ∀ (j c : Nat) (x : Int64) (m : zM), c ≤ a.n → a.n - c < j → zGR m 0 a → (∀ d, d < 64 → zb x d = (decide (d < c) && a.see o d e)) →
    ∃ A m', f_X11_viewshed_26 j (Int32.ofNat o) e x (Int32.ofNat a.n) (Int32.ofNat c) m = some (.inl A, m') ∧ zFr zSc m m' ∧ ∀ d, d < 64 → zb A d = (decide (d < a.n) && a.see o d e)
  | 0, _, _, _, _, h, _, _ => absurd h (Nat.not_lt_zero _)
  | j + 1, c, x, m, hc, hj, r, hx => by
    have n64 := v.n64
    unfold f_X11_viewshed_26
    by_cases he : c = a.n
    · subst he
      rw [if_pos (by rw [zi_le (by omega) (by omega)]; omega)]
      exact ⟨x, m, rfl, zFr.refl m, hx⟩
    · have hcn : c < a.n := by omega
      have hj2 : a.n - (c + 1) < j := by omega
      obtain ⟨m1, p1, p2, p3⟩ := s_draw v (show 0 < 11 by omega) ho hcn r
      have r1 : zGR m1 0 a := r.keep p2 fun k i j w => by unfold zGp at w; unfold zPli; omega
      rw [if_neg (by rw [zi_le (by omega) (by omega)]; omega), p1, Option.bind_some, s_isOpen v ho hcn e r1 p3, Option.bind_some, zi_s]
      have go : ∀ y : Int64, (∀ d, d < 64 → zb y d = (decide (d < c + 1) && a.see o d e)) → ∃ A m', f_X11_viewshed_26 j (Int32.ofNat o) e y (Int32.ofNat a.n) (Int32.ofNat (c + 1)) m1 = some (.inl A, m') ∧ zFr zSc m m' ∧ ∀ d, d < 64 → zb A d = (decide (d < a.n) && a.see o d e) := fun y hy => by
        obtain ⟨A, m', q1, q2, q3⟩ := s_view_26 v ho e j (c + 1) y m1 hcn hj2 r1 hy
        exact ⟨A, m', q1, (p2.mono fun k i j => zPli_c).trans q2, q3⟩
      cases hq : a.see o c e with
      | false =>
        rw [if_pos (by decide)]
        refine go x fun d hd => ?_
        rw [hx d hd]
        by_cases z : d = c
        · rw [z, hq]; simp
        · have : d < c ↔ d < c + 1 := by omega
          simp only [this]
      | true =>
        rw [if_neg (by decide)]
        refine go _ fun d hd => ?_
        rw [zb_or, hx d hd, zb_one (by omega) hd]
        by_cases z : d = c
        · rw [z, hq]; simp
        · have : d < c ↔ d < c + 1 := by omega
          simp [z, this]
theorem s_view_47 (v : zGV a) {o : Nat} (ho : o < a.n) (e : Int32) {m : zM} (r : zMR (m.1 23 0) a) {A : Int64} (hA : ∀ d, d < 64 → zb A d = (decide (d < a.n) && a.see o d e)) : ∀ (j c : Nat) (x : Int64), c ≤ a.n → a.n - c < j → (∀ d, d < 64 → zb x d = (decide (d < c) && a.see o d e)) → f_X12_viewshed_47 j (Int32.ofNat o) e x (Int32.ofNat c) m = some (A, m)
  | 0, _, _, _, h, _ => absurd h (Nat.not_lt_zero _)
  | j + 1, c, x, hc, hj, hx => by
    have n64 := v.n64
    unfold f_X12_viewshed_47
    rw [s_mcells r, Option.bind_some]
    by_cases he : c = a.n
    · subst he
      rw [if_pos (by rw [zi_le (by omega) (by omega)]; omega)]
      congr 2
      exact zb_ext fun d hd => by rw [hx d hd, hA d hd]
    · have hcn : c < a.n := by omega
      have hj2 : a.n - (c + 1) < j := by omega
      rw [if_neg (by rw [zi_le (by omega) (by omega)]; omega), s_isSeen v ho hcn e r, Option.bind_some, zi_s]
      cases hq : a.see o c e with
      | false =>
        rw [if_pos (by decide)]
        refine s_view_47 v ho e r hA j (c + 1) x hcn hj2 fun d hd => ?_
        rw [hx d hd]
        by_cases z : d = c
        · rw [z, hq]; simp
        · have : d < c ↔ d < c + 1 := by omega
          simp only [this]
      | true =>
        rw [if_neg (by decide)]
        refine s_view_47 v ho e r hA j (c + 1) _ hcn hj2 fun d hd => ?_
        rw [zb_or, hx d hd, zb_one (by omega) hd]
        by_cases z : d = c
        · rw [z, hq]; simp
        · have : d < c ↔ d < c + 1 := by omega
          simp [z, this]
theorem t_viewshed (I : zInv m) (x : Int32) (y : Int32) : zAg (fun u : Int64 => u) (f_L_viewshed x y m) (f_X12_viewshed x y) := by
  obtain ⟨a, b, n, p, s, l, c, e, I'⟩ := I
  have v := I'.1
  have n64 := v.n64
  unfold f_L_viewshed
  rcases z_cell v x with ⟨d, hd, rfl⟩ | hx
  · rcases z_rng y (lo := 0) (hi := 99) (by omega) (by omega) with ⟨k, _, k2, rfl, g1, g2⟩ | ⟨g0, g1, g2⟩
    · obtain ⟨A, m1, h1, h2, h3⟩ := s_view_26 v hd (Int32.ofNat k) zF 0 0 m (Nat.zero_le _) (zF_lt (by omega)) I'.2.1 fun d _ => by rw [zb_0]; simp
      refine zAg.ok (fun u : Int64 => u) I'.of (v := A) ?_ fun m' f => ?_
      · unfold f_X11_viewshed zCl
        rw [s_req v I'.2.1 hd, zbx_l, show (0 : Int32) = Int32.ofNat 0 from rfl, show (99 : Int32) = Int32.ofNat 99 from rfl, g1, zbx_l, s_size v I'.2.1, Option.bind_some, h1]
        exact ⟨m1, rfl, h2⟩
      · have I1 := I'.keep f
        have r1 := I1.2.2.1.th 0
        unfold zAn f_X12_viewshed
        rw [s_isCell v I1.2.2.1 hd, Option.bind_some, if_neg (by decide), show (0 : Int64) = Int32.toInt64 (Int32.ofNat 0) from rfl, show (99 : Int64) = Int32.toInt64 (Int32.ofNat 99) from rfl, g2, Option.bind_some, if_neg (by decide)]
        unfold f_X12_viewshed_30
        rw [z_th0, if_pos (by decide)]
        exact ⟨A, _, s_view_47 v hd (Int32.ofNat k) r1 h3 zF 0 0 (Nat.zero_le _) (zF_lt (by omega)) (fun d _ => by rw [zb_0]; simp), z_th m' 0, z_th0 _ _, rfl⟩
    · refine zAg.ex (fun u : Int64 => u) I'.of (x := 0) (k := 2) ?_ rfl fun m' f => ?_
      · unfold f_X11_viewshed zCl
        rw [s_req v I'.2.1 hd, zbx_l, show (0 : Int32) = Int32.ofNat 0 from rfl, show (99 : Int32) = Int32.ofNat 99 from rfl, g1, zbx_r]
        exact ⟨m, rfl, zFr.refl m⟩
      · have I1 := I'.keep f
        unfold zAn f_X12_viewshed
        rw [s_isCell v I1.2.2.1 hd, Option.bind_some, if_neg (by decide), show (0 : Int64) = Int32.toInt64 (Int32.ofNat 0) from rfl, show (99 : Int64) = Int32.toInt64 (Int32.ofNat 99) from rfl, g2, Option.bind_some, if_pos (by decide)]
        unfold f_X12_viewshed_30
        rw [z_th0, if_neg (by decide)]
        exact ⟨0, _, rfl, z_th _ 2, by decide, z_th0 _ _⟩
  · refine zAg.ex (fun u : Int64 => u) I'.of (x := 1) (k := 1) ?_ rfl fun m' f => ?_
    · unfold f_X11_viewshed zCl
      rw [s_reqn v I'.2.1 hx]
      exact ⟨m, rfl, zFr.refl m⟩
    · have I1 := I'.keep f
      unfold zAn f_X12_viewshed
      rw [s_isCelln v I1.2.2.1 hx, Option.bind_some, if_pos (by decide)]
      unfold f_X12_viewshed_30
      rw [z_th0, if_neg (by decide)]
      exact ⟨0, _, rfl, z_th _ 1, by decide, z_th0 _ _⟩
def zcb (u : Bool) : Int64 := if u = true then 1 else 0
theorem t_sees (I : zInv m) (x : Int32) (y : Int32) (z : Int32) : zAg zcb (f_L_sees x y z m) (f_X12_sees x y z) := by
  obtain ⟨a, b, n, p, s, l, c, e, I'⟩ := I
  have v := I'.1
  have n64 := v.n64
  unfold f_L_sees
  have e0 : (fun (r1 : Bool) (m2 : zM) => if (z_bi r1) = 0 then f_L_sees_18 (0 : Int32) (0 : Int64) m2 else f_L_sees_18 (0 : Int32) (1 : Int64) m2) = fun r1 m2 => z_gd (z_inb (0 : Int32) (z_alen 32)) <| some ((0 : Int32), (z_sL m2 32 0 (Int32.toNatClampNeg (0 : Int32)) (zcb r1))) := by
    funext r1 m2
    cases r1 <;> rfl
  rw [e0]
  have bad : ∀ (k : Int32), k ≠ 0 → ∀ m', f_X12_sees_38 x y z k m' = some (false, z_sI m' 13 0 0 k) := fun k hk m' => by
    unfold f_X12_sees_38
    rw [z_th0, if_neg hk]
  rcases z_cell v x with ⟨d, hd, rfl⟩ | hx
  · rcases z_cell v y with ⟨o, ho, rfl⟩ | hy
    · rcases z_rng z (lo := 0) (hi := 99) (by omega) (by omega) with ⟨k, _, k2, rfl, g1, g2⟩ | ⟨g0, g1, g2⟩
      · refine zAg.ok zcb I'.of (v := a.see d o (Int32.ofNat k)) ?_ fun m' f => ?_
        · obtain ⟨m1, p1, p2, p3⟩ := s_draw v (show 0 < 11 by omega) hd ho I'.2.1
          have r1 : zGR m1 0 a := I'.2.1.keep p2 fun k i j w => by unfold zGp at w; unfold zPli; omega
          unfold f_X11_sees zCl
          rw [s_req v I'.2.1 hd, zbx_l, s_req v I'.2.1 ho, zbx_l, show (0 : Int32) = Int32.ofNat 0 from rfl, show (99 : Int32) = Int32.ofNat 99 from rfl, g1, zbx_l, p1, Option.bind_some, s_isOpen v hd ho _ r1 p3, Option.bind_some]
          exact ⟨m1, rfl, p2.mono fun k i j => zPli_c⟩
        · have I1 := I'.keep f
          have r1 := I1.2.2.1.th 0
          unfold zAn f_X12_sees
          rw [s_isCell v I1.2.2.1 hd, Option.bind_some, if_neg (by decide), s_isCell v I1.2.2.1 ho, Option.bind_some, if_neg (by decide), show (0 : Int64) = Int32.toInt64 (Int32.ofNat 0) from rfl, show (99 : Int64) = Int32.toInt64 (Int32.ofNat 99) from rfl, g2, Option.bind_some, if_neg (by decide)]
          unfold f_X12_sees_38
          rw [z_th0, if_pos rfl, s_isSeen v hd ho _ r1, Option.bind_some]
          refine ⟨a.see d o (Int32.ofNat k), _, ?_, z_th m' 0, z_th0 _ _, rfl⟩
          cases a.see d o (Int32.ofNat k) with
          | false => rw [if_pos (by decide)]
          | true => rw [if_neg (by decide)]
      · refine zAg.ex zcb I'.of (x := 0) (k := 2) ?_ rfl fun m' f => ?_
        · unfold f_X11_sees zCl
          rw [s_req v I'.2.1 hd, zbx_l, s_req v I'.2.1 ho, zbx_l, show (0 : Int32) = Int32.ofNat 0 from rfl, show (99 : Int32) = Int32.ofNat 99 from rfl, g1, zbx_r]
          exact ⟨m, rfl, zFr.refl m⟩
        · have I1 := I'.keep f
          unfold zAn f_X12_sees
          rw [s_isCell v I1.2.2.1 hd, Option.bind_some, if_neg (by decide), s_isCell v I1.2.2.1 ho, Option.bind_some, if_neg (by decide), show (0 : Int64) = Int32.toInt64 (Int32.ofNat 0) from rfl, show (99 : Int64) = Int32.toInt64 (Int32.ofNat 99) from rfl, g2, Option.bind_some, if_pos (by decide), bad 2 (by decide)]
          exact ⟨false, _, rfl, z_th _ 2, by decide, z_th0 _ _⟩
    · refine zAg.ex zcb I'.of (x := 1) (k := 1) ?_ rfl fun m' f => ?_
      · unfold f_X11_sees zCl
        rw [s_req v I'.2.1 hd, zbx_l, s_reqn v I'.2.1 hy, zbx_r]
        exact ⟨m, rfl, zFr.refl m⟩
      · have I1 := I'.keep f
        unfold zAn f_X12_sees
        rw [s_isCell v I1.2.2.1 hd, Option.bind_some, if_neg (by decide), s_isCelln v I1.2.2.1 hy, Option.bind_some, if_pos (by decide), bad 1 (by decide)]
        exact ⟨false, _, rfl, z_th _ 1, by decide, z_th0 _ _⟩
  · refine zAg.ex zcb I'.of (x := 1) (k := 1) ?_ rfl fun m' f => ?_
    · unfold f_X11_sees zCl
      rw [s_reqn v I'.2.1 hx]
      exact ⟨m, rfl, zFr.refl m⟩
    · have I1 := I'.keep f
      unfold zAn f_X12_sees
      rw [s_isCelln v I1.2.2.1 hx, Option.bind_some, if_pos (by decide), bad 1 (by decide)]
      exact ⟨false, _, rfl, z_th _ 1, by decide, z_th0 _ _⟩
theorem t_sectionCell (I : zInv m) (x : Int32) (y : Int32) (z : Int32) : zAg Int32.toInt64 (f_L_sectionCell x y z m) (f_X12_sectionCell x y z) := by
  obtain ⟨a, b, n, p, s, l, c, e, I'⟩ := I
  have v := I'.1
  have n64 := v.n64
  unfold f_L_sectionCell
  rcases z_cell v x with ⟨d, hd, rfl⟩ | hx
  · rcases z_cell v y with ⟨o, ho, rfl⟩ | hy
    · have f7 := zG.far7 v hd ho
      obtain ⟨m1, p1, p2, p3⟩ := s_draw v (show 0 < 11 by omega) hd ho I'.2.1
      rcases z_rng z (lo := 0) (hi := a.far d o) (by omega) (by omega) with ⟨k, _, k2, rfl, g1, g2⟩ | ⟨g0, g1, g2⟩
      · refine zAg.ok Int32.toInt64 I'.of (v := Int32.ofNat (a.al d o k)) ?_ fun m' f => ?_
        · unfold f_X11_sectionCell zCl
          rw [s_req v I'.2.1 hd, zbx_l, s_req v I'.2.1 ho, zbx_l, p1, Option.bind_some, if_neg (zi_nn (by omega)), p3.1, if_pos (by rw [zi_lt (by omega) (by omega)]; omega), s_at' 22 0 (by rw [zl_22]; omega), Option.bind_some, p3.2 k k2]
          exact ⟨m1, rfl, p2.mono fun k i j => zPli_c⟩
        · have r1 := (I'.keep f).2.2.1.th 0
          unfold zAn f_X12_sectionCell
          rw [s_isCell v r1 hd, Option.bind_some, if_neg (by decide), s_isCell v r1 ho, Option.bind_some, if_neg (by decide), s_far v r1 hd ho, Option.bind_some, show (0 : Int64) = Int32.toInt64 (Int32.ofNat 0) from rfl, g2, Option.bind_some, if_neg (by decide), s_along v r1 hd ho k2, Option.bind_some]
          exact ⟨_, _, rfl, z_th m' 0, z_th0 _ _, rfl⟩
      · refine zAg.ex Int32.toInt64 I'.of (x := 3) (k := 2) ?_ rfl fun m' f => ?_
        · unfold f_X11_sectionCell zCl
          rw [s_req v I'.2.1 hd, zbx_l, s_req v I'.2.1 ho, zbx_l, p1, Option.bind_some, p3.1]
          refine ⟨m1, ?_, p2.mono fun k i j => zPli_c⟩
          rcases zi_cases z with w | ⟨k, kb, rfl⟩
          · rw [if_pos w]
          · rw [if_neg (zi_nn kb), if_neg]
            rw [zi_lt kb (by omega)]
            exact fun w => g0 k (by omega) (by omega) rfl
        · have r1 := (I'.keep f).2.2.1.th 0
          unfold zAn f_X12_sectionCell
          rw [s_isCell v r1 hd, Option.bind_some, if_neg (by decide), s_isCell v r1 ho, Option.bind_some, if_neg (by decide), s_far v r1 hd ho, Option.bind_some, show (0 : Int64) = Int32.toInt64 (Int32.ofNat 0) from rfl, g2, Option.bind_some, if_pos (by decide)]
          exact ⟨0, _, rfl, (z_th m' 0).trans (z_th _ 2), by decide, z_th0 _ _⟩
    · refine zAg.ex Int32.toInt64 I'.of (x := 1) (k := 1) ?_ rfl fun m' f => ?_
      · unfold f_X11_sectionCell zCl
        rw [s_req v I'.2.1 hd, zbx_l, s_reqn v I'.2.1 hy, zbx_r]
        exact ⟨m, rfl, zFr.refl m⟩
      · have r1 := (I'.keep f).2.2.1.th 0
        unfold zAn f_X12_sectionCell
        rw [s_isCell v r1 hd, Option.bind_some, if_neg (by decide), s_isCelln v r1 hy, Option.bind_some, if_pos (by decide)]
        exact ⟨0, _, rfl, (z_th m' 0).trans (z_th _ 1), by decide, z_th0 _ _⟩
  · refine zAg.ex Int32.toInt64 I'.of (x := 1) (k := 1) ?_ rfl fun m' f => ?_
    · unfold f_X11_sectionCell zCl
      rw [s_reqn v I'.2.1 hx]
      exact ⟨m, rfl, zFr.refl m⟩
    · have I1 := I'.keep f
      unfold zAn f_X12_sectionCell
      rw [s_isCelln v (I1.2.2.1.th 0) hx, Option.bind_some, if_pos (by decide)]
      exact ⟨0, _, rfl, (z_th m' 0).trans (z_th _ 1), by decide, z_th0 _ _⟩
theorem s_pl_35 (v : zGV a) {t : Nat} (ht : t ≤ 99) {A : Int64} (hA : ∀ d, zb A d = a.pc t d) : ∀ (j c : Nat) (x : Int64) (m : zM), c ≤ a.n → a.n - c < j → zMR (m.1 23 0) a → (∀ d, d < 64 → zb x d = (decide (d < c) && a.pc t d)) → ∃ m', f_X12_pools_35 j (Int32.ofNat t) x (Int32.ofNat c) m = some (A, m') ∧ zFr zPln m m'
  | 0, _, _, _, _, h, _, _ => absurd h (Nat.not_lt_zero _)
  | j + 1, c, x, m, hc, hj, r, hx => by
    have n64 := v.n64
    unfold f_X12_pools_35
    rw [s_mcells r, Option.bind_some]
    by_cases he : c = a.n
    · subst he
      rw [if_pos (by rw [zi_le (by omega) (by omega)]; omega)]
      refine ⟨m, ?_, zFr.refl m⟩
      congr 2
      refine zb_ext fun d hd => ?_
      rw [hx d hd, hA d]
      cases w : a.pc t d with
      | false => simp
      | true => simp [zG.pc_n w]
    · have hcn : c < a.n := by omega
      have hj2 : a.n - (c + 1) < j := by omega
      have hht := v.ht c
      rw [if_neg (by rw [zi_le (by omega) (by omega)]; omega), s_mheight r (by omega), Option.bind_some, zi_s]
      have step : a.pc t c = false → ∀ d, d < 64 → zb x d = (decide (d < c + 1) && a.pc t d) := fun hq d hd => by
        rw [hx d hd]
        by_cases z : d = c
        · rw [z, hq]; simp
        · have : d < c ↔ d < c + 1 := by omega
          simp only [this]
      by_cases w : a.ht c ≤ t
      · have hlo : a.lo t c = true := zG.lo_iff.mpr ⟨hcn, w⟩
        obtain ⟨m1, p1, p2, p3⟩ := s_land v (lo := 0) (hi := t) (by omega) ht (c := c) (by rw [zG.rg0]; exact hlo) r
        have r1 : zMR (m1.1 23 0) a := by rw [p2.row (fun j => by unfold zPln; omega)]; exact r
        obtain ⟨bo, b1, b2⟩ := s_isPool v r1
        rw [if_pos (by rw [zi_le (by omega) (by omega)]; exact w), show (0 : Int32) = Int32.ofNat 0 from rfl, p1, Option.bind_some, b1, Option.bind_some]
        have hpool : bo = true ↔ a.pc t c = true := by
          rw [b2, zG.pool_iff v hlo]
          constructor
          · exact fun q d h1 => q d (zG.lo_n (zRch.inW h1)) ((p3 d).mpr (by rw [zG.rg0]; exact h1))
          · exact fun q d _ h1 => q d (by have := (p3 d).mp h1; rw [zG.rg0] at this; exact this)
        cases hbo : bo with
        | false =>
          rw [if_pos (by decide)]
          have hq : a.pc t c = false := by
            cases q : a.pc t c with
            | false => rfl
            | true => have := hpool.mpr q; rw [hbo] at this; cases this
          obtain ⟨m', q1, q2⟩ := s_pl_35 v ht hA j (c + 1) x m1 hcn hj2 r1 (step hq)
          exact ⟨m', q1, p2.trans q2⟩
        | true =>
          rw [if_neg (by decide)]
          obtain ⟨m', q1, q2⟩ := s_pl_35 v ht hA j (c + 1) (x ||| z_shl 1 (Int32.ofNat c)) m1 hcn hj2 r1 fun d hd => by
            rw [zb_or, hx d hd, zb_one (by omega) hd]
            by_cases z : d = c
            · rw [z, hpool.mp hbo]; simp
            · have : d < c ↔ d < c + 1 := by omega
              simp [z, this]
          exact ⟨m', q1, p2.trans q2⟩
      · rw [if_neg (by rw [zi_le (by omega) (by omega)]; exact w)]
        have hq : a.pc t c = false := by
          cases q : a.pc t c with
          | false => rfl
          | true => exact absurd (zG.lo_iff.mp (zG.pc_iff.mp q).1).2 w
        exact s_pl_35 v ht hA j (c + 1) x m hcn hj2 r (step hq)
theorem t_pools (I : zInv m) (x : Int32) : zAg (fun u : Int64 => u) (f_L_pools x m) (f_X12_pools x) := by
  obtain ⟨a, b, n, p, s, l, c, e, I'⟩ := I
  have v := I'.1
  have n64 := v.n64
  unfold f_L_pools
  rcases z_rng x (lo := 0) (hi := 99) (by omega) (by omega) with ⟨k, _, k2, rfl, g1, g2⟩ | ⟨g0, g1, g2⟩
  · obtain ⟨A, a1, a2⟩ := s_pools v I'.2.1 k2
    refine zAg.ok (fun u : Int64 => u) I'.of (v := A) ?_ fun m' f => ?_
    · unfold f_X11_pools zCl
      rw [show (0 : Int32) = Int32.ofNat 0 from rfl, show (99 : Int32) = Int32.ofNat 99 from rfl, g1, zbx_l, a1, Option.bind_some]
      exact ⟨m, rfl, zFr.refl m⟩
    · have r1 := (I'.keep f).2.2.1.th 0
      obtain ⟨m2, q1, q2⟩ := s_pl_35 v k2 a2 zF 0 0 _ (Nat.zero_le _) (zF_lt (by omega)) r1 fun d _ => by rw [zb_0]; simp
      unfold zAn f_X12_pools
      rw [show (0 : Int64) = Int32.toInt64 (Int32.ofNat 0) from rfl, show (99 : Int64) = Int32.toInt64 (Int32.ofNat 99) from rfl, g2, Option.bind_some, if_neg (by decide)]
      unfold f_X12_pools_18
      rw [z_th0, if_pos (by decide)]
      exact ⟨A, m2, q1, (q2.mono fun k i j => zPln_m).x13, q2.t0 (by unfold zPln; omega) (z_th0 _ _), rfl⟩
  · refine zAg.ex (fun u : Int64 => u) I'.of (x := 0) (k := 1) ?_ rfl fun m' f => ?_
    · unfold f_X11_pools zCl
      rw [show (0 : Int32) = Int32.ofNat 0 from rfl, show (99 : Int32) = Int32.ofNat 99 from rfl, g1, zbx_r]
      exact ⟨m, rfl, zFr.refl m⟩
    · unfold zAn f_X12_pools
      rw [show (0 : Int64) = Int32.toInt64 (Int32.ofNat 0) from rfl, show (99 : Int64) = Int32.toInt64 (Int32.ofNat 99) from rfl, g2, Option.bind_some, if_pos (by decide)]
      unfold f_X12_pools_18
      rw [z_th0, if_neg (by decide)]
      exact ⟨0, _, rfl, z_th _ 1, by decide, z_th0 _ _⟩
/-! Depressions. -/
theorem zDr.keep {D : zDS} {ri li : Nat} {m m' : zM} (h : zDr D ri li m) {P : Nat → Nat → Nat → Prop} (f : zFr P m m') (hp : ∀ k i j, (k = 21 ∧ ri ≤ i ∧ i ≤ ri + 2) ∨ (k = 31 ∧ li ≤ i ∧ i ≤ li + 1) → ¬ P k i j) : zDr D ri li m' :=
  ⟨h.1, fun d hd => by
    obtain ⟨q1, q2, q3, q4, q5, q6⟩ := h.2 d hd
    exact ⟨by rw [(f 21 ri d (hp _ _ _ (by omega))).1]; exact q1, by rw [(f 21 (ri + 1) d (hp _ _ _ (by omega))).1]; exact q2, q3, by rw [(f 21 (ri + 2) d (hp _ _ _ (by omega))).1]; exact q4, fun y => by rw [(f 31 li d (hp _ _ _ (by omega))).2.1]; exact q5 y, fun y => by rw [(f 31 (li + 1) d (hp _ _ _ (by omega))).2.1]; exact q6 y⟩⟩
/-- the depression without a parent whose last pool holds a cell, from d on -/
def zDS.rt (D : zDS) (c : Nat) : Nat → Nat → Option Nat
  | 0, _ => none
  | i + 1, d => if D.p d = none ∧ D.t d c = true then some d else D.rt c i (d + 1)
theorem zDS.rt_lt {D : zDS} {c : Nat} : ∀ (i d q : Nat), D.rt c i d = some q → d ≤ q ∧ q < d + i
  | 0, _, _, h => by cases h
  | i + 1, d, q, h => by
    unfold zDS.rt at h
    by_cases w : D.p d = none ∧ D.t d c = true
    · rw [if_pos w] at h
      cases h
      omega
    · rw [if_neg w] at h
      have := zDS.rt_lt i (d + 1) q h
      omega
theorem zo_bd {a : zG} {D : zDS} {t c : Nat} (h : zDv a t c D) {d e : Nat} (hd : d < D.k) (he : D.p d = some e) : e < 128 := by
  have h1 := (h.2.2.1 d e hd he).2.1
  have h2 := h.kb
  omega
theorem s_root_2 {D : zDS} {t c0 : Nat} (hv : zDv a t c0 D) (hn : m.1 3 0 0 = Int32.ofNat D.k) (hr : zDr D 0 0 m) {c : Nat} (hc : c < 64) : ∀ (j i d : Nat), d + i = D.k → i < j → f_X1_rootAt_2 m j (Int32.ofNat c) (Int32.ofNat d) = some (zo (D.rt c i d))
  | 0, _, _, _, h => absurd h (Nat.not_lt_zero _)
  | j + 1, i, d, hd, hj => by
    have hk := hr.1
    unfold f_X1_rootAt_2
    rw [hn]
    cases i with
    | zero =>
      rw [if_pos (by rw [zi_le (by omega) (by omega)]; omega)]
      rfl
    | succ i =>
      have hdk : d < D.k := by omega
      obtain ⟨_, _, _, q4, _, q6⟩ := hr.2 d hdk
      have ih := s_root_2 hv hn hr hc j i (d + 1) (by omega) (by omega)
      have q4' : m.1 21 2 d = zo (D.p d) := q4
      have q6' : ∀ x, zb (m.2.1 31 1 d) x = D.t d x := q6
      rw [if_neg (by rw [zi_le (by omega) (by omega)]; omega), s_at' 21 2 (by rw [zl_21]; omega), Option.bind_some, q4', zi_s]
      show _ = some (zo (if D.p d = none ∧ D.t d c = true then some d else D.rt c i (d + 1)))
      cases hp : D.p d with
      | some e =>
        have := zo_bd hv hdk hp
        rw [zo_some, if_neg (zi_m1 (by omega)), if_neg (fun w => by cases w.1)]
        exact ih
      | none =>
        rw [zo_none, if_pos rfl, s_al 31 1 (by rw [zl_31]; omega), Option.bind_some, s_has _ hc, Option.bind_some, q6']
        cases ht : D.t d c with
        | false => rw [if_pos (by decide), if_neg (fun w => by cases w.2)]; exact ih
        | true => rw [if_neg (by decide), if_pos ⟨rfl, rfl⟩]; rfl
theorem s_lbp_25 {D : zDS} {t c0 : Nat} (hv : zDv a t c0 D) (v : zGV a) (r : zMR (m.1 23 0) a) (hn : m.1 13 0 21 = Int32.ofNat D.k) (hr : zDr D 3 2 m) {c : Nat} (hc : c < a.n) : ∀ (j i d : Nat), d + i = D.k → i < j → f_X12_levelByPools_25 j (Int32.ofNat c) (Int32.ofNat d) m = some (match D.rt c i d with
    | none => Int32.ofNat (a.ht c)
    | some q => Int32.ofNat (D.l q + 1), m)
  | 0, _, _, _, h => absurd h (Nat.not_lt_zero _)
  | j + 1, i, d, hd, hj => by
    have hk := hr.1
    have n64 := v.n64
    unfold f_X12_levelByPools_25
    rw [hn]
    cases i with
    | zero =>
      rw [if_pos (by rw [zi_le (by omega) (by omega)]; omega), s_mheight r (by omega), Option.bind_some]
      rfl
    | succ i =>
      have hdk : d < D.k := by omega
      obtain ⟨_, q2, q3, q4, _, q6⟩ := hr.2 d hdk
      have ih := s_lbp_25 hv v r hn hr hc j i (d + 1) (by omega) (by omega)
      have q2' : m.1 21 4 d = Int32.ofNat (D.l d) := q2
      have q4' : m.1 21 5 d = zo (D.p d) := q4
      have q6' : ∀ x, zb (m.2.1 31 3 d) x = D.t d x := q6
      have er : D.rt c (i + 1) d = if D.p d = none ∧ D.t d c = true then some d else D.rt c i (d + 1) := rfl
      rw [if_neg (by rw [zi_le (by omega) (by omega)]; omega), z_gdt (z_in21 (by omega)), z_gdt (z_in31 (by omega)), z_gdt (z_in21 (by omega)), zi_nat (by omega), q4', q2', zi_s, zi_s, er]
      have tst := z_tst (m.2.1 31 3 d) (show c < 64 by omega)
      rw [q6'] at tst
      cases hp : D.p d with
      | some e =>
        have := zo_bd hv hdk hp
        rw [zo_some, if_pos (zi_zl (by omega)), if_neg (show ¬ (some e = none ∧ D.t d c = true) from fun w => by cases w.1)]
        exact ih
      | none =>
        rw [if_neg (show ¬ 0 ≤ zo none by decide)]
        by_cases w : D.t d c = true
        · rw [if_pos (tst.mpr w), if_pos ⟨rfl, w⟩]
        · rw [if_neg (mt tst.mp w), if_neg (fun y => w y.2)]
          exact ih
theorem t_levelByPools (I : zInv m) (x : Int32) : zAg Int32.toInt64 (f_L_levelByPools x m) (f_X12_levelByPools x) := by
  obtain ⟨a, b, n, p, s, l, c, e, I'⟩ := I
  have v := I'.1
  have n64 := v.n64
  unfold f_L_levelByPools
  rcases z_cell v x with ⟨d, hd, rfl⟩ | hx
  · have hv := zDv.dp v 100
    have kb := hv.kb
    obtain ⟨m1, h1, h2, h3, h4⟩ := s_dfind v (show 0 < 11 by omega) I'.2.1
    have rt := zDS.rt_lt (D := a.dp 100) (c := d) (a.dp 100).k 0
    refine zAg.ok Int32.toInt64 I'.of (v := match (a.dp 100).rt d (a.dp 100).k 0 with
      | none => Int32.ofNat (a.ht d)
      | some q => Int32.ofNat ((a.dp 100).l q + 1)) ?_ fun m' f => ?_
    · unfold f_X11_levelByPools f_X1_rootAt zCl
      have hr0 := s_root_2 hv h3 h4 (show d < 64 by omega) zF (a.dp 100).k 0 (by omega) (zF_lt (by omega))
      rw [s_req v I'.2.1 hd, zbx_l, h1, Option.bind_some, show (0 : Int32) = Int32.ofNat 0 from rfl, hr0, Option.bind_some]
      refine ⟨m1, ?_, h2.mono fun k i j => zPde_c⟩
      cases hq : (a.dp 100).rt d (a.dp 100).k 0 with
      | none =>
        rw [zo_none, if_pos rfl, s_at' 20 0 (show d < 64 by omega), Option.bind_some, (h2 20 0 d (by unfold zPde; omega)).1, I'.2.1.ht d (by omega)]
      | some q =>
        have := rt q hq
        have e2 : m1.1 21 1 q = Int32.ofNat ((a.dp 100).l q) := (h4.2 q (by omega)).2.1
        rw [zo_some, if_neg (zi_m1 (by omega))]
        unfold f_X1_rim
        rw [s_at' 21 1 (by rw [zl_21]; omega), Option.bind_some, Option.bind_some, e2, zi_s]
    · have r1 := (I'.keep f).2.2.1.th 0
      obtain ⟨m2, q1, q2, q3, q4⟩ := s_mdeps v r1
      have r2 : zMR (m2.1 23 0) a := by rw [q2.row (fun j => by unfold zPdm; omega)]; exact r1
      have hl0 := s_lbp_25 hv v r2 q3 q4 hd zF (a.dp 100).k 0 (by omega) (zF_lt (by omega))
      unfold zAn f_X12_levelByPools
      rw [s_isCell v r1 hd, Option.bind_some, if_neg (by decide), q1, Option.bind_some, show (0 : Int32) = Int32.ofNat 0 from rfl, hl0]
      exact ⟨_, m2, rfl, (q2.mono fun k i j => zPdm_m).x13, q2.t0 (by unfold zPdm; omega) (z_th0 _ _), rfl⟩
  · refine zAg.ex Int32.toInt64 I'.of (x := 1) (k := 1) ?_ rfl fun m' f => ?_
    · unfold f_X11_levelByPools zCl
      rw [s_reqn v I'.2.1 hx]
      exact ⟨m, rfl, zFr.refl m⟩
    · have I1 := I'.keep f
      unfold zAn f_X12_levelByPools
      rw [s_isCelln v (I1.2.2.1.th 0) hx, Option.bind_some, if_pos (by decide)]
      exact ⟨0, _, rfl, (z_th m' 0).trans (z_th _ 1), by decide, z_th0 _ _⟩
end
