/-! scatter. -/
def zsq (x : Int32) : Nat → Int32
  | 0 => x
  | k + 1 => zsq x k * 1103515245 + 12345
def zhv (x : Int32) (u k : Nat) : Nat := (z_iushr (zsq x (k + 1)) 16).toNatClampNeg % u
theorem z_ius (y : Int32) : ∃ t, t < 65536 ∧ z_iushr y 16 = Int32.ofNat t := by
  refine ⟨(y.toUInt32 >>> 16).toNat, ?_, ?_⟩
  · rw [UInt32.toNat_shiftRight]
    show y.toUInt32.toNat >>> 16 < 65536
    rw [Nat.shiftRight_eq_div_pow]
    have := y.toUInt32.toNat_lt
    omega
  · unfold z_iushr
    show (y.toUInt32 >>> 16).toInt32 = Int32.ofNat (y.toUInt32 >>> 16).toNat
    show _ = (UInt32.ofNat (y.toUInt32 >>> 16).toNat).toInt32
    rw [UInt32.ofNat_toNat]
theorem zhv_eq (x : Int32) {u : Nat} (hu : 1 ≤ u) (hu2 : u ≤ 100) (k : Nat) : z_irem (z_iushr (zsq x k * 1103515245 + 12345) 16) (Int32.ofNat u) = Int32.ofNat (zhv x u k) ∧ zhv x u k ≤ 99 := by
  obtain ⟨t, h1, h2⟩ := z_ius (zsq x (k + 1))
  have e : zhv x u k = t % u := by
    unfold zhv
    rw [h2, zi_nat (by omega)]
  have lt := Nat.mod_lt t (show 0 < u by omega)
  refine ⟨?_, by omega⟩
  show z_irem (z_iushr (zsq x (k + 1)) 16) (Int32.ofNat u) = _
  rw [h2, e, zi_rem (by omega) (by omega)]
section
variable {a : zG} {b : Nat → zG} {n p : Nat} {s : Option zG} {l : Nat} {c : Nat → Nat} {e : Option Nat} {m : zM}
def zG.all (a : zG) (d : Nat) : Bool := decide (d < a.n)
/-- how many different ones there are among the first k -/
noncomputable def zdif (f : Nat → Nat) (k : Nat) : Nat := z_cnt (fun h => @decide (∃ d, d < k ∧ f d = h) (Classical.propDecidable _)) 100
theorem zdif_s {f : Nat → Nat} (hf : ∀ d, f d ≤ 99) (k : Nat) : zdif f (k + 1) = zdif f k + if (∀ d, d < k → f d ≠ f k) then 1 else 0 := by
  unfold zdif
  by_cases w : ∀ d, d < k → f d ≠ f k
  · rw [if_pos w]
    refine z_cnt_one (x := f k) (by have := hf k; omega) (fun h _ hn => ?_) ?_ ?_
    · rw [Bool.eq_iff_iff, z_dec, z_dec]
      refine ⟨fun ⟨d, q1, q2⟩ => ⟨d, by omega, q2⟩, fun ⟨d, q1, q2⟩ => ⟨d, ?_, q2⟩⟩
      by_cases z : d = k
      · rw [z] at q2
        exact absurd q2.symm hn
      · omega
    · refine Bool.eq_false_iff.mpr fun q => ?_
      obtain ⟨d, q1, q2⟩ := z_dec.mp q
      exact w d q1 q2
    · exact z_dec.mpr ⟨k, by omega, rfl⟩
  · rw [if_neg w, Nat.add_zero]
    generalize (100 : Nat) = N
    refine z_cnt_ext fun h _ => ?_
    rw [Bool.eq_iff_iff, z_dec, z_dec]
    refine ⟨fun ⟨d, q1, q2⟩ => ?_, fun ⟨d, q1, q2⟩ => ⟨d, by omega, q2⟩⟩
    by_cases z : d = k
    · rw [z] at q2
      refine Classical.byContradiction fun y => w fun d' g1 g2 => y ⟨d', g1, g2.trans q2⟩
    · exact ⟨d, by omega, q2⟩
theorem s_diff_4 (v : zGV a) (r : zGR m 0 a) {N : Nat} (hN : N = 100) {Q : Nat → Bool} (hQ : ∀ h, Q h = true ↔ ∃ d, d < a.n ∧ a.ht d = h) : ∀ (j h : Nat), h ≤ N → N - h < j → f_X4_differentHeights_4 0 m j (Int32.ofNat (z_cnt Q h)) (Int32.ofNat h) = some (Int32.ofNat (z_cnt Q N))
  | 0, _, _, h => absurd h (Nat.not_lt_zero _)
  | j + 1, h, hh, hj => by
    unfold f_X4_differentHeights_4
    rw [show (99 : Int32) = Int32.ofNat 99 from rfl]
    by_cases he : h = N
    · rw [he, if_pos (by rw [zi_lt (by omega) (by omega)]; omega)]
    · have ih := s_diff_4 v r hN hQ j (h + 1) (by omega) (by omega)
      obtain ⟨u, h1, h2⟩ := s_hasHeight v r (show h ≤ 99 by omega)
      have er : z_cnt Q (h + 1) = z_cnt Q h + if Q h = true then 1 else 0 := rfl
      rw [er] at ih
      rw [if_neg (by rw [zi_lt (by omega) (by omega)]; omega), h1, Option.bind_some, zi_s, zi_s]
      cases hu : u with
      | false =>
        rw [if_pos (by decide)]
        rw [if_neg (fun q => by have := h2.mpr ((hQ h).mp q); rw [hu] at this; cases this)] at ih
        exact ih
      | true =>
        rw [if_neg (by decide)]
        rw [if_pos ((hQ h).mpr (h2.mp hu))] at ih
        exact ih
theorem s_diff (v : zGV a) (r : zGR m 0 a) : f_X4_differentHeights 0 m = some (Int32.ofNat (zdif a.ht a.n)) := by
  unfold zdif f_X4_differentHeights
  have h0 := s_diff_4 v r (N := 100) rfl (Q := fun h => @decide (∃ d, d < a.n ∧ a.ht d = h) (Classical.propDecidable _)) (fun h => z_dec) zF 0 (Nat.zero_le _) (zF_lt (by omega))
  generalize hN : (100 : Nat) = N at h0 ⊢
  exact h0
theorem zdif_e {f g : Nat → Nat} {k : Nat} (h : ∀ d, d < k → f d = g d) : zdif f k = zdif g k := by
  unfold zdif
  generalize (100 : Nat) = N
  refine z_cnt_ext fun y _ => ?_
  rw [Bool.eq_iff_iff, z_dec, z_dec]
  exact ⟨fun ⟨d, q1, q2⟩ => ⟨d, q1, (h d q1).symm.trans q2⟩, fun ⟨d, q1, q2⟩ => ⟨d, q1, (h d q1).trans q2⟩⟩
theorem zG.sc_v (v : zGV a) {x : Int32} {u : Nat} (hu : 1 ≤ u) (hu2 : u ≤ 100) (k : Nat) : zGV (a.ups (z_bel a.all k) (zhv x u)) := zG.ups_v v fun d _ => (zhv_eq x hu hu2 d).2
theorem zG.sc_h {x : Int32} {u d k : Nat} (hd : d < a.n) (hk : d < k) : (a.ups (z_bel a.all k) (zhv x u)).ht d = zhv x u d := by
  rw [zG.ups_ht]
  refine if_pos ?_
  unfold z_bel zG.all
  simp [hd, hk]
theorem s_sc_46 (v : zGV a) {x : Int32} {u : Nat} (hu : 1 ≤ u) (hu2 : u ≤ 100) : ∀ (j k : Nat) (m : zM), k ≤ a.n → a.n - k < j → zGR m 0 (a.ups (z_bel a.all k) (zhv x u)) → ∃ m', f_X11_scatter_46 j (Int32.ofNat u) (zsq x k) (Int32.ofNat a.n) (Int32.ofNat k) m = some (.inl (Int32.ofNat (zdif (zhv x u) a.n)), m') ∧ zFr (zGp 0) m m' ∧ zGR m' 0 (a.ups (z_bel a.all a.n) (zhv x u))
  | 0, _, _, _, h, _ => absurd h (Nat.not_lt_zero _)
  | j + 1, k, m, hk, hj, r => by
    have n64 := v.n64
    unfold f_X11_scatter_46
    by_cases he : k = a.n
    · subst he
      rw [if_pos (by rw [zi_le (by omega) (by omega)]; omega), s_diff (zG.sc_v v hu hu2 a.n) r, Option.bind_some, zG.ups_n, zdif_e (g := zhv x u) fun d hd => zG.sc_h hd hd]
      exact ⟨m, rfl, zFr.refl m, r⟩
    · obtain ⟨g1, g2⟩ := zhv_eq x hu hu2 k
      have hall : a.all k = true := by unfold zG.all; simp; omega
      have fr : zFr (zGp 0) m (z_sI m 20 0 k (Int32.ofNat (zhv x u k))) := zFr.sI (zFr.refl m) _ (by unfold zGp; omega)
      have rn := r.sH (c := k) (zhv x u k)
      rw [← zG.ups_b.1 hall] at rn
      obtain ⟨m', p1, p2, p3⟩ := s_sc_46 v hu hu2 j (k + 1) (z_sI m 20 0 k (Int32.ofNat (zhv x u k))) (by omega) (by omega) rn
      rw [if_neg (by rw [zi_le (by omega) (by omega)]; omega), z_gdt (by unfold z_nz; rw [decide_eq_true_eq, zi_0 (by omega)]; omega), g1, s_put 20 0 (show k < 64 by omega), Option.bind_some, zi_s]
      exact ⟨m', p1, fr.trans p2, p3⟩
theorem s_sm_74 (v : zGV a) {x : Int32} {u : Nat} (hu : 1 ≤ u) (hu2 : u ≤ 100) (K : Int32 → Int32 → Int32 → Int32 → zM → Option (Int32 × zM)) {k : Nat} (hk : k < a.n) (X : Int32) (z : Nat) {m : zM} (r : zMR (m.1 23 0) (a.ups (z_bel a.all (k + 1)) (zhv x u))) : ∀ (j q : Nat), q ≤ k → k - q < j → f_X12_scatter_74 K j (Int32.ofNat u) X (Int32.ofNat z) (Int32.ofNat k) (z_bi (@decide (∀ d, d < q → zhv x u d ≠ zhv x u k) (Classical.propDecidable _))) (Int32.ofNat q) m = K (Int32.ofNat u) X (Int32.ofNat (z + if (∀ d, d < k → zhv x u d ≠ zhv x u k) then 1 else 0)) (Int32.ofNat (k + 1)) m
  | 0, _, _, h => absurd h (Nat.not_lt_zero _)
  | j + 1, q, hq, hj => by
    have n64 := v.n64
    unfold f_X12_scatter_74
    by_cases he : q = k
    · subst he
      rw [if_pos (by rw [zi_le (by omega) (by omega)]; omega), zi_s, zi_s]
      by_cases w : ∀ d, d < q → zhv x u d ≠ zhv x u q
      · rw [if_neg (by rw [z_dec.mpr w]; decide), if_pos w]
      · rw [if_pos (by rw [Bool.eq_false_iff.mpr fun y => w (z_dec.mp y)]; decide), if_neg w]
        rfl
    · have h1 : f_X12_height (Int32.ofNat q) m = some (Int32.ofNat (zhv x u q)) := (s_mheight r (by omega)).trans (by rw [zG.sc_h (by omega) (by omega)])
      have h2 : f_X12_height (Int32.ofNat k) m = some (Int32.ofNat (zhv x u k)) := (s_mheight r (by omega)).trans (by rw [zG.sc_h hk (by omega)])
      have g1 := (zhv_eq x hu hu2 q).2
      have g2 := (zhv_eq x hu hu2 k).2
      have ih := s_sm_74 v hu hu2 K hk X z r j (q + 1) (by omega) (by omega)
      rw [if_neg (by rw [zi_le (by omega) (by omega)]; omega), h1, Option.bind_some, h2, Option.bind_some]
      unfold f_X12_scatter_103
      rw [zi_s]
      by_cases w : zhv x u q = zhv x u k
      · have e0 : @decide (∀ d, d < q + 1 → zhv x u d ≠ zhv x u k) (Classical.propDecidable _) = false := Bool.eq_false_iff.mpr fun y => z_dec.mp y q (by omega) w
        rw [e0] at ih
        rw [if_pos (by rw [w]), Int32.and_zero]
        exact ih
      · have e0 : @decide (∀ d, d < q + 1 → zhv x u d ≠ zhv x u k) (Classical.propDecidable _) = @decide (∀ d, d < q → zhv x u d ≠ zhv x u k) (Classical.propDecidable _) := by
          rw [Bool.eq_iff_iff, z_dec, z_dec]
          refine ⟨fun y d hd => y d (by omega), fun y d hd => ?_⟩
          by_cases dq : d = q
          · rw [dq]; exact w
          · exact y d (by omega)
        rw [e0] at ih
        rw [if_neg (by rw [zi_eq (by omega) (by omega)]; exact w)]
        cases hb : @decide (∀ d, d < q → zhv x u d ≠ zhv x u k) (Classical.propDecidable _) with
        | false => rw [hb] at ih; exact ih
        | true => rw [hb] at ih; exact ih
theorem s_sm_35 (v : zGV a) {x : Int32} {u : Nat} (hu : 1 ≤ u) (hu2 : u ≤ 100) : ∀ (j k : Nat) (m : zM), k ≤ a.n → a.n - k < j → zMR (m.1 23 0) (a.ups (z_bel a.all k) (zhv x u)) → ∃ m', f_X12_scatter_35 j (Int32.ofNat u) (zsq x k) (Int32.ofNat (zdif (zhv x u) k)) (Int32.ofNat k) m = some (Int32.ofNat (zdif (zhv x u) a.n), m') ∧ zFr (fun k i _ => k = 23 ∧ i = 0) m m' ∧ zMR (m'.1 23 0) (a.ups (z_bel a.all a.n) (zhv x u))
  | 0, _, _, _, h, _ => absurd h (Nat.not_lt_zero _)
  | j + 1, k, m, hk, hj, r => by
    have n64 := v.n64
    unfold f_X12_scatter_35
    rw [show f_X12_cells m = some (Int32.ofNat a.n) from s_mcells (a := a.ups (z_bel a.all k) (zhv x u)) r, Option.bind_some]
    by_cases he : k = a.n
    · subst he
      rw [if_pos (by rw [zi_le (by omega) (by omega)]; omega)]
      exact ⟨m, rfl, zFr.refl m, r⟩
    · obtain ⟨g1, g2⟩ := zhv_eq x hu hu2 k
      have hall : a.all k = true := by unfold zG.all; simp; omega
      have fr : zFr (fun k i _ => k = 23 ∧ i = 0) m (z_sI m 23 0 (3 + k) (Int32.ofNat (zhv x u k))) := zFr.sI (zFr.refl m) _ ⟨rfl, rfl⟩
      have rn := r.sH (c := k) (by omega) (zhv x u k)
      rw [← zG.ups_b.1 hall] at rn
      have ih := s_sm_35 v hu hu2 j (k + 1) _ (by omega) (by omega) rn
      rw [zdif_s (fun d => (zhv_eq x hu hu2 d).2)] at ih
      obtain ⟨m', p1, p2, p3⟩ := ih
      have h0 := s_sm_74 v hu hu2 (f_X12_scatter_35 j) (show k < a.n by omega) (zsq x (k + 1)) (zdif (zhv x u) k) rn zF 0 (Nat.zero_le _) (zF_lt (by omega))
      rw [z_dec.mpr (fun d hd => absurd hd (Nat.not_lt_zero _))] at h0
      rw [if_neg (by rw [zi_le (by omega) (by omega)]; omega), z_gdt (by unfold z_nz; rw [decide_eq_true_eq, zi_0 (by omega)]; omega), show (3 : Int32) = Int32.ofNat 3 from rfl, zi_add, z_gdt (z_in23 (by omega)), zi_nat (by omega), g1]
      exact ⟨m', h0.trans p1, fr.trans p2, p3⟩
theorem t_scatter (I : zInv m) (x : Int32) (y : Int32) : zAg Int32.toInt64 (f_L_scatter x y m) (f_X12_scatter x y) := by
  obtain ⟨a, b, n, p, s, l, c, e, I'⟩ := I
  have v := I'.1
  have n64 := v.n64
  obtain ⟨C, J⟩ := I'.split
  unfold f_L_scatter
  have e0 : ∀ q, z_bel a.all 0 q = false := fun q => by unfold z_bel; simp
  rcases z_rng y (lo := 1) (hi := 100) (by omega) (by omega) with ⟨u, hu, hu2, rfl, g1, g2⟩ | ⟨g0, g1, g2⟩
  · refine zAg.mut Int32.toInt64 J (v := Int32.ofNat (zdif (zhv x u) a.n)) (a' := a.ups (z_bel a.all a.n) (zhv x u)) (b' := zpsh b n a) (n' := min (n + 1) 8) (p' := (p + 1) % 8) (s' := s) (l' := l) (c' := c) (e' := e) ?_ fun m1 J1 => ?_
    · obtain ⟨m1, p1, p2, p3⟩ := s_rem C
      obtain ⟨m2, q1, q2, q3⟩ := s_sc_46 v (x := x) hu hu2 zF 0 m1 (Nat.zero_le _) (zF_lt (by omega)) (by rw [zG.ups_0 e0]; exact p3.2.1)
      unfold f_X11_scatter
      rw [show (1 : Int32) = Int32.ofNat 1 from rfl, show (100 : Int32) = Int32.ofNat 100 from rfl, if_neg (by rw [zi_lt (by omega) (by omega)]; omega), if_pos (by rw [zi_le (by omega) (by omega)]; omega), p1, Option.bind_some, s_size v p3.2.1, Option.bind_some]
      exact ⟨m2, q1, (p2.mono fun k i j => zPrm_n).trans (q2.mono fun k i j => zGp0_n), p3.grid q2 (zG.sc_v v hu hu2 _) q3⟩
    · obtain ⟨m2, q1, q2, q3⟩ := s_chg C.2.2.1.1 (J1.sm (z_th m1 0))
      obtain ⟨m3, r1, r2, r3⟩ := s_sm_35 v (x := x) hu hu2 zF 0 m2 (Nat.zero_le _) (zF_lt (by omega)) (by rw [zG.ups_0 e0]; exact q3.1)
      rw [show zdif (zhv x u) 0 = 0 from z_cnt_0.mpr fun q _ => Bool.eq_false_iff.mpr fun y => by obtain ⟨d, y1, _⟩ := z_dec.mp y; exact Nat.not_lt_zero _ y1] at r1
      unfold f_X12_scatter
      rw [show (1 : Int64) = Int32.toInt64 (Int32.ofNat 1) from rfl, show (100 : Int64) = Int32.toInt64 (Int32.ofNat 100) from rfl, g2, Option.bind_some, if_neg (by decide), q1, Option.bind_some]
      exact ⟨m3, r1, (((z_th m1 0).mono fun k i j => zSm_nc).trans (q2.mono fun k i j => zPch_n)).trans (r2.mono fun k i j => z230_n), by rw [(r2 13 0 0 (by omega)).1, (q2 13 0 0 (by unfold zPch; omega)).1]; exact z_th0 _ _, q3.grid r2 r3⟩
  · refine zAg.ex Int32.toInt64 I'.of (x := 0) (k := 1) ?_ rfl fun m' f => ?_
    · have h0 := g1 m
      unfold f_X11_requireRange at h0
      unfold f_X11_scatter zCl
      by_cases w : y < 1
      · rw [if_pos w]
        exact ⟨m, rfl, zFr.refl m⟩
      · rw [if_neg w]
        rw [show Int32.ofNat 1 = (1 : Int32) from rfl, if_neg w, show Int32.ofNat 100 = (100 : Int32) from rfl] at h0
        by_cases w2 : y ≤ 100
        · rw [if_pos w2] at h0
          cases h0
        · rw [if_neg w2]
          exact ⟨m, rfl, zFr.refl m⟩
    · unfold zAn f_X12_scatter
      rw [show (1 : Int64) = Int32.toInt64 (Int32.ofNat 1) from rfl, show (100 : Int64) = Int32.toInt64 (Int32.ofNat 100) from rfl, g2, Option.bind_some, if_pos (by decide)]
      exact ⟨0, _, rfl, (z_th m' 0).trans (z_th _ 1), by decide, z_th0 _ _⟩
end
