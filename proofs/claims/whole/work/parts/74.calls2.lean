/-! Calls that ask: routes, accounts, basins, what would be. -/
section
variable {m : zM} {a : zG}
theorem zG.on_mo (v : zGV a) {o : Nat} (ho : a.ou o = true) : ∀ d, d < a.n → a.on o d = decide (a.mo d = o) :=
  zG.down v fun d hd ih => by
    cases ht : a.to d with
    | none => rw [zG.on0 ht, zG.mo0 ht]
    | some e =>
      rw [zG.on1 v hd ht, zG.mo1 v hd ht, ih e ht]
      have : ¬ d = o := fun q => by
        rw [q] at ht hd
        rw [(zG.to_none v hd).mpr ho] at ht
        cases ht
      simp [this]
theorem s_route_61 (v : zGV a) (r : zMR (m.1 23 0) a) (h : zMF a m) {t : Nat} (ht : t ≤ 64) : ∀ (j i c e : Nat), c < a.n → i ≤ t → t - i < j → a.go (t - i) c = some e → f_X12_route_61 j (Int32.ofNat t) (Int32.ofNat c) (Int32.ofNat i) m = some (Int32.ofNat e, m)
  | 0, _, _, _, _, _, h, _ => absurd h (Nat.not_lt_zero _)
  | j + 1, i, c, e, hc, hi, hj, hg => by
    have n64 := v.n64
    unfold f_X12_route_61
    by_cases he : i = t
    · rw [if_pos (by rw [zi_le (by omega) (by omega)]; omega)]
      rw [he, Nat.sub_self] at hg
      cases hg
      rfl
    · rw [if_neg (by rw [zi_le (by omega) (by omega)]; omega), s_onward v r h hc, Option.bind_some, zi_s]
      rw [show t - i = (t - (i + 1)) + 1 by omega] at hg
      have hg' : (a.to c).bind (a.go (t - (i + 1))) = some e := hg
      cases hto : a.to c with
      | none => rw [hto] at hg'; cases hg'
      | some f =>
        rw [hto] at hg'
        exact s_route_61 v r h ht j (i + 1) f e (zG.to_n v hc hto) (by omega) (by omega) hg'
theorem s_lev_8 (v : zGV a) (r : zMR (m.1 23 0) a) (hw : ∀ d, d < a.n → m.1 20 63 d = Int32.ofNat (a.wa d)) : ∀ (j c : Nat), c ≤ a.n → a.n - c < j → f_X12_leaves_8 j (Int32.ofNat (z_tot (fun d => if a.ou d = true then a.out d else 0) c)) (Int32.ofNat c) m = some (Int32.ofNat (z_tot (fun d => if a.ou d = true then a.out d else 0) a.n), m)
  | 0, _, _, h => absurd h (Nat.not_lt_zero _)
  | j + 1, c, hc, hj => by
    have n64 := v.n64
    unfold f_X12_leaves_8
    rw [s_mcells r, Option.bind_some]
    by_cases he : c = a.n
    · subst he
      rw [if_pos (by rw [zi_le (by omega) (by omega)]; omega)]
    · have hcn : c < a.n := by omega
      have ih := s_lev_8 v r hw j (c + 1) hcn (by omega)
      have e : z_tot (fun d => if a.ou d = true then a.out d else 0) (c + 1) = z_tot (fun d => if a.ou d = true then a.out d else 0) c + if a.ou c = true then a.out c else 0 := rfl
      rw [if_neg (by rw [zi_le (by omega) (by omega)]; omega), s_mout r (by omega), Option.bind_some, zi_s]
      cases ho : a.ou c with
      | false =>
        rw [if_pos (by decide)]
        rw [e, ho, if_neg Bool.false_ne_true, Nat.add_zero] at ih
        exact ih
      | true =>
        obtain ⟨so, o1, o2⟩ := s_soaks_ex v r hcn
        rw [if_neg (by decide), z_gdt (z_in64 (by omega)), o1, Option.bind_some, o2 (hw c hcn), zi_nat (by omega), hw c hcn, zi_sub (by unfold zG.sos; omega), zi_add]
        rw [e, ho, if_pos rfl] at ih
        exact ih
theorem s_leaves (v : zGV a) (r : zMR (m.1 23 0) a) : ∃ m', f_X12_leaves m = some (Int32.ofNat (z_tot (fun d => if a.ou d = true then a.out d else 0) a.n), m') ∧ zFr zPwa m m' := by
  obtain ⟨m2, q1, q2, q3, q4⟩ := s_mwaters v r
  unfold f_X12_leaves
  rw [q1, Option.bind_some]
  exact ⟨m2, s_lev_8 v (by rw [q2.row (fun j => by unfold zPwa; omega)]; exact r) q4 zF 0 (Nat.zero_le _) (zF_lt (by have := v.n64; omega)), q2⟩
theorem s_dep_8 (v : zGV a) (r : zLx a m) : ∀ (j c : Nat), c ≤ a.n → a.n - c < j → f_X12_depths_8 j (Int32.ofNat (z_tot (fun d => a.lv d - a.ht d) c)) (Int32.ofNat c) m = some (Int32.ofNat (z_tot (fun d => a.lv d - a.ht d) a.n), m)
  | 0, _, _, h => absurd h (Nat.not_lt_zero _)
  | j + 1, c, hc, hj => by
    have n64 := v.n64
    unfold f_X12_depths_8
    rw [s_mcells r.1, Option.bind_some]
    by_cases he : c = a.n
    · subst he
      rw [if_pos (by rw [zi_le (by omega) (by omega)]; omega)]
    · have hcn : c < a.n := by omega
      have ih := s_dep_8 v r j (c + 1) hcn (by omega)
      rw [if_neg (by rw [zi_le (by omega) (by omega)]; omega), s_mdepth v r hcn, Option.bind_some, zi_s, zi_add]
      exact ih
theorem s_depthsM (v : zGV a) (r : zMR (m.1 23 0) a) : ∃ m', f_X12_depths m = some (Int32.ofNat (z_tot (fun d => a.lv d - a.ht d) a.n), m') ∧ zFr zP59 m m' := by
  obtain ⟨m2, q1, q2, q3⟩ := s_mlevels v r
  unfold f_X12_depths
  rw [q1, Option.bind_some]
  exact ⟨m2, s_dep_8 v ⟨by rw [q2.row (fun j => by unfold zP59; omega)]; exact r, q3⟩ zF 0 (Nat.zero_le _) (zF_lt (by have := v.n64; omega)), q2⟩
noncomputable def zG.ac (a : zG) (k c : Nat) : Nat := if k = 5 then z_grt a.wa (fun _ => true) c else z_tot (fun d => if k = 0 then a.rn d else if k = 2 then a.sos d else a.ht d) c
theorem s_acc_51 (v : zGV a) (r : zMR (m.1 23 0) a) (hw : ∀ d, d < a.n → m.1 20 63 d = Int32.ofNat (a.wa d)) {k : Nat} (hk : k = 0 ∨ k = 2 ∨ k = 4 ∨ k = 5) : ∀ (j c : Nat), c ≤ a.n → a.n - c < j → f_X12_account_51 j (Int32.ofNat k) (Int32.ofNat (a.ac k c)) (Int32.ofNat c) m = some (Int32.ofNat (a.ac k a.n), m)
  | 0, _, _, h => absurd h (Nat.not_lt_zero _)
  | j + 1, c, hc, hj => by
    have n64 := v.n64
    unfold f_X12_account_51
    rw [s_mcells r, Option.bind_some]
    by_cases he : c = a.n
    · subst he
      rw [if_pos (by rw [zi_le (by omega) (by omega)]; omega)]
    · have hcn : c < a.n := by omega
      have ih := s_acc_51 v r hw hk j (c + 1) hcn (by clear hk; omega)
      rw [if_neg (by rw [zi_le (by omega) (by omega)]; clear hk; omega)]
      rcases hk with rfl | rfl | rfl | rfl
      · rw [if_pos (by decide), show (67 : Int32) + Int32.ofNat c = Int32.ofNat (67 + c) from zi_add 67 c, z_gdt (z_in23 (by omega)), zi_nat (by omega), r.rn (by omega), zi_add]
        unfold f_X12_account_75
        rw [if_neg (by decide)]
        unfold f_X12_account_88
        rw [if_neg (by decide)]
        unfold f_X12_account_101
        rw [if_neg (by decide), zi_s]
        exact ih
      · obtain ⟨so, o1, o2⟩ := s_soaks_ex v r hcn
        rw [if_neg (by decide)]
        unfold f_X12_account_75
        rw [if_pos (by decide), o1, Option.bind_some, o2 (hw c hcn), zi_add]
        unfold f_X12_account_88
        rw [if_neg (by decide)]
        unfold f_X12_account_101
        rw [if_neg (by decide), zi_s]
        exact ih
      · rw [if_neg (by decide)]
        unfold f_X12_account_75
        rw [if_neg (by decide)]
        unfold f_X12_account_88
        rw [if_pos (by decide), s_mheight r (by omega), Option.bind_some, zi_add]
        unfold f_X12_account_101
        rw [if_neg (by decide), zi_s]
        exact ih
      · have wb := zG.wa_b v hcn
        have gb : z_grt a.wa (fun _ => true) c ≤ 576 := by
          have := z_grt_at (f := a.wa) (S := fun _ => true) (n := c)
          rcases this with q | ⟨e, e1, _, e3⟩
          · omega
          · have := zG.wa_b v (show e < a.n by omega)
            omega
        rw [if_neg (by decide)]
        unfold f_X12_account_75
        rw [if_neg (by decide)]
        unfold f_X12_account_88
        rw [if_neg (by decide)]
        unfold f_X12_account_101
        rw [if_pos (by decide), z_gdt (z_in64 (by omega)), zi_nat (by omega), hw c hcn, z_max (by show z_grt a.wa (fun _ => true) c < _; omega) (by omega), Option.bind_some, zi_s]
        exact ih
theorem t_account (I : zInv m) (x : Int32) : zAg Int32.toInt64 (f_L_account x m) (f_X12_account x) := by
  obtain ⟨a, b, n, p, s, l, c, e, I'⟩ := I
  have v := I'.1
  have n64 := v.n64
  unfold f_L_account
  rcases z_rng x (lo := 0) (hi := 5) (by omega) (by omega) with ⟨k, _, k2, rfl, g1, g2⟩ | ⟨g0, g1, g2⟩
  · refine zAg.ok Int32.toInt64 I'.of (v := if k = 1 then Int32.ofNat (z_tot (fun d => if a.ou d = true then a.out d else 0) a.n) else if k = 3 then Int32.ofNat (z_tot (fun d => a.lv d - a.ht d) a.n) else Int32.ofNat (a.ac k a.n)) ?_ fun m' f => ?_
    · unfold f_X11_account zCl
      obtain ⟨m1, s1, h1, h2, h3, h4, h5, h6, h7⟩ := s_waters v (show 0 < 11 by omega) I'.2.1
      obtain ⟨A, A1, A2⟩ := s_alln v h3
      rw [show (0 : Int32) = Int32.ofNat 0 from rfl, show (5 : Int32) = Int32.ofNat 5 from rfl, g1, zbx_l, h1, Option.bind_some, A1, Option.bind_some]
      refine ⟨m1, ?_, h2⟩
      have hk : k = 0 ∨ k = 1 ∨ k = 2 ∨ k = 3 ∨ k = 4 ∨ k = 5 := by omega
      rcases hk with rfl | rfl | rfl | rfl | rfl | rfl
      · rw [if_pos (by decide), s_sumn v 1 A2 fun d hd _ => h3.rn d (by omega), Option.bind_some]
        rfl
      · rw [if_neg (by decide), if_pos (by decide), s_sumn v 47 (h3.on v) fun d hd _ => (h7 d hd).2.2, Option.bind_some]
        rfl
      · rw [if_neg (by decide), if_neg (by decide), if_pos (by decide), s_sumn v 46 A2 fun d hd _ => (h7 d hd).2.1, Option.bind_some]
        rfl
      · rw [if_neg (by decide), if_neg (by decide), if_neg (by decide), if_pos (by decide), s_sumn v 34 A2 fun d hd _ => h4.2 d hd, Option.bind_some]
        rfl
      · rw [if_neg (by decide), if_neg (by decide), if_neg (by decide), if_neg (by decide), if_pos (by decide), s_sumn v 0 A2 fun d hd _ => h3.ht d (by omega), Option.bind_some]
        rfl
      · rw [if_neg (by decide), if_neg (by decide), if_neg (by decide), if_neg (by decide), if_neg (by decide), s_grtn v 45 A2 (fun d hd _ => (h7 d hd).1) fun d hd => by have := zG.wa_b v hd; omega, Option.bind_some]
        rfl
    · have I1 := I'.keep f
      have r1 := I1.2.2.1.th 0
      unfold zAn f_X12_account
      rw [show (0 : Int64) = Int32.toInt64 (Int32.ofNat 0) from rfl, show (5 : Int64) = Int32.toInt64 (Int32.ofNat 5) from rfl, g2, Option.bind_some, if_neg (by decide)]
      by_cases k1 : k = 1
      · obtain ⟨m2, q1, q2⟩ := s_leaves v r1
        rw [if_pos (by rw [k1]; rfl), if_pos k1, q1, Option.bind_some]
        exact ⟨_, m2, rfl, (z_th m' 0).trans (q2.mono fun k i j => zPwa_m), q2.t0 (by unfold zPwa; omega) (z_th0 _ _), rfl⟩
      · rw [if_neg (by rw [show (1 : Int32) = Int32.ofNat 1 from rfl, zi_eq (by omega) (by omega)]; exact k1), if_neg k1]
        by_cases k3 : k = 3
        · obtain ⟨m2, q1, q2⟩ := s_depthsM v r1
          rw [if_pos (by rw [k3]; rfl), if_pos k3, q1, Option.bind_some]
          exact ⟨_, m2, rfl, (z_th m' 0).trans (q2.mono fun k i j => zP59_m), q2.t0 (by unfold zP59; omega) (z_th0 _ _), rfl⟩
        · rw [if_neg (by rw [show (3 : Int32) = Int32.ofNat 3 from rfl, zi_eq (by omega) (by omega)]; exact k3), if_neg k3]
          obtain ⟨m2, q1, q2, q3, q4⟩ := s_mwaters v r1
          have r2 : zMR (m2.1 23 0) a := by rw [q2.row (fun j => by unfold zPwa; omega)]; exact r1
          have h0 := s_acc_51 v r2 q4 (k := k) (by omega) zF 0 (Nat.zero_le _) (zF_lt (by omega))
          rw [show a.ac k 0 = 0 by unfold zG.ac; split <;> rfl] at h0
          rw [q1, Option.bind_some, show (0 : Int32) = Int32.ofNat 0 from rfl, h0]
          exact ⟨_, m2, rfl, (z_th m' 0).trans (q2.mono fun k i j => zPwa_m), q2.t0 (by unfold zPwa; omega) (z_th0 _ _), rfl⟩
  · refine zAg.ex Int32.toInt64 I'.of (x := 0) (k := 1) ?_ rfl fun m' f => ?_
    · unfold f_X11_account zCl
      rw [show (0 : Int32) = Int32.ofNat 0 from rfl, show (5 : Int32) = Int32.ofNat 5 from rfl, g1, zbx_r]
      exact ⟨m, rfl, zFr.refl m⟩
    · unfold zAn f_X12_account
      rw [show (0 : Int64) = Int32.toInt64 (Int32.ofNat 0) from rfl, show (5 : Int64) = Int32.toInt64 (Int32.ofNat 5) from rfl, g2, Option.bind_some, if_pos (by decide)]
      exact ⟨0, _, rfl, (z_th m' 0).trans (z_th _ 1), by decide, z_th0 _ _⟩
noncomputable def zG.ba (a : zG) (o k c : Nat) : Nat := if k = 0 then z_cnt (a.on o) c else if k = 1 then z_tot (fun d => if a.on o d = true then a.rn d else 0) c else if k = 3 then z_grt a.st (a.on o) c else 0
theorem s_bas_60 (v : zGV a) (r : zMR (m.1 23 0) a) (hf : zMF a m) (hw : ∀ d, d < a.n → m.1 20 63 d = Int32.ofNat (a.wa d)) {o k : Nat} (ho : o < a.n) (hoo : a.ou o = true) (hk : k = 0 ∨ k = 1 ∨ k = 2 ∨ k = 3) : ∀ (j c : Nat), c ≤ a.n → a.n - c < j → f_X12_basin_60 j (Int32.ofNat o) (Int32.ofNat k) (Int32.ofNat (a.ba o k c)) (Int32.ofNat c) m = some (if k = 2 then Int32.ofNat (a.out o) else Int32.ofNat (a.ba o k a.n), m)
  | 0, _, _, h => absurd h (Nat.not_lt_zero _)
  | j + 1, c, hc, hj => by
    have n64 := v.n64
    unfold f_X12_basin_60
    rw [s_mcells r, Option.bind_some]
    by_cases he : c = a.n
    · subst he
      rw [if_pos (by rw [zi_le (by omega) (by omega)]; omega)]
      by_cases w : k = 2
      · obtain ⟨so, o1, o2⟩ := s_soaks_ex v r ho
        rw [if_pos (by rw [w]; rfl), if_pos w, z_gdt (z_in64 (by omega)), o1, Option.bind_some, o2 (hw o ho), zi_nat (by omega), hw o ho, zi_sub (by unfold zG.sos; omega)]
        rfl
      · rw [if_neg (by rw [show (2 : Int32) = Int32.ofNat 2 from rfl, zi_eq (by omega) (by omega)]; exact w), if_neg w]
    · have hcn : c < a.n := by omega
      have ih := s_bas_60 v r hf hw ho hoo hk j (c + 1) hcn (by clear hk; omega)
      have mb := (zG.mo_ou v c hcn).2
      have on := zG.on_mo v hoo c hcn
      have sl := zG.st_lt v hcn
      rw [if_neg (by rw [zi_le (by omega) (by omega)]; clear hk; omega), s_mouth v r hf hcn, Option.bind_some]
      by_cases w : a.mo c = o
      · rw [w] at on
        rw [if_pos (by rw [w])]
        have on' : a.on o c = true := by rw [on]; simp
        rcases hk with rfl | rfl | rfl | rfl
        · rw [if_pos (by decide)]
          unfold f_X12_basin_89
          rw [if_neg (by decide)]
          unfold f_X12_basin_107
          rw [if_neg (by decide), zi_s, zi_s]
          rw [show a.ba o 0 (c + 1) = a.ba o 0 c + if a.on o c = true then 1 else 0 from rfl, on', if_pos rfl] at ih
          exact ih
        · rw [if_neg (by decide)]
          unfold f_X12_basin_89
          rw [if_pos (by decide), show (67 : Int32) + Int32.ofNat c = Int32.ofNat (67 + c) from zi_add 67 c, z_gdt (z_in23 (by omega)), zi_nat (by omega), r.rn (by omega), zi_add]
          unfold f_X12_basin_107
          rw [if_neg (by decide), zi_s]
          rw [show a.ba o 1 (c + 1) = a.ba o 1 c + if a.on o c = true then a.rn c else 0 from rfl, on', if_pos rfl] at ih
          exact ih
        · rw [if_neg (by decide)]
          unfold f_X12_basin_89
          rw [if_neg (by decide)]
          unfold f_X12_basin_107
          rw [if_neg (by decide), zi_s]
          exact ih
        · have gb : a.ba o 3 c ≤ 64 := by
            show z_grt a.st (a.on o) c ≤ 64
            rcases z_grt_at (f := a.st) (S := a.on o) (n := c) with q | ⟨e, e1, _, e3⟩
            · omega
            · have := zG.st_lt v (show e < a.n by omega)
              omega
          rw [if_neg (by decide)]
          unfold f_X12_basin_89
          rw [if_neg (by decide)]
          unfold f_X12_basin_107
          rw [if_pos (by decide), s_stepsOf v r hf hcn, Option.bind_some, z_max (by omega) (by omega), Option.bind_some, zi_s]
          rw [show a.ba o 3 (c + 1) = if a.on o c = true then max (a.ba o 3 c) (a.st c) else a.ba o 3 c from rfl, on', if_pos rfl] at ih
          exact ih
      · have on' : a.on o c = false := by rw [on]; simp [w]
        rw [if_neg (by rw [zi_eq (by omega) (by omega)]; exact w), zi_s]
        have e : a.ba o k (c + 1) = a.ba o k c := by
          unfold zG.ba
          have e1 : z_cnt (a.on o) (c + 1) = z_cnt (a.on o) c + if a.on o c = true then 1 else 0 := rfl
          have e2 : z_tot (fun d => if a.on o d = true then a.rn d else 0) (c + 1) = z_tot (fun d => if a.on o d = true then a.rn d else 0) c + if a.on o c = true then a.rn c else 0 := rfl
          have e3 : z_grt a.st (a.on o) (c + 1) = if a.on o c = true then max (z_grt a.st (a.on o) c) (a.st c) else z_grt a.st (a.on o) c := rfl
          rw [e1, e2, e3, on']
          simp
        rw [e] at ih
        exact ih
theorem t_route (I : zInv m) (x : Int32) (y : Int32) : zAg Int32.toInt64 (f_L_route x y m) (f_X12_route x y) := by
  obtain ⟨a, b, n, p, s, l, c, e, I'⟩ := I
  have v := I'.1
  have n64 := v.n64
  unfold f_L_route
  rcases z_cell v x with ⟨d, hd, rfl⟩ | hx
  · have st := zG.st_lt v hd
    have m1i : (-1 : Int32).toInt = -1 := by decide
    have key : y = -1 ∨ (∃ k, k ≤ a.st d ∧ y = Int32.ofNat k) ∨ ((y < -1 ∨ ∃ k, k < 2147483648 ∧ a.st d < k ∧ y = Int32.ofNat k)) := by
      rcases zi_cases y with w | ⟨k, kb, rfl⟩
      · by_cases w2 : y = -1
        · exact .inl w2
        · refine .inr (.inr (.inl ?_))
          rw [Int32.lt_iff_toInt_lt] at w ⊢
          have e1 : (-1 : Int32).toInt = -1 := by decide
          have e0 : (0 : Int32).toInt = 0 := rfl
          have : y.toInt ≠ -1 := fun q => w2 (Int32.toInt_inj.mp (by rw [q, e1]))
          omega
      · by_cases w : k ≤ a.st d
        · exact .inr (.inl ⟨k, w, rfl⟩)
        · exact .inr (.inr (.inr ⟨k, kb, by omega, rfl⟩))
    have hin : ∀ m, f_X12_in (Int32.toInt64 y) (-1 : Int64) (Int32.toInt64 (Int32.ofNat (a.st d))) m = some (decide (-1 ≤ y.toInt ∧ y.toInt ≤ a.st d)) := fun m => by
      rw [s_in]
      have e1 : (-1 : Int64) ≤ Int32.toInt64 y ↔ -1 ≤ y.toInt := by
        rw [Int64.le_iff_toInt_le, zi_64]
        rfl
      have e2 : Int32.toInt64 y ≤ Int32.toInt64 (Int32.ofNat (a.st d)) ↔ y.toInt ≤ a.st d := by
        rw [Int64.le_iff_toInt_le, zi_64, zi_64, zi_toInt (by omega)]
      simp only [e1, e2]
    obtain ⟨m1, s1, h1, h2, h3, h4, h5⟩ := s_flows v (show 0 < 11 by omega) I'.2.1
    have look : ∀ m', zFr zSc m m' → ∃ m2, f_X12_looks (z_sI m' 13 0 0 0) = some m2 ∧ zFr zSm m' m2 ∧ m2.1 13 0 0 = 0 ∧ zMR (m2.1 23 0) a ∧ zMF a m2 ∧ zMR ((z_sI m' 13 0 0 0).1 23 0) a := fun m' f => by
      have r1 := (I'.keep f).2.2.1.th 0
      obtain ⟨m2, q1, q2, q3⟩ := s_looks v r1
      exact ⟨m2, q1, (z_th m' 0).trans (q2.mono fun k i j => zPlo_m), q2.t0 (by unfold zPlo; omega) (z_th0 _ _), by rw [q2.row (fun j => by unfold zPlo; omega)]; exact r1, q3.f, r1⟩
    rcases key with rfl | ⟨k, hk, rfl⟩ | hout
    · refine zAg.ok Int32.toInt64 I'.of (v := Int32.ofNat (a.mo d)) ?_ fun m' f => ?_
      · unfold f_X11_route zCl
        rw [s_req v I'.2.1 hd, zbx_l, h1, Option.bind_some, if_neg (by decide), s_at' 20 43 (show d < 64 by omega), Option.bind_some, (h5.2.2.2.2.2 d hd).2, if_pos (by rw [Int32.le_iff_toInt_le, zi_toInt (by omega)]; omega), if_pos rfl, s_at' 20 42 (show d < 64 by omega), Option.bind_some, (h5.2.2.2.2.2 d hd).1]
        exact ⟨m1, rfl, h2⟩
      · obtain ⟨m2, q1, q2, q3, q4, q5, q6⟩ := look m' f
        unfold zAn f_X12_route
        rw [s_isCell v q6 hd, Option.bind_some, if_neg (by decide), q1, Option.bind_some, s_stepsOf v q4 q5 hd, Option.bind_some, hin, Option.bind_some, if_neg (by rw [zi_bi0, decide_eq_false_iff_not]; omega), if_neg (by decide), s_mouth v q4 q5 hd, Option.bind_some]
        exact ⟨_, m2, rfl, q2, q3, rfl⟩
    · obtain ⟨t, _, t2, _⟩ := zG.go_ex v k d hd hk
      refine zAg.ok Int32.toInt64 I'.of (v := Int32.ofNat t) ?_ fun m' f => ?_
      · unfold f_X11_route zCl
        rw [s_req v I'.2.1 hd, zbx_l, h1, Option.bind_some, if_neg (by rw [Int32.lt_iff_toInt_lt, zi_toInt (by omega)]; omega), s_at' 20 43 (show d < 64 by omega), Option.bind_some, (h5.2.2.2.2.2 d hd).2, if_pos (by rw [zi_le (by omega) (by omega)]; exact hk), if_neg (zi_m1 (by omega)), s_downstream v (fun d hd => (h5.2.2.2.1 d hd).2.2) (by omega) hd t2, Option.bind_some]
        exact ⟨m1, rfl, h2⟩
      · obtain ⟨m2, q1, q2, q3, q4, q5, q6⟩ := look m' f
        unfold zAn f_X12_route
        rw [s_isCell v q6 hd, Option.bind_some, if_neg (by decide), q1, Option.bind_some, s_stepsOf v q4 q5 hd, Option.bind_some, hin, Option.bind_some, if_neg (by rw [zi_bi0, decide_eq_false_iff_not, zi_toInt (by omega)]; omega), if_pos (zi_zl (by omega)), show (0 : Int32) = Int32.ofNat 0 from rfl, s_route_61 v q4 q5 (show k ≤ 64 by omega) zF 0 d t hd (Nat.zero_le _) (zF_lt (by omega)) t2]
        exact ⟨_, m2, rfl, q2, q3, rfl⟩
    · refine zAg.ex Int32.toInt64 I'.of (x := 3) (k := 2) ?_ rfl fun m' f => ?_
      · unfold f_X11_route zCl
        rw [s_req v I'.2.1 hd, zbx_l, h1, Option.bind_some]
        refine ⟨m1, ?_, h2⟩
        rcases hout with w | ⟨k, kb, k1, rfl⟩
        · rw [if_pos w]
        · rw [if_neg (by rw [Int32.lt_iff_toInt_lt, zi_toInt (by omega)]; omega), s_at' 20 43 (show d < 64 by omega), Option.bind_some, (h5.2.2.2.2.2 d hd).2, if_neg (by rw [zi_le (by omega) (by omega)]; omega)]
      · obtain ⟨m2, q1, q2, q3, q4, q5, q6⟩ := look m' f
        unfold zAn f_X12_route
        rw [s_isCell v q6 hd, Option.bind_some, if_neg (by decide), q1, Option.bind_some, s_stepsOf v q4 q5 hd, Option.bind_some, hin, Option.bind_some, if_pos (by
          rw [zi_bi0, decide_eq_false_iff_not]
          rcases hout with w | ⟨k, kb, k1, rfl⟩
          · rw [Int32.lt_iff_toInt_lt] at w
            omega
          · rw [zi_toInt (by omega)]
            omega)]
        exact ⟨0, _, rfl, q2.trans (z_th _ 2), by decide, z_th0 _ _⟩
  · refine zAg.ex Int32.toInt64 I'.of (x := 1) (k := 1) ?_ rfl fun m' f => ?_
    · unfold f_X11_route zCl
      rw [s_reqn v I'.2.1 hx]
      exact ⟨m, rfl, zFr.refl m⟩
    · have I1 := I'.keep f
      unfold zAn f_X12_route
      rw [s_isCelln v (I1.2.2.1.th 0) hx, Option.bind_some, if_pos (by decide)]
      exact ⟨0, _, rfl, (z_th m' 0).trans (z_th _ 1), by decide, z_th0 _ _⟩
theorem t_basin (I : zInv m) (x : Int32) (y : Int32) : zAg Int32.toInt64 (f_L_basin x y m) (f_X12_basin x y) := by
  obtain ⟨a, b, n, p, s, l, c, e, I'⟩ := I
  have v := I'.1
  have n64 := v.n64
  unfold f_L_basin
  rcases z_cell v x with ⟨d, hd, rfl⟩ | hx
  · by_cases ho : a.ou d = true
    · rcases z_rng y (lo := 0) (hi := 3) (by omega) (by omega) with ⟨k, _, k2, rfl, g1, g2⟩ | ⟨g0, g1, g2⟩
      · have hk : k = 0 ∨ k = 1 ∨ k = 2 ∨ k = 3 := by omega
        refine zAg.ok Int32.toInt64 I'.of (v := if k = 2 then Int32.ofNat (a.out d) else Int32.ofNat (a.ba d k a.n)) ?_ fun m' f => ?_
        · unfold f_X11_basin zCl
          obtain ⟨m1, s1, h1, h2, h3, h4, h5, h6, h7⟩ := s_waters v (show 0 < 11 by omega) I'.2.1
          obtain ⟨A, A1, A2⟩ := s_above v h5 hd
          rw [s_req v I'.2.1 hd, zbx_l, s_outlet v I'.2.1 hd, Option.bind_some, ho, if_neg (by decide), show (0 : Int32) = Int32.ofNat 0 from rfl, show (3 : Int32) = Int32.ofNat 3 from rfl, g1, zbx_l, h1, Option.bind_some, A1, Option.bind_some]
          refine ⟨m1, ?_, h2⟩
          rcases hk with rfl | rfl | rfl | rfl
          · rw [if_pos (by decide), s_bitn v A2, Option.bind_some]
            rfl
          · rw [if_neg (by decide), if_pos (by decide), s_sumn v 1 A2 fun d hd _ => h3.rn d (by omega), Option.bind_some]
            rfl
          · rw [if_neg (by decide), if_neg (by decide), if_pos (by decide), s_at' 20 47 (show d < 64 by omega), Option.bind_some, (h7 d hd).2.2]
            rfl
          · rw [if_neg (by decide), if_neg (by decide), if_neg (by decide), s_grtn v 43 A2 (fun d hd _ => (h5.2.2.2.2.2 d hd).2) fun d hd => by have := zG.st_lt v hd; omega, Option.bind_some]
            rfl
        · have I1 := I'.keep f
          have r1 := I1.2.2.1.th 0
          obtain ⟨m2, q1, q2, q3, q4⟩ := s_mwaters v r1
          have r2 : zMR (m2.1 23 0) a := by rw [q2.row (fun j => by unfold zPwa; omega)]; exact r1
          have h0 := s_bas_60 v r2 q3.f q4 hd ho hk zF 0 (Nat.zero_le _) (zF_lt (by omega))
          have z0 : a.ba d k 0 = 0 := by
            unfold zG.ba
            split
            · rfl
            · split
              · rfl
              · split <;> rfl
          rw [z0] at h0
          unfold zAn f_X12_basin
          rw [s_isCell v r1 hd, Option.bind_some, if_neg (by decide), s_mout r1 (by omega), Option.bind_some, ho, if_neg (by decide), show (0 : Int64) = Int32.toInt64 (Int32.ofNat 0) from rfl, show (3 : Int64) = Int32.toInt64 (Int32.ofNat 3) from rfl, g2, Option.bind_some, if_neg (by decide), q1, Option.bind_some, show (0 : Int32) = Int32.ofNat 0 from rfl, h0]
          exact ⟨_, m2, rfl, (z_th m' 0).trans (q2.mono fun k i j => zPwa_m), q2.t0 (by unfold zPwa; omega) (z_th0 _ _), rfl⟩
      · refine zAg.ex Int32.toInt64 I'.of (x := 0) (k := 3) ?_ rfl fun m' f => ?_
        · unfold f_X11_basin zCl
          rw [s_req v I'.2.1 hd, zbx_l, s_outlet v I'.2.1 hd, Option.bind_some, ho, if_neg (by decide), show (0 : Int32) = Int32.ofNat 0 from rfl, show (3 : Int32) = Int32.ofNat 3 from rfl, g1, zbx_r]
          exact ⟨m, rfl, zFr.refl m⟩
        · have r1 := (I'.keep f).2.2.1.th 0
          unfold zAn f_X12_basin
          rw [s_isCell v r1 hd, Option.bind_some, if_neg (by decide), s_mout r1 (by omega), Option.bind_some, ho, if_neg (by decide), show (0 : Int64) = Int32.toInt64 (Int32.ofNat 0) from rfl, show (3 : Int64) = Int32.toInt64 (Int32.ofNat 3) from rfl, g2, Option.bind_some, if_pos (by decide)]
          exact ⟨0, _, rfl, (z_th m' 0).trans (z_th _ 3), by decide, z_th0 _ _⟩
    · have ho' : a.ou d = false := by cases q : a.ou d <;> simp_all
      refine zAg.ex Int32.toInt64 I'.of (x := 2) (k := 2) ?_ rfl fun m' f => ?_
      · unfold f_X11_basin zCl
        rw [s_req v I'.2.1 hd, zbx_l, s_outlet v I'.2.1 hd, Option.bind_some, ho', if_pos (by decide)]
        exact ⟨m, rfl, zFr.refl m⟩
      · have r1 := (I'.keep f).2.2.1.th 0
        unfold zAn f_X12_basin
        rw [s_isCell v r1 hd, Option.bind_some, if_neg (by decide), s_mout r1 (by omega), Option.bind_some, ho', if_pos (by decide)]
        exact ⟨0, _, rfl, (z_th m' 0).trans (z_th _ 2), by decide, z_th0 _ _⟩
  · refine zAg.ex Int32.toInt64 I'.of (x := 1) (k := 1) ?_ rfl fun m' f => ?_
    · unfold f_X11_basin zCl
      rw [s_reqn v I'.2.1 hx]
      exact ⟨m, rfl, zFr.refl m⟩
    · have I1 := I'.keep f
      unfold zAn f_X12_basin
      rw [s_isCelln v (I1.2.2.1.th 0) hx, Option.bind_some, if_pos (by decide)]
      exact ⟨0, _, rfl, (z_th m' 0).trans (z_th _ 1), by decide, z_th0 _ _⟩
end
