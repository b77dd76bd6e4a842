/-! The reference's waters: over and over till nothing is other. -/
theorem zo_eq {x : Option Nat} {c : Nat} (hx : ∀ e, x = some e → e < 2147483648) (hc : c < 2147483648) : zo x = Int32.ofNat c ↔ x = some c := by
  cases x with
  | none => exact ⟨fun h => absurd h.symm (zi_m1 hc), fun h => by cases h⟩
  | some e =>
    rw [zo_some, zi_eq (hx e rfl) hc]
    exact ⟨fun h => by rw [h], fun h => by cases h; rfl⟩
theorem z_in23 {c : Nat} (h : c < 259) : z_inb (Int32.ofNat c) (z_alen 23) = true := by
  rw [zi_inb (by omega), decide_eq_true_eq]
  exact h
section
variable {a : zG} {m : zM}
theorem zMR.sk (h : zMR (m.1 23 0) a) {c : Nat} (hc : c < 64) : m.1 23 0 (131 + c) = Int32.ofNat (a.sk c) := h.2.2.2.2.2.1 c hc
theorem zMR.rn (h : zMR (m.1 23 0) a) {c : Nat} (hc : c < 64) : m.1 23 0 (67 + c) = Int32.ofNat (a.rn c) := h.2.2.2.2.1 c hc
theorem zMR.thr (h : zMR (m.1 23 0) a) : m.1 23 0 2 = Int32.ofNat a.thr := h.2.2.1
theorem zG.to_b (v : zGV a) {e : Nat} (he : e < a.n) : ∀ f, a.to e = some f → f < 2147483648 := fun f h => by
  have := zG.to_n v he h
  have := v.n64
  omega
theorem s_soaks_ex (v : zGV a) (r : zMR (m.1 23 0) a) {c : Nat} (hc : c < a.n) : ∃ x, f_X12_soaks (Int32.ofNat c) m = some x ∧ (m.1 20 63 c = Int32.ofNat (a.wa c) → x = Int32.ofNat (a.sos c)) := by
  have n64 := v.n64
  have h1 := v.sk c
  have h2 := zG.wa_b v hc
  unfold f_X12_soaks
  rw [show (131 : Int32) + Int32.ofNat c = Int32.ofNat (131 + c) from zi_add 131 c, z_gdt (z_in23 (by omega)), z_gdt (z_in64 (by omega)), zi_nat (k := 131 + c) (by omega), zi_nat (k := c) (by omega), r.sk (by omega)]
  unfold f_J9_min_7cf53
  by_cases w : m.1 20 63 c < Int32.ofNat (a.sk c)
  · rw [if_pos w]
    refine ⟨_, rfl, fun h => ?_⟩
    rw [h, zi_lt (by omega) (by omega)] at w
    rw [h]
    unfold zG.sos
    congr 1
    omega
  · rw [if_neg w]
    refine ⟨_, rfl, fun h => ?_⟩
    rw [h, zi_lt (by omega) (by omega)] at w
    unfold zG.sos
    congr 1
    omega
theorem s_inflow_4 (v : zGV a) (r : zMR (m.1 23 0) a) (hf : zMF a m) {c : Nat} (hc : c < a.n) : ∀ (j d : Nat) (x : Int32), d ≤ 4 → 4 - d < j → ∃ y, f_X12_inflow_4 m j (Int32.ofNat c) x (Int32.ofNat d) = some y ∧ ((∀ e, e < a.n → a.to e = some c → m.1 20 63 e = Int32.ofNat (a.wa e)) → x = Int32.ofNat (z_tot (fun e => if a.fs c d e = true then a.out e else 0) a.n) → y = Int32.ofNat (a.inf c))
  | 0, _, _, _, h => absurd h (Nat.not_lt_zero _)
  | j + 1, d, x, hd, hj => by
    have n64 := v.n64
    unfold f_X12_inflow_4
    rw [show (4 : Int32) = Int32.ofNat 4 from rfl]
    by_cases he : d = 4
    · subst he
      rw [if_pos (by rw [zi_le (by omega) (by omega)]; omega)]
      refine ⟨x, rfl, fun _ h => ?_⟩
      rw [h]
      unfold zG.inf
      congr 1
      refine z_tot_ext fun e he => ?_
      rw [zG.fs4 v he]
      simp
    · have hj2 : d + 1 ≤ 4 ∧ 4 - (d + 1) < j := by omega
      have ih := fun y => s_inflow_4 v r hf hc j (d + 1) y hj2.1 hj2.2
      rw [if_neg (by rw [zi_le (by omega) (by omega)]; omega), s_next v r hc (by omega), Option.bind_some, zi_s]
      cases hn : a.nb c d with
      | none =>
        rw [if_pos (show zo none < 0 by decide)]
        obtain ⟨y, p1, p2⟩ := ih x
        refine ⟨y, p1, fun h1 h2 => p2 h1 ?_⟩
        rw [h2]
        congr 1
        exact z_tot_ext fun e _ => by rw [zG.fs_none hn]
      | some e =>
        have hen := zG.nb_n v hc hn
        have heq := zo_eq (zG.to_b v hen) (show c < 2147483648 by omega)
        rw [zo_some, if_neg (zi_z (by omega)), s_onward v r hf hen, Option.bind_some]
        by_cases ht : a.to e = some c
        · obtain ⟨u, u1, u2⟩ := s_soaks_ex v r hen
          rw [if_pos (heq.mpr ht), z_gdt (z_in64 (by omega)), u1, Option.bind_some, zi_nat (by omega)]
          obtain ⟨y, p1, p2⟩ := ih (x + (m.1 20 63 e - u))
          refine ⟨y, p1, fun h1 h2 => p2 h1 ?_⟩
          obtain ⟨g1, g2, g3⟩ := zG.fs_yes v hc (by omega) hn ht
          rw [h2, u2 (h1 e hen ht), h1 e hen ht, zi_sub (by unfold zG.sos; omega), zi_add]
          congr 1
          rw [z_tot_one (F := fun e => if a.fs c d e = true then a.out e else 0) (G := fun e => if a.fs c (d + 1) e = true then a.out e else 0) hen (fun z _ q => by simp only [g1 z q]) (by simp [g2])]
          simp only [g3, if_true]
          rfl
        · rw [if_neg (mt heq.mp ht)]
          obtain ⟨y, p1, p2⟩ := ih x
          refine ⟨y, p1, fun h1 h2 => p2 h1 ?_⟩
          rw [h2]
          congr 1
          exact z_tot_ext fun z _ => by rw [zG.fs_no hn ht]
theorem s_inflow (v : zGV a) (r : zMR (m.1 23 0) a) (hf : zMF a m) {c : Nat} (hc : c < a.n) : ∃ y, f_X12_inflow (Int32.ofNat c) m = some y ∧ ((∀ e, e < a.n → a.to e = some c → m.1 20 63 e = Int32.ofNat (a.wa e)) → y = Int32.ofNat (a.inf c)) := by
  obtain ⟨y, p1, p2⟩ := s_inflow_4 v r hf hc zF 0 0 (by omega) (zF_lt (by omega))
  refine ⟨y, p1, fun h => p2 h ?_⟩
  rw [z_tot_0 fun e _ => by simp [zG.fs, zG.nbs]]
  rfl
abbrev zP63 (k i _j : Nat) : Prop := k = 20 ∧ i = 63
/-- how many cells lie above one -/
noncomputable def zG.hi (a : zG) (c : Nat) : Nat := z_cnt (fun e => decide (a.mu c < a.mu e)) a.n
theorem zG.hi_lt {c : Nat} (hc : c < a.n) : a.hi c < a.n := by
  have h4 := z_cnt_lt (p := fun e => decide (a.mu c < a.mu e)) (q := fun _ => true) (n := a.n) (c := c) (fun f _ w => rfl) hc (by simp) rfl
  have := z_cnt_le (fun _ => true) a.n
  unfold zG.hi
  omega
theorem zG.hi_to (v : zGV a) {c e : Nat} (he : e < a.n) (h : a.to e = some c) : a.hi e < a.hi c := by
  have h1 := zG.to_mu v he h
  exact z_cnt_lt (p := fun f => decide (a.mu e < a.mu f)) (q := fun f => decide (a.mu c < a.mu f)) (n := a.n) (c := e) (fun f _ w => by simp at w ⊢; omega) he (by simp) (by simpa using h1)
def zMw (a : zG) (m : zM) : Prop := zMR (m.1 23 0) a ∧ zMF a m
theorem zMw.keep {m m' : zM} (h : zMw a m) (f : zFr zP63 m m') : zMw a m' :=
  ⟨by rw [f.row (fun j => by unfold zP63; omega)]; exact h.1, fun d hd => by rw [(f 20 61 d (by unfold zP63; omega)).1]; exact h.2 d hd⟩
theorem s_wat_37 (v : zGV a) (K : Int32 → zM → Option zM) (t : Nat) : ∀ (j c : Nat) (x : Int32) (m : zM), c ≤ a.n → a.n - c < j → zMw a m → (∀ d, d < a.n → a.hi d < t → m.1 20 63 d = Int32.ofNat (a.wa d)) → (∀ d, d < c → a.hi d < t + 1 → m.1 20 63 d = Int32.ofNat (a.wa d)) →
    ∃ x' m', f_X12_waters_37 K j x (Int32.ofNat c) m = K x' m' ∧ zFr zP63 m m' ∧ (∀ d, d < a.n → a.hi d < t + 1 → m'.1 20 63 d = Int32.ofNat (a.wa d)) ∧ ((x' = x ∧ m' = m ∧ ∀ d, c ≤ d → d < a.n → (∀ e, e < a.n → a.to e = some d → m.1 20 63 e = Int32.ofNat (a.wa e)) → m.1 20 63 d = Int32.ofNat (a.wa d)) ∨ (x' = 1 ∧ ∃ d, d < a.n ∧ m.1 20 63 d ≠ Int32.ofNat (a.wa d)))
  | 0, _, _, _, _, h, _, _, _ => absurd h (Nat.not_lt_zero _)
  | j + 1, c, x, m, hc, hj, r, ht, hd => by
    have n64 := v.n64
    unfold f_X12_waters_37
    rw [s_mcells r.1, Option.bind_some]
    by_cases he : c = a.n
    · subst he
      rw [if_pos (by rw [zi_le (by omega) (by omega)]; omega)]
      exact ⟨x, m, rfl, zFr.refl m, hd, .inl ⟨rfl, rfl, fun d h1 h2 => by omega⟩⟩
    · have hcn : c < a.n := by omega
      have hj2 : a.n - (c + 1) < j := by omega
      have b1 := zG.wa_b v hcn
      obtain ⟨y, p1, p2⟩ := s_inflow v r.1 r.2 hcn
      rw [if_neg (by rw [zi_le (by omega) (by omega)]; omega), p1, Option.bind_some, show (67 : Int32) + Int32.ofNat c = Int32.ofNat (67 + c) from zi_add 67 c, z_gdt (z_in23 (by omega)), z_gdt (z_in64 (by omega)), z_gdt (z_in64 (by omega)), zi_nat (k := 67 + c) (by omega), zi_nat (k := c) (by omega), r.1.rn (by omega), zi_s]
      have val : (∀ e, e < a.n → a.to e = some c → m.1 20 63 e = Int32.ofNat (a.wa e)) → y + Int32.ofNat (a.rn c) = Int32.ofNat (a.wa c) := fun h => by
        rw [p2 h, zi_add, ← zG.wa_eq v hcn]
      have pre : a.hi c < t + 1 → ∀ e, e < a.n → a.to e = some c → m.1 20 63 e = Int32.ofNat (a.wa e) := fun h e h1 h2 => ht e h1 (by have := zG.hi_to v h1 h2; omega)
      by_cases w : y + Int32.ofNat (a.rn c) = m.1 20 63 c
      · rw [if_pos w]
        obtain ⟨x', m', q1, q2, q3, q4⟩ := s_wat_37 v K t j (c + 1) x m hcn hj2 r ht fun d h1 h2 => by
          by_cases z : d = c
          · rw [z] at h2 ⊢
            rw [← w, val (pre h2)]
          · exact hd d (by omega) h2
        refine ⟨x', m', q1, q2, q3, ?_⟩
        rcases q4 with ⟨g1, g2, g3⟩ | q4
        · refine .inl ⟨g1, g2, fun d h1 h2 h3 => ?_⟩
          by_cases z : d = c
          · rw [z] at h3 ⊢
            rw [← w, val h3]
          · exact g3 d (by omega) h2 h3
        · exact .inr q4
      · rw [if_neg w]
        have f1 : zFr zP63 m (z_sI m 20 63 c (y + Int32.ofNat (a.rn c))) := zFr.sI (zFr.refl m) _ ⟨rfl, rfl⟩
        have bad : ∃ d, d < a.n ∧ m.1 20 63 d ≠ Int32.ofNat (a.wa d) := Classical.byContradiction fun q => by
          have all : ∀ d, d < a.n → m.1 20 63 d = Int32.ofNat (a.wa d) := fun d h => Classical.byContradiction fun z => q ⟨d, h, z⟩
          exact w (by rw [val fun e h _ => all e h, all c hcn])
        obtain ⟨x', m', q1, q2, q3, q4⟩ := s_wat_37 v K t j (c + 1) 1 _ hcn hj2 (r.keep f1) (fun d h1 h2 => by
          rw [zm_row]
          by_cases z : d = c
          · rw [if_pos z, z, val (pre (by rw [z] at h2; omega))]
          · rw [if_neg z]; exact ht d h1 h2) fun d h1 h2 => by
          rw [zm_row]
          by_cases z : d = c
          · rw [if_pos z, z, val (pre (by rw [z] at h2; omega))]
          · rw [if_neg z]; exact hd d (by omega) h2
        refine ⟨x', m', q1, f1.trans q2, q3, .inr ⟨?_, bad⟩⟩
        rcases q4 with ⟨g, _⟩ | ⟨g, _⟩ <;> exact g
theorem s_wat_29 (v : zGV a) : ∀ (j t : Nat) (m : zM), t ≤ a.n → a.n - t + 1 < j → zMw a m → (∀ d, d < a.n → a.hi d < t → m.1 20 63 d = Int32.ofNat (a.wa d)) → ∃ m', f_X12_waters_29 j 1 m = some m' ∧ zFr zP63 m m' ∧ ∀ d, d < a.n → m'.1 20 63 d = Int32.ofNat (a.wa d)
  | 0, _, _, _, h, _, _ => absurd h (Nat.not_lt_zero _)
  | j + 1, t, m, ht, hj, r, hs => by
    have n64 := v.n64
    unfold f_X12_waters_29
    rw [if_neg (by decide)]
    obtain ⟨x', m1, q1, q2, q3, q4⟩ := s_wat_37 v (f_X12_waters_29 j) t zF 0 0 m (Nat.zero_le _) (zF_lt (by omega)) r hs fun d h => absurd h (Nat.not_lt_zero _)
    rw [show Int32.ofNat 0 = (0 : Int32) from rfl] at q1
    rw [q1]
    rcases q4 with ⟨g1, g2, g3⟩ | ⟨g1, d, g2, g3⟩
    · subst g1 g2
      obtain ⟨j', rfl⟩ : ∃ j', j = j' + 1 := ⟨j - 1, by omega⟩
      unfold f_X12_waters_29
      rw [if_pos rfl]
      exact ⟨m1, rfl, q2, zG.up v fun c hc ih => g3 c (Nat.zero_le _) hc ih⟩
    · subst g1
      have h1 : t < a.n := by
        refine Nat.lt_of_le_of_ne ht fun z => g3 (hs d g2 ?_)
        rw [z]
        exact zG.hi_lt g2
      obtain ⟨m', p1, p2, p3⟩ := s_wat_29 v j (t + 1) m1 h1 (by omega) (r.keep q2) q3
      exact ⟨m', p1, q2.trans p2, p3⟩
theorem s_wat_6 (v : zGV a) : ∀ (j c : Nat) (m : zM), c ≤ a.n → a.n - c < j → zMw a m → ∃ m', f_X12_waters_6 j (Int32.ofNat c) m = some m' ∧ zFr zP63 m m' ∧ ∀ d, d < a.n → m'.1 20 63 d = Int32.ofNat (a.wa d)
  | 0, _, _, _, h, _ => absurd h (Nat.not_lt_zero _)
  | j + 1, c, m, hc, hj, r => by
    have n64 := v.n64
    unfold f_X12_waters_6
    rw [s_mcells r.1, Option.bind_some]
    by_cases he : c = a.n
    · rw [if_pos (by rw [zi_le (by omega) (by omega)]; omega)]
      exact s_wat_29 v zF 0 m (Nat.zero_le _) (zF_lt (by omega)) r fun d _ h => absurd h (Nat.not_lt_zero _)
    · have hcn : c < a.n := by omega
      have hj2 : a.n - (c + 1) < j := by omega
      rw [if_neg (by rw [zi_le (by omega) (by omega)]; omega), z_gdt (z_in64 (by omega)), zi_nat (by omega), zi_s]
      have f1 : zFr zP63 m (z_sI m 20 63 c 0) := zFr.sI (zFr.refl m) _ ⟨rfl, rfl⟩
      obtain ⟨m', p1, p2, p3⟩ := s_wat_6 v j (c + 1) _ hcn hj2 (r.keep f1)
      exact ⟨m', p1, f1.trans p2, p3⟩
abbrev zPwa (k i _j : Nat) : Prop := k = 20 ∧ 59 ≤ i ∧ i ≤ 63
theorem s_mwaters (v : zGV a) {m : zM} (r : zMR (m.1 23 0) a) : ∃ m', f_X12_waters m = some m' ∧ zFr zPwa m m' ∧ zML a m' ∧ ∀ d, d < a.n → m'.1 20 63 d = Int32.ofNat (a.wa d) := by
  have n64 := v.n64
  unfold f_X12_waters
  obtain ⟨m1, p1, p2, p3⟩ := s_looks v r
  rw [p1, Option.bind_some]
  obtain ⟨m', q1, q2, q3⟩ := s_wat_6 v zF 0 m1 (Nat.zero_le _) (zF_lt (by omega)) ⟨by rw [p2.row (fun j => by unfold zPlo; omega)]; exact r, p3.f⟩
  refine ⟨m', q1, (p2.mono fun k i j w => by unfold zPlo at w; unfold zPwa; omega).trans (q2.mono fun k i j w => by unfold zP63 at w; unfold zPwa; omega), ⟨⟨fun d hd => ?_, fun d hd => ?_⟩, fun d hd => ⟨?_, ?_⟩⟩, q3⟩
  · rw [(q2 20 59 d (by unfold zP63; omega)).1]; exact p3.1.1 d hd
  · rw [(q2 20 60 d (by unfold zP63; omega)).1]; exact p3.1.2 d hd
  · rw [(q2 20 61 d (by unfold zP63; omega)).1]; exact (p3.2 d hd).1
  · rw [(q2 20 62 d (by unfold zP63; omega)).1]; exact (p3.2 d hd).2
/-! The class's waters. -/
abbrev zPru (k i _j : Nat) : Prop := k = 20 ∧ 44 ≤ i ∧ i ≤ 47
def zWr (a : zG) (m : zM) (c : Nat) : Prop := m.1 20 45 c = Int32.ofNat (a.wa c) ∧ m.1 20 46 c = Int32.ofNat (a.sos c) ∧ m.1 20 47 c = Int32.ofNat (a.out c)
theorem zTr.keep {m m' : zM} {s : Nat → Nat} (h : zTr a m s) {P : Nat → Nat → Nat → Prop} (f : zFr P m m') (hp : ∀ k i j, zPtr k i j → ¬ P k i j) : zTr a m' s := by
  have q : ∀ k i j, zPtr k i j → m'.1 k i j = m.1 k i j ∧ m'.2.1 k i j = m.2.1 k i j := fun k i j w => ⟨(f k i j (hp k i j w)).1, (f k i j (hp k i j w)).2.1⟩
  obtain ⟨h1, h2, h3, h4, h5, h6⟩ := h
  refine ⟨by rw [(q 5 0 0 (by unfold zPtr; omega)).1]; exact h1, fun d hd => by rw [(q 5 0 1 (by unfold zPtr; omega)).2]; exact h2 d hd, fun d hd => by rw [(q 20 36 d (by unfold zPtr; omega)).1]; exact h3 d hd, fun d hd => ?_, h5.keep (funext fun j => (q 20 40 j (by unfold zPtr; omega)).1), fun d hd => ?_⟩
  · obtain ⟨w1, w2, w3⟩ := h4 d hd
    exact ⟨by rw [(q 20 37 d (by unfold zPtr; omega)).1]; exact w1, by rw [(q 20 38 d (by unfold zPtr; omega)).1]; exact w2, by rw [(q 20 39 d (by unfold zPtr; omega)).1]; exact w3⟩
  · obtain ⟨w1, w2⟩ := h6 d hd
    exact ⟨by rw [(q 20 42 d (by unfold zPtr; omega)).1]; exact w1, by rw [(q 20 43 d (by unfold zPtr; omega)).1]; exact w2⟩
/-- what has flowed into a cell so far -/
noncomputable def zG.ifl (a : zG) (s : Nat → Nat) (k x : Nat) : Nat := z_tot (fun e => if a.to e = some x ∧ zin s k e = true then a.out e else 0) a.n
theorem zSq.all {s : Nat → Nat} {m : zM} (h : zSq a m s) {k : Nat} (hk : k < a.n) {e : Nat} (he : e < a.n) (ht : a.to e = some (s k)) : zin s k e = true :=
  zin_iff.mpr (h.2.2.2 k hk e he ht)
theorem zSq.new {s : Nat → Nat} {m : zM} (h : zSq a m s) {k : Nat} (hk : k < a.n) : zin s k (s k) = false := by
  cases w : zin s k (s k) with
  | false => rfl
  | true =>
    obtain ⟨i, q1, q2⟩ := zin_iff.mp w
    have := h.2.2.1 i k (by omega) hk q2
    omega
theorem zSq.inf {s : Nat → Nat} {m : zM} (h : zSq a m s) {k : Nat} (hk : k < a.n) : a.ifl s k (s k) = a.inf (s k) := by
  unfold zG.ifl zG.inf
  refine z_tot_ext fun e he => ?_
  by_cases w : a.to e = some (s k)
  · rw [if_pos w, if_pos ⟨w, h.all hk he w⟩]
  · rw [if_neg w, if_neg fun z => w z.1]
theorem s_run_10 (v : zGV a) {g : Nat} (hg : g < 11) {s : Nat → Nat} : ∀ (j k : Nat) (m : zM), k ≤ a.n → a.n - k < j → zGR m g a → zTr a m s → (∀ x, x < a.n → m.1 20 44 x = Int32.ofNat (a.ifl s k x)) → (∀ i, i < k → zWr a m (s i)) →
    ∃ m', f_X10_run_10 g j (Int32.ofNat k) m = some m' ∧ zFr zPru m m' ∧ (∀ x, x < a.n → m'.1 20 44 x = Int32.ofNat (a.inf x)) ∧ ∀ d, d < a.n → zWr a m' d
  | 0, _, _, _, h, _, _, _, _ => absurd h (Nat.not_lt_zero _)
  | j + 1, k, m, hk, hj, r, ht, hi, hw => by
    have n64 := v.n64
    have hs := ht.2.2.2.2.1
    unfold f_X10_run_10
    rw [ht.1]
    by_cases he : k = a.n
    · subst he
      rw [if_pos (by rw [zi_le (by omega) (by omega)]; omega)]
      refine ⟨m, rfl, zFr.refl m, fun x hx => ?_, fun d hd => ?_⟩
      · rw [hi x hx]
        congr 1
        unfold zG.ifl zG.inf
        refine z_tot_ext fun e he => ?_
        have : zin s a.n e = true := zin_iff.mpr (hs.2.1 e he)
        simp [this]
      · obtain ⟨i, q1, q2⟩ := hs.2.1 d hd
        rw [← q2]
        exact hw i q1
    · have hkn : k < a.n := by omega
      have hj2 : a.n - (k + 1) < j := by omega
      obtain ⟨b1, b2⟩ := hs.1 k hkn
      have b3 : s k < 64 := by omega
      have wb := zG.wa_b v b2
      have sk := v.sk (s k)
      have e1 : Int32.ofNat (a.inf (s k)) + Int32.ofNat (a.rn (s k)) = Int32.ofNat (a.wa (s k)) := by rw [zi_add, zG.wa_eq v b2]
      have e2 : Int32.ofNat (a.wa (s k)) - Int32.ofNat (a.sos (s k)) = Int32.ofNat (a.out (s k)) := zi_sub (by unfold zG.sos; omega)
      rw [if_neg (by rw [zi_le (by omega) (by omega)]; omega), s_at' 20 40 (show k < 64 by omega), Option.bind_some, b1, s_at' 20 44 b3, Option.bind_some, hi _ b2, hs.inf hkn, s_at' 20 (3 * g + 1) b3, Option.bind_some, r.rn _ b3, s_at' 20 (3 * g + 2) b3, Option.bind_some, r.sk _ b3, e1, z_min (by omega) (by omega), Option.bind_some, show min (a.wa (s k)) (a.sk (s k)) = a.sos (s k) from Nat.min_comm _ _, e2, s_put 20 45 b3, Option.bind_some, s_put 20 46 b3, Option.bind_some, s_put 20 47 b3, Option.bind_some, s_at' 20 39 b3, Option.bind_some, zi_s]
      have f1 : zFr zPru m (z_sI (z_sI (z_sI m 20 45 (s k) (Int32.ofNat (a.wa (s k)))) 20 46 (s k) (Int32.ofNat (a.sos (s k)))) 20 47 (s k) (Int32.ofNat (a.out (s k)))) :=
        zFr.sI (zFr.sI (zFr.sI (zFr.refl m) _ ⟨rfl, by omega, by omega⟩) _ ⟨rfl, by omega, by omega⟩) _ ⟨rfl, by omega, by omega⟩
      have w1 : ∀ i, i < k + 1 → zWr a (z_sI (z_sI (z_sI m 20 45 (s k) (Int32.ofNat (a.wa (s k)))) 20 46 (s k) (Int32.ofNat (a.sos (s k)))) 20 47 (s k) (Int32.ofNat (a.out (s k)))) (s i) := fun i hik => by
        unfold zWr
        rw [zm_ot _ _ _ _ (by omega), zm_ot _ _ _ _ (by omega), zm_row, zm_ot _ _ _ _ (by omega), zm_row, zm_ot _ _ _ _ (by omega), zm_row, zm_ot _ _ _ _ (by omega), zm_ot _ _ _ _ (by omega)]
        by_cases z : s i = s k
        · rw [if_pos z, if_pos z, if_pos z, z]
          exact ⟨rfl, rfl, rfl⟩
        · have : i ≠ k := fun y => z (by rw [y])
          rw [if_neg z, if_neg z, if_neg z]
          exact hw i (by omega)
      have i1 : ∀ x, (z_sI (z_sI (z_sI m 20 45 (s k) (Int32.ofNat (a.wa (s k)))) 20 46 (s k) (Int32.ofNat (a.sos (s k)))) 20 47 (s k) (Int32.ofNat (a.out (s k)))).1 20 44 x = m.1 20 44 x := fun x => by
        rw [zm_ot _ _ _ _ (by omega), zm_ot _ _ _ _ (by omega), zm_ot _ _ _ _ (by omega)]
      have t1 := ht.keep f1 fun k i j w => by unfold zPtr at w; unfold zPru; omega
      have r1 := r.keep f1 fun k i j w => by unfold zGp at w; unfold zPru; omega
      generalize z_sI (z_sI (z_sI m 20 45 (s k) (Int32.ofNat (a.wa (s k)))) 20 46 (s k) (Int32.ofNat (a.sos (s k)))) 20 47 (s k) (Int32.ofNat (a.out (s k))) = m1 at f1 w1 i1 t1 r1
      rw [(t1.2.2.2.1 _ b2).2.2]
      have zk : ∀ y, zin s (k + 1) y = (zin s k y || decide (s k = y)) := fun y => rfl
      cases hto : a.to (s k) with
      | none =>
        rw [zo_none, s_addn 20 44 (by decide), Option.bind_some]
        obtain ⟨m', p1, p2, p3⟩ := s_run_10 v hg j (k + 1) m1 hkn hj2 r1 t1 (fun x hx => by
          rw [i1, hi x hx]
          congr 1
          unfold zG.ifl
          refine z_tot_ext fun e _ => ?_
          rw [zk]
          by_cases z : s k = e
          · have : ¬ a.to e = some x := fun y => by rw [← z, hto] at y; cases y
            simp [this]
          · simp [z]) w1
        exact ⟨m', p1, f1.trans p2, p3⟩
      | some y =>
        have hy := zG.to_n v b2 hto
        rw [zo_some, s_add 20 44 (show y < 64 by omega), Option.bind_some, i1, hi y hy, zi_add]
        have f2 : zFr zPru m1 (z_sI m1 20 44 y (Int32.ofNat (a.ifl s k y + a.out (s k)))) := zFr.sI (zFr.refl m1) _ ⟨rfl, by omega, by omega⟩
        obtain ⟨m', p1, p2, p3⟩ := s_run_10 v hg j (k + 1) _ hkn hj2 (r1.keep f2 fun k i j w => by unfold zGp at w; unfold zPru; omega) (t1.keep f2 fun k i j w => by unfold zPtr at w; unfold zPru; omega) (fun x hx => by
          rw [zm_row]
          by_cases z : x = y
          · rw [if_pos z, z]
            congr 1
            unfold zG.ifl
            have := z_tot_one (F := fun e => if a.to e = some y ∧ zin s k e = true then a.out e else 0) (G := fun e => if a.to e = some y ∧ zin s (k + 1) e = true then a.out e else 0) (x := s k) b2 (fun e _ q => by
              have e1 : zin s (k + 1) e = zin s k e := by rw [zk]; simp [Ne.symm q]
              simp only [e1]) (by simp [hs.new hkn])
            rw [this]
            simp [zk, hto]
          · rw [if_neg z, i1, hi x hx]
            congr 1
            unfold zG.ifl
            refine z_tot_ext fun e _ => ?_
            rw [zk]
            by_cases q : s k = e
            · have : ¬ a.to e = some x := fun u => by rw [← q, hto] at u; cases u; exact z rfl
              simp [this]
            · simp [q]) fun i hik => by
          obtain ⟨q1, q2, q3⟩ := w1 i hik
          exact ⟨by rw [zm_ot _ _ _ _ (by omega)]; exact q1, by rw [zm_ot _ _ _ _ (by omega)]; exact q2, by rw [zm_ot _ _ _ _ (by omega)]; exact q3⟩
        exact ⟨m', p1, (f1.trans f2).trans p2, p3⟩
theorem s_run (v : zGV a) {g : Nat} (hg : g < 11) {s : Nat → Nat} {m : zM} (r : zGR m g a) (ht : zTr a m s) : ∃ m', f_X10_run g m = some m' ∧ zFr zPru m m' ∧ (∀ x, x < a.n → m'.1 20 44 x = Int32.ofNat (a.inf x)) ∧ ∀ d, d < a.n → zWr a m' d := by
  have n64 := v.n64
  unfold f_X10_run
  rw [s_fill, Option.bind_some]
  have f1 : zFr zPru m (zm_fill m 20 44 (z_alen 20) 0) := fun k i j w => ⟨by
    show (if k = 20 ∧ i = 44 ∧ j < z_alen 20 then 0 else m.1 k i j) = _
    rw [if_neg fun y => w ⟨y.1, by omega, by omega⟩], rfl, rfl⟩
  obtain ⟨m', q1, q2, q3⟩ := s_run_10 v hg zF 0 _ (Nat.zero_le _) (zF_lt (by omega)) (r.keep f1 fun k i j w => by unfold zGp at w; unfold zPru; omega) (ht.keep f1 fun k i j w => by unfold zPtr at w; unfold zPru; omega) (fun x hx => by
    show (if 20 = 20 ∧ 44 = 44 ∧ x < z_alen 20 then 0 else m.1 20 44 x) = _
    rw [if_pos ⟨rfl, rfl, by show x < 64; omega⟩]
    unfold zG.ifl
    rw [z_tot_0 fun e _ => by simp [zin]]
    rfl) fun i w => absurd w (Nat.not_lt_zero _)
  exact ⟨m', q1, f1.trans q2, q3⟩
end
