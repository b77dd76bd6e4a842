/-! Sums of both; changed grids; copies. -/
theorem z_tot_cut {F : Nat → Nat} {n : Nat} (h : ∀ d, n ≤ d → F d = 0) : ∀ k, z_tot F (n + k) = z_tot F n
  | 0 => rfl
  | k + 1 => by
    show z_tot F (n + k) + F (n + k) = _
    rw [z_tot_cut h k, h (n + k) (by omega)]
    rfl
theorem z_cnt_cut {p : Nat → Bool} {n : Nat} (h : ∀ d, n ≤ d → p d = false) : ∀ k, z_cnt p (n + k) = z_cnt p n
  | 0 => rfl
  | k + 1 => by
    show z_cnt p (n + k) + (if p (n + k) = true then 1 else 0) = _
    rw [z_cnt_cut h k, h (n + k) (by omega)]
    rfl
theorem z_grt_cut {f : Nat → Nat} {p : Nat → Bool} {n : Nat} (h : ∀ d, n ≤ d → p d = false) : ∀ k, z_grt f p (n + k) = z_grt f p n
  | 0 => rfl
  | k + 1 => by
    show (if p (n + k) = true then max (z_grt f p (n + k)) (f (n + k)) else z_grt f p (n + k)) = _
    rw [z_grt_cut h k, h (n + k) (by omega), if_neg (by decide)]
theorem z_sum_tot {f : Nat → Nat} {S : Nat → Bool} : ∀ n, z_sum f S n = z_tot (fun d => if S d = true then f d else 0) n
  | 0 => rfl
  | n + 1 => by
    unfold z_sum z_tot
    rw [z_sum_tot n]
section
variable {a : zG} {m : zM} {x : Int64} {S : Nat → Bool}
theorem z_setn (v : zGV a) (h : ∀ d, d < 64 → zb x d = (decide (d < a.n) && S d)) (d : Nat) : zb x d = (decide (d < a.n) && S d) := by
  by_cases w : d < 64
  · exact h d w
  · have := v.n64
    rw [zb_big _ (by omega)]
    have : ¬ d < a.n := by omega
    simp [this]
theorem z_setz (v : zGV a) (h : ∀ d, d < 64 → zb x d = (decide (d < a.n) && S d)) (d : Nat) (hd : a.n ≤ d) : zb x d = false := by
  rw [z_setn v h d]
  have : ¬ d < a.n := by omega
  simp [this]
theorem s_sumn (v : zGV a) (i : Nat) {f : Nat → Nat} (h : ∀ d, d < 64 → zb x d = (decide (d < a.n) && S d)) (hf : ∀ d, d < a.n → S d = true → m.1 20 i d = Int32.ofNat (f d)) : f_X7_sum 20 i x m = some (Int32.ofNat (z_tot (fun d => if S d = true then f d else 0) a.n)) := by
  have n64 := v.n64
  have hx := z_setn v h
  rw [s_sum i m x f fun c hc hb => ?_, z_sum_tot]
  · congr 2
    have e := z_tot_cut (F := fun d => if zb x d = true then f d else 0) (n := a.n) (fun d hd => by simp [z_setz v h d hd]) (64 - a.n)
    rw [show a.n + (64 - a.n) = 64 by omega] at e
    rw [e]
    exact z_tot_ext fun d hd => by rw [hx d]; simp [hd]
  · rw [hx c, Bool.and_eq_true, decide_eq_true_eq] at hb
    exact hf c hb.1 hb.2
theorem s_grtn (v : zGV a) (i : Nat) {f : Nat → Nat} (h : ∀ d, d < 64 → zb x d = (decide (d < a.n) && S d)) (hf : ∀ d, d < a.n → S d = true → m.1 20 i d = Int32.ofNat (f d)) (hb : ∀ d, d < a.n → f d ≤ 1000000000) : f_X7_greatest 20 i x m = some (Int32.ofNat (z_grt f S a.n)) := by
  have n64 := v.n64
  have hx := z_setn v h
  rw [s_greatest i m x f (fun c hc hb => ?_) fun c hc => ?_]
  · congr 2
    have e := z_grt_cut (f := f) (p := zb x) (n := a.n) (z_setz v h) (64 - a.n)
    rw [show a.n + (64 - a.n) = 64 by omega] at e
    rw [e]
    exact z_grt_ext (fun d hd => by rw [hx d]; simp [hd]) fun _ _ _ => rfl
  · rw [hx c, Bool.and_eq_true, decide_eq_true_eq] at hb
    exact hf c hb.1 hb.2
  · rw [hx c, Bool.and_eq_true, decide_eq_true_eq] at hc
    exact hb c hc.1
theorem s_bitn (v : zGV a) (h : ∀ d, d < 64 → zb x d = (decide (d < a.n) && S d)) (m : zM) : f_J13_bitCount_95d88 x m = some (Int32.ofNat (z_cnt S a.n)) := by
  have n64 := v.n64
  have hx := z_setn v h
  rw [z_bitCount]
  congr 2
  have e := z_cnt_cut (p := zb x) (n := a.n) (z_setz v h) (64 - a.n)
  rw [show a.n + (64 - a.n) = 64 by omega] at e
  rw [e]
  exact z_cnt_ext fun d hd => by rw [hx d]; simp [hd]
theorem s_alln (v : zGV a) {g : Nat} (r : zGR m g a) : ∃ A, f_X4_all g m = some A ∧ ∀ d, d < 64 → zb A d = (decide (d < a.n) && (fun _ => true) d) := by
  obtain ⟨A, h1, h2⟩ := s_all v r
  exact ⟨A, h1, fun d hd => by rw [h2 d hd]; simp⟩
theorem zGR.on (v : zGV a) {g : Nat} (r : zGR m g a) : ∀ d, d < 64 → zb (m.2.1 6 g 3) d = (decide (d < a.n) && a.ou d) := fun d hd => by
  rw [r.ou d hd]
  cases w : a.ou d with
  | false => simp
  | true => simp [v.ob d w]
end
/-- grids with one thing changed -/
def zG.sH (a : zG) (c u : Nat) : zG := (a.1, a.2.1, a.2.2.1, (fun d => if d = c then u else a.ht d), a.2.2.2.2.1, a.2.2.2.2.2.1, a.2.2.2.2.2.2)
def zG.sR (a : zG) (c u : Nat) : zG := (a.1, a.2.1, a.2.2.1, a.2.2.2.1, (fun d => if d = c then u else a.rn d), a.2.2.2.2.2.1, a.2.2.2.2.2.2)
def zG.sS (a : zG) (c u : Nat) : zG := (a.1, a.2.1, a.2.2.1, a.2.2.2.1, a.2.2.2.2.1, (fun d => if d = c then u else a.sk d), a.2.2.2.2.2.2)
def zG.sO (a : zG) (c : Nat) (u : Bool) : zG := (a.1, a.2.1, a.2.2.1, a.2.2.2.1, a.2.2.2.2.1, a.2.2.2.2.2.1, fun d => if d = c then u else a.ou d)
def zG.sT (a : zG) (u : Nat) : zG := (a.1, a.2.1, u, a.2.2.2.1, a.2.2.2.2.1, a.2.2.2.2.2.1, a.2.2.2.2.2.2)
section
variable {a : zG} {m : zM} {c : Nat}
theorem zGV.sH (v : zGV a) {u : Nat} (hu : u ≤ 99) : zGV (a.sH c u) := by
  obtain ⟨h1, h2, h3, h4, h5, h6, h7, h8, h9, h10, h11⟩ := v
  refine ⟨h1, h2, h3, h4, h5, h6, fun d => ?_, h8, h9, h10, h11⟩
  show (if d = c then u else a.ht d) ≤ 99
  split
  · exact hu
  · exact h7 d
theorem zGV.sR (v : zGV a) {u : Nat} (hu : u ≤ 9) : zGV (a.sR c u) := by
  obtain ⟨h1, h2, h3, h4, h5, h6, h7, h8, h9, h10, h11⟩ := v
  refine ⟨h1, h2, h3, h4, h5, h6, h7, fun d => ?_, h9, h10, h11⟩
  show (if d = c then u else a.rn d) ≤ 9
  split
  · exact hu
  · exact h8 d
theorem zGV.sS (v : zGV a) {u : Nat} (hu : u ≤ 9) : zGV (a.sS c u) := by
  obtain ⟨h1, h2, h3, h4, h5, h6, h7, h8, h9, h10, h11⟩ := v
  refine ⟨h1, h2, h3, h4, h5, h6, h7, h8, fun d => ?_, h10, h11⟩
  show (if d = c then u else a.sk d) ≤ 9
  split
  · exact hu
  · exact h9 d
theorem zGV.sT (v : zGV a) {u : Nat} (h1' : 1 ≤ u) (hu : u ≤ 99) : zGV (a.sT u) := by
  obtain ⟨h1, h2, h3, h4, h5, h6, h7, h8, h9, h10, h11⟩ := v
  exact ⟨h1, h2, h3, h4, h1', hu, h7, h8, h9, h10, h11⟩
theorem zGV.sO (v : zGV a) {u : Bool} (hc : c < a.n) (ho : u = true ∨ ∃ d, d ≠ c ∧ d < a.n ∧ a.ou d = true) : zGV (a.sO c u) := by
  obtain ⟨h1, h2, h3, h4, h5, h6, h7, h8, h9, h10, h11⟩ := v
  refine ⟨h1, h2, h3, h4, h5, h6, h7, h8, h9, ?_, fun d hd => ?_⟩
  · rcases ho with ho | ⟨d, q1, q2, q3⟩
    · exact ⟨c, hc, by show (if c = c then u else a.ou c) = true; rw [if_pos rfl]; exact ho⟩
    · exact ⟨d, q2, by show (if d = c then u else a.ou d) = true; rw [if_neg q1]; exact q3⟩
  · have hd' : (if d = c then u else a.ou d) = true := hd
    by_cases w : d = c
    · rw [w]; exact hc
    · rw [if_neg w] at hd'
      exact h11 d hd'
variable {g : Nat}
theorem zGR.sH (r : zGR m g a) (u : Nat) : zGR (z_sI m 20 (3 * g) c (Int32.ofNat u)) g (a.sH c u) := by
  obtain ⟨h1, h2, h3, h4, h5, h6, h7⟩ := r
  refine ⟨by rw [zm_ot _ _ _ _ (by omega)]; exact h1, by rw [zm_ot _ _ _ _ (by omega)]; exact h2, by rw [zm_ot _ _ _ _ (by omega)]; exact h3, fun d hd => ?_, fun d hd => by rw [zm_ot _ _ _ _ (by omega)]; exact h5 d hd, fun d hd => by rw [zm_ot _ _ _ _ (by omega)]; exact h6 d hd, h7⟩
  rw [zm_row]
  show _ = Int32.ofNat (if d = c then u else a.ht d)
  by_cases w : d = c
  · rw [if_pos w, if_pos w]
  · rw [if_neg w, if_neg w]; exact h4 d hd
theorem zGR.sR (r : zGR m g a) (u : Nat) : zGR (z_sI m 20 (3 * g + 1) c (Int32.ofNat u)) g (a.sR c u) := by
  obtain ⟨h1, h2, h3, h4, h5, h6, h7⟩ := r
  refine ⟨by rw [zm_ot _ _ _ _ (by omega)]; exact h1, by rw [zm_ot _ _ _ _ (by omega)]; exact h2, by rw [zm_ot _ _ _ _ (by omega)]; exact h3, fun d hd => by rw [zm_ot _ _ _ _ (by omega)]; exact h4 d hd, fun d hd => ?_, fun d hd => by rw [zm_ot _ _ _ _ (by omega)]; exact h6 d hd, h7⟩
  rw [zm_row]
  show _ = Int32.ofNat (if d = c then u else a.rn d)
  by_cases w : d = c
  · rw [if_pos w, if_pos w]
  · rw [if_neg w, if_neg w]; exact h5 d hd
theorem zGR.sS (r : zGR m g a) (u : Nat) : zGR (z_sI m 20 (3 * g + 2) c (Int32.ofNat u)) g (a.sS c u) := by
  obtain ⟨h1, h2, h3, h4, h5, h6, h7⟩ := r
  refine ⟨by rw [zm_ot _ _ _ _ (by omega)]; exact h1, by rw [zm_ot _ _ _ _ (by omega)]; exact h2, by rw [zm_ot _ _ _ _ (by omega)]; exact h3, fun d hd => by rw [zm_ot _ _ _ _ (by omega)]; exact h4 d hd, fun d hd => by rw [zm_ot _ _ _ _ (by omega)]; exact h5 d hd, fun d hd => ?_, h7⟩
  rw [zm_row]
  show _ = Int32.ofNat (if d = c then u else a.sk d)
  by_cases w : d = c
  · rw [if_pos w, if_pos w]
  · rw [if_neg w, if_neg w]; exact h6 d hd
theorem zGR.sT (r : zGR m g a) (u : Nat) : zGR (z_sI m 6 g 2 (Int32.ofNat u)) g (a.sT u) := by
  obtain ⟨h1, h2, h3, h4, h5, h6, h7⟩ := r
  exact ⟨by rw [zm_row, if_neg (by omega)]; exact h1, by rw [zm_row, if_neg (by omega)]; exact h2, by rw [zm_row, if_pos rfl]; rfl, fun d hd => by rw [zm_ot _ _ _ _ (by omega)]; exact h4 d hd, fun d hd => by rw [zm_ot _ _ _ _ (by omega)]; exact h5 d hd, fun d hd => by rw [zm_ot _ _ _ _ (by omega)]; exact h6 d hd, h7⟩
theorem zGR.sO (r : zGR m g a) {u : Bool} {y : Int64} (hy : ∀ d, d < 64 → zb y d = if d = c then u else a.ou d) : zGR (z_sL m 6 g 3 y) g (a.sO c u) := by
  obtain ⟨h1, h2, h3, h4, h5, h6, h7⟩ := r
  refine ⟨h1, h2, h3, h4, h5, h6, fun d hd => ?_⟩
  rw [zm_L, if_pos ⟨rfl, rfl, rfl⟩]
  exact hy d hd
theorem s_mark (v : zGV a) (r : zGR m g a) (hc : c < a.n) (u : Bool) : ∃ y, f_X4_markOutlet g (Int32.ofNat c) (z_bi u) m = some (z_sL m 6 g 3 y) ∧ ∀ d, d < 64 → zb y d = if d = c then u else a.ou d := by
  have n64 := v.n64
  unfold f_X4_markOutlet
  cases u with
  | true =>
    rw [if_neg (by decide)]
    refine ⟨_, rfl, fun d hd => ?_⟩
    rw [zb_or, zb_one (by omega) hd, r.ou d hd]
    by_cases w : d = c
    · simp [w]
    · simp [w]
  | false =>
    rw [if_pos (by decide)]
    refine ⟨_, rfl, fun d hd => ?_⟩
    rw [zb_and, zb_not _ hd, zb_one (by omega) hd, r.ou d hd]
    by_cases w : d = c
    · simp [w]
    · simp [w]
variable {i : Nat}
theorem zMR.sH (r : zMR (m.1 23 i) a) (hc : c < 64) (u : Nat) : zMR ((z_sI m 23 i (3 + c) (Int32.ofNat u)).1 23 i) (a.sH c u) := by
  obtain ⟨h1, h2, h3, h4, h5, h6, h7⟩ := r
  refine ⟨by rw [zm_row, if_neg (by omega)]; exact h1, by rw [zm_row, if_neg (by omega)]; exact h2, by rw [zm_row, if_neg (by omega)]; exact h3, fun d hd => ?_, fun d hd => by rw [zm_row, if_neg (by omega)]; exact h5 d hd, fun d hd => by rw [zm_row, if_neg (by omega)]; exact h6 d hd, fun d hd => by rw [zm_row, if_neg (by omega)]; exact h7 d hd⟩
  rw [zm_row]
  show _ = Int32.ofNat (if d = c then u else a.ht d)
  by_cases w : d = c
  · rw [if_pos (by omega), if_pos w]
  · rw [if_neg (by omega), if_neg w]; exact h4 d hd
theorem zMR.sR (r : zMR (m.1 23 i) a) (hc : c < 64) (u : Nat) : zMR ((z_sI m 23 i (67 + c) (Int32.ofNat u)).1 23 i) (a.sR c u) := by
  obtain ⟨h1, h2, h3, h4, h5, h6, h7⟩ := r
  refine ⟨by rw [zm_row, if_neg (by omega)]; exact h1, by rw [zm_row, if_neg (by omega)]; exact h2, by rw [zm_row, if_neg (by omega)]; exact h3, fun d hd => by rw [zm_row, if_neg (by omega)]; exact h4 d hd, fun d hd => ?_, fun d hd => by rw [zm_row, if_neg (by omega)]; exact h6 d hd, fun d hd => by rw [zm_row, if_neg (by omega)]; exact h7 d hd⟩
  rw [zm_row]
  show _ = Int32.ofNat (if d = c then u else a.rn d)
  by_cases w : d = c
  · rw [if_pos (by omega), if_pos w]
  · rw [if_neg (by omega), if_neg w]; exact h5 d hd
theorem zMR.sS (r : zMR (m.1 23 i) a) (hc : c < 64) (u : Nat) : zMR ((z_sI m 23 i (131 + c) (Int32.ofNat u)).1 23 i) (a.sS c u) := by
  obtain ⟨h1, h2, h3, h4, h5, h6, h7⟩ := r
  refine ⟨by rw [zm_row, if_neg (by omega)]; exact h1, by rw [zm_row, if_neg (by omega)]; exact h2, by rw [zm_row, if_neg (by omega)]; exact h3, fun d hd => by rw [zm_row, if_neg (by omega)]; exact h4 d hd, fun d hd => by rw [zm_row, if_neg (by omega)]; exact h5 d hd, fun d hd => ?_, fun d hd => by rw [zm_row, if_neg (by omega)]; exact h7 d hd⟩
  rw [zm_row]
  show _ = Int32.ofNat (if d = c then u else a.sk d)
  by_cases w : d = c
  · rw [if_pos (by omega), if_pos w]
  · rw [if_neg (by omega), if_neg w]; exact h6 d hd
theorem zMR.sO (r : zMR (m.1 23 i) a) (hc : c < 64) (u : Bool) : zMR ((z_sI m 23 i (195 + c) (z_bi u)).1 23 i) (a.sO c u) := by
  obtain ⟨h1, h2, h3, h4, h5, h6, h7⟩ := r
  refine ⟨by rw [zm_row, if_neg (by omega)]; exact h1, by rw [zm_row, if_neg (by omega)]; exact h2, by rw [zm_row, if_neg (by omega)]; exact h3, fun d hd => by rw [zm_row, if_neg (by omega)]; exact h4 d hd, fun d hd => by rw [zm_row, if_neg (by omega)]; exact h5 d hd, fun d hd => by rw [zm_row, if_neg (by omega)]; exact h6 d hd, fun d hd => ?_⟩
  rw [zm_row]
  show _ = if (if d = c then u else a.ou d) = true then 1 else 0
  by_cases w : d = c
  · rw [if_pos (by omega), if_pos w]
    cases u <;> rfl
  · rw [if_neg (by omega), if_neg w]; exact h7 d hd
theorem zMR.sT (r : zMR (m.1 23 i) a) (u : Nat) : zMR ((z_sI m 23 i 2 (Int32.ofNat u)).1 23 i) (a.sT u) := by
  obtain ⟨h1, h2, h3, h4, h5, h6, h7⟩ := r
  exact ⟨by rw [zm_row, if_neg (by omega)]; exact h1, by rw [zm_row, if_neg (by omega)]; exact h2, by rw [zm_row, if_pos rfl]; rfl, fun d hd => by rw [zm_row, if_neg (by omega)]; exact h4 d hd, fun d hd => by rw [zm_row, if_neg (by omega)]; exact h5 d hd, fun d hd => by rw [zm_row, if_neg (by omega)]; exact h6 d hd, fun d hd => by rw [zm_row, if_neg (by omega)]; exact h7 d hd⟩
theorem zn_sH (a : zG) (c u : Nat) : (a.sH c u).n = a.n := rfl
/-- one grid is copied into another -/
theorem s_copyFrom {g h : Nat} (hgh : g ≠ h) (r : zGR m h a) : ∃ m', f_X4_copyFrom g h m = some m' ∧ zFr (zGp g) m m' ∧ zGR m' g a := by
  unfold f_X4_copyFrom
  have L : ∀ (m : zM) (i : Nat) (u : Int32) (j : Nat), (z_sI m 6 g i u).1 6 h j = m.1 6 h j := fun m i u j => zm_ot _ _ _ _ (by omega)
  have L2 : ∀ (m : zM) (i : Nat) (u : Int32) (j : Nat), (z_sI m 6 g i u).2.1 6 h j = m.2.1 6 h j := fun m i u j => rfl
  simp only [L, L2]
  obtain ⟨h1, h2, h3, h4, h5, h6, h7⟩ := r
  rw [h1, h2, h3]
  have f1 : zFr (zGp g) m (z_sL (z_sI (z_sI (z_sI m 6 g 0 (Int32.ofNat a.w)) 6 g 1 (Int32.ofNat a.h)) 6 g 2 (Int32.ofNat a.thr)) 6 g 3 (m.2.1 6 h 3)) := zFr.sL (zFr.sI (zFr.sI (zFr.sI (zFr.refl m) _ (.inl ⟨rfl, rfl, by omega⟩)) _ (.inl ⟨rfl, rfl, by omega⟩)) _ (.inl ⟨rfl, rfl, by omega⟩)) _ (.inl ⟨rfl, rfl, by omega⟩)
  have g0 : (z_sL (z_sI (z_sI (z_sI m 6 g 0 (Int32.ofNat a.w)) 6 g 1 (Int32.ofNat a.h)) 6 g 2 (Int32.ofNat a.thr)) 6 g 3 (m.2.1 6 h 3)).1 6 g 0 = Int32.ofNat a.w := by
    rw [zm_LI, zm_row, if_neg (by omega), zm_row, if_neg (by omega), zm_row, if_pos rfl]
  have g1 : (z_sL (z_sI (z_sI (z_sI m 6 g 0 (Int32.ofNat a.w)) 6 g 1 (Int32.ofNat a.h)) 6 g 2 (Int32.ofNat a.thr)) 6 g 3 (m.2.1 6 h 3)).1 6 g 1 = Int32.ofNat a.h := by
    rw [zm_LI, zm_row, if_neg (by omega), zm_row, if_pos rfl]
  have g2 : (z_sL (z_sI (z_sI (z_sI m 6 g 0 (Int32.ofNat a.w)) 6 g 1 (Int32.ofNat a.h)) 6 g 2 (Int32.ofNat a.thr)) 6 g 3 (m.2.1 6 h 3)).1 6 g 2 = Int32.ofNat a.thr := by
    rw [zm_LI, zm_row, if_pos rfl]
  have g3 : (z_sL (z_sI (z_sI (z_sI m 6 g 0 (Int32.ofNat a.w)) 6 g 1 (Int32.ofNat a.h)) 6 g 2 (Int32.ofNat a.thr)) 6 g 3 (m.2.1 6 h 3)).2.1 6 g 3 = m.2.1 6 h 3 := by
    rw [zm_L, if_pos ⟨rfl, rfl, rfl⟩]
  have rows : ∀ i d, (z_sL (z_sI (z_sI (z_sI m 6 g 0 (Int32.ofNat a.w)) 6 g 1 (Int32.ofNat a.h)) 6 g 2 (Int32.ofNat a.thr)) 6 g 3 (m.2.1 6 h 3)).1 20 i d = m.1 20 i d := fun i d => by
    rw [zm_LI, zm_ot _ _ _ _ (by omega), zm_ot _ _ _ _ (by omega), zm_ot _ _ _ _ (by omega)]
  generalize z_sL (z_sI (z_sI (z_sI m 6 g 0 (Int32.ofNat a.w)) 6 g 1 (Int32.ofNat a.h)) 6 g 2 (Int32.ofNat a.thr)) 6 g 3 (m.2.1 6 h 3) = m1 at f1 g0 g1 g2 g3 rows
  rw [s_copy 20 (3 * h) 20 (3 * g) rfl (by omega), Option.bind_some, s_copy 20 (3 * h + 1) 20 (3 * g + 1) rfl (by omega), Option.bind_some, s_copy 20 (3 * h + 2) 20 (3 * g + 2) rfl (by omega), Option.bind_some]
  have cp : ∀ (m : zM) (i j : Nat), zFr (fun k i' _ => k = 20 ∧ i' = j) m (zm_copy m 20 i 20 j (z_alen 20)) := fun m i j k i' l w => ⟨by
    show (if k = 20 ∧ i' = j ∧ l < z_alen 20 then m.1 20 i l else m.1 k i' l) = _
    rw [if_neg fun y => w ⟨y.1, y.2.1⟩], rfl, rfl⟩
  have rd : ∀ (m : zM) (i j d : Nat), d < 64 → (zm_copy m 20 i 20 j (z_alen 20)).1 20 j d = m.1 20 i d := fun m i j d hd => by
    show (if 20 = 20 ∧ j = j ∧ d < z_alen 20 then m.1 20 i d else m.1 20 j d) = _
    rw [if_pos ⟨rfl, rfl, hd⟩]
  have ro : ∀ (m : zM) (i j i' d : Nat), i' ≠ j → (zm_copy m 20 i 20 j (z_alen 20)).1 20 i' d = m.1 20 i' d := fun m i j i' d hd => (cp m i j 20 i' d (by omega)).1
  refine ⟨_, rfl, ((f1.trans ((cp _ _ _).mono fun k i j w => .inr ⟨w.1, .inl w.2⟩)).trans ((cp _ _ _).mono fun k i j w => .inr ⟨w.1, .inr (.inl w.2)⟩)).trans ((cp _ _ _).mono fun k i j w => .inr ⟨w.1, .inr (.inr w.2)⟩), g0, g1, g2, fun d hd => ?_, fun d hd => ?_, fun d hd => ?_, fun d hd => ?_⟩
  · rw [ro _ _ _ _ _ (by omega), ro _ _ _ _ _ (by omega), rd _ _ _ _ hd, rows]
    exact h4 d hd
  · rw [ro _ _ _ _ _ (by omega), rd _ _ _ _ hd, ro _ _ _ _ _ (by omega), rows]
    exact h5 d hd
  · rw [rd _ _ _ _ hd, ro _ _ _ _ _ (by omega), ro _ _ _ _ _ (by omega), rows]
    exact h6 d hd
  · show zb (m1.2.1 6 g 3) d = _
    rw [g3]
    exact h7 d hd
theorem zGp1 {k i j : Nat} (w : zGp 1 k i j) : ¬ zPro k i j := by
  rcases w with ⟨rfl, rfl, hj⟩ | ⟨rfl, hi⟩
  · unfold zPro; omega
  · unfold zPro; omega
/-- a place of the reference's grid is changed, and put back -/
theorem zFr.back {m m2 : zM} {J : Nat} {u : Int32} (f : zFr zSm (z_sI m 23 0 J u) m2) : zFr zSm m (z_sI m2 23 0 J (m.1 23 0 J)) := by
  intro k i j h
  obtain ⟨q1, q2, q3⟩ := f k i j h
  refine ⟨?_, q2, q3⟩
  rw [zm_I]
  by_cases w : k = 23 ∧ i = 0 ∧ j = J
  · rw [if_pos w, w.1, w.2.1, w.2.2]
  · rw [if_neg w, q1, zm_I, if_neg w]
end
