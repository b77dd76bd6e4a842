/-! The best ways. -/
theorem z_least_ex {P : Nat → Prop} (h : ∃ x, P x) : ∃ x, P x ∧ ∀ y, y < x → ¬ P y := by
  obtain ⟨x, hx⟩ := h
  have : ∀ n x, x < n → P x → ∃ x, P x ∧ ∀ y, y < x → ¬ P y := fun n => by
    induction n with
    | zero => exact fun x q => absurd q (Nat.not_lt_zero _)
    | succ n ih =>
      intro x q hx
      by_cases w : ∃ y, y < x ∧ P y
      · obtain ⟨y, h1, h2⟩ := w
        exact ih y (by omega) h2
      · exact ⟨x, hx, fun y h1 h2 => w ⟨y, h1, h2⟩⟩
  exact this (x + 1) x (Nat.lt_succ_self _) hx
noncomputable def zls (P : Nat → Prop) : Nat := @dite _ (∃ x, P x ∧ ∀ y, y < x → ¬ P y) (Classical.propDecidable _) (fun h => Classical.choose h) fun _ => 0
theorem zls_at {P : Nat → Prop} (h : ∃ x, P x) : P (zls P) ∧ ∀ y, P y → zls P ≤ y := by
  have h1 := z_least_ex h
  have e : zls P = Classical.choose h1 := by
    unfold zls
    rw [dif_pos h1]
  have h2 := Classical.choose_spec h1
  rw [e]
  exact ⟨h2.1, fun y hy => Nat.not_lt.mp fun w => h2.2 y w hy⟩
/-- a way of k steps from a cell, with a height got to, and its cost -/
def zG.wy (a : zG) : Nat → Nat → Nat → Nat → Prop
  | 0, _, c, q => a.ou c = true ∧ q = 0
  | k + 1, h, c, q => a.ou c = false ∧ ∃ d e q', a.nb c d = some e ∧ a.wy k (min h (a.ht e)) e q' ∧ q = q' + (a.ht e - h)
noncomputable def zG.vq (a : zG) (h c : Nat) : Nat := zls fun q => ∃ k, a.wy k h c q
noncomputable def zG.vk (a : zG) (h c : Nat) : Nat := zls fun k => a.wy k h c (a.vq h c)
section
variable {a : zG}
theorem zG.wy_ex (v : zGV a) {c : Nat} (hc : c < a.n) : ∀ h, ∃ k q, a.wy k h c q := by
  obtain ⟨o, ho, hoo⟩ := v.ou
  refine (zG.joined v (P := fun c => c < a.n ∧ ∀ h, ∃ k q, a.wy k h c q) ho ⟨ho, fun h => ⟨0, 0, hoo, rfl⟩⟩ (fun c d e hp hn he => ⟨he, fun h => ?_⟩) c hc).2
  cases w : a.ou e with
  | true => exact ⟨0, 0, w, rfl⟩
  | false =>
    obtain ⟨d', _, hs⟩ := zG.nb_sym v hp.1 hn
    obtain ⟨k, q, hk⟩ := hp.2 (min h (a.ht c))
    exact ⟨k + 1, _, w, d', c, q, hs, hk, rfl⟩
theorem zG.best (v : zGV a) {h c : Nat} (hc : c < a.n) : a.wy (a.vk h c) h c (a.vq h c) ∧ ∀ k q, a.wy k h c q → a.vq h c < q ∨ (a.vq h c = q ∧ a.vk h c ≤ k) := by
  obtain ⟨k, q, hk⟩ := zG.wy_ex v hc h
  have h1 := zls_at (P := fun q => ∃ k, a.wy k h c q) ⟨q, k, hk⟩
  have h2 := zls_at (P := fun k => a.wy k h c (a.vq h c)) h1.1
  refine ⟨h2.1, fun k q hk => ?_⟩
  have h3 : a.vq h c ≤ q := h1.2 q ⟨k, hk⟩
  by_cases w : a.vq h c = q
  · exact .inr ⟨w, h2.2 k (by rw [w]; exact hk)⟩
  · exact .inl (by omega)
theorem zG.wy_mono : ∀ (k : Nat) {h h' c q : Nat}, h ≤ h' → a.wy k h c q → ∃ q', q' ≤ q ∧ a.wy k h' c q'
  | 0, _, _, _, q, _, hk => ⟨q, Nat.le_refl _, hk⟩
  | k + 1, h, h', c, q, hh, hk => by
    obtain ⟨h1, d, e, q1, h2, h3, h4⟩ := hk
    obtain ⟨q2, h5, h6⟩ := zG.wy_mono k (show min h (a.ht e) ≤ min h' (a.ht e) by omega) h3
    exact ⟨q2 + (a.ht e - h'), by omega, h1, d, e, q2, h2, h6, rfl⟩
theorem zG.wy_cost : ∀ (k : Nat) {h c q : Nat}, zGV a → a.wy k h c q → q ≤ 99 * k
  | 0, _, _, q, _, hk => by rw [hk.2]; omega
  | k + 1, h, c, q, v, hk => by
    obtain ⟨_, d, e, q1, _, h3, h4⟩ := hk
    have := zG.wy_cost k v h3
    have := v.ht e
    omega
/-- better or as good -/
def zG.le2 (a : zG) (h c h' c' : Nat) : Prop := a.vq h c < a.vq h' c' ∨ (a.vq h c = a.vq h' c' ∧ a.vk h c ≤ a.vk h' c')
theorem zG.v_mono (v : zGV a) {h h' c : Nat} (hc : c < a.n) (hh : h ≤ h') : a.le2 h' c h c := by
  obtain ⟨q', h1, h2⟩ := zG.wy_mono _ hh (zG.best v (h := h) hc).1
  rcases (zG.best v (h := h') hc).2 _ _ h2 with w | w
  · exact .inl (by omega)
  · unfold zG.le2
    omega
theorem zG.v0 (v : zGV a) {h c : Nat} (hc : c < a.n) (ho : a.ou c = true) : a.vq h c = 0 ∧ a.vk h c = 0 := by
  rcases (zG.best v (h := h) hc).2 0 0 ⟨ho, rfl⟩ with w | w
  · omega
  · omega
theorem zG.v_step (v : zGV a) {h c d e : Nat} (hc : c < a.n) (ho : a.ou c = false) (hn : a.nb c d = some e) : a.vq h c < a.vq (min h (a.ht e)) e + (a.ht e - h) ∨ (a.vq h c = a.vq (min h (a.ht e)) e + (a.ht e - h) ∧ a.vk h c ≤ a.vk (min h (a.ht e)) e + 1) :=
  (zG.best v hc).2 _ _ ⟨ho, d, e, _, hn, (zG.best v (zG.nb_n v hc hn)).1, rfl⟩
theorem zG.v_next (v : zGV a) {h c : Nat} (hc : c < a.n) (ho : a.ou c = false) : ∃ d e, d < 4 ∧ a.nb c d = some e ∧ a.vq h c = a.vq (min h (a.ht e)) e + (a.ht e - h) ∧ a.vk h c = a.vk (min h (a.ht e)) e + 1 := by
  have hb := (zG.best v (h := h) hc).1
  cases hk : a.vk h c with
  | zero =>
    rw [hk] at hb
    have := hb.1
    rw [ho] at this
    cases this
  | succ k =>
    rw [hk] at hb
    obtain ⟨_, d, e, q', h2, h3, h4⟩ := hb
    obtain ⟨d', h5, h6⟩ := zG.nb4 h2
    have h7 := (zG.best v (h := min h (a.ht e)) (zG.nb_n v hc h2)).2 _ _ h3
    have h8 := zG.v_step v (h := h) hc ho h2
    exact ⟨d', e, h5, h6, by omega, by omega⟩
theorem zG.vk_cnt (v : zGV a) : ∀ (k h c : Nat), c < a.n → a.vk h c = k → k ≤ z_cnt (fun e => decide (a.vq h e < a.vq h c ∨ (a.vq h e = a.vq h c ∧ a.vk h e < a.vk h c))) a.n
  | 0, _, _, _, _ => Nat.zero_le _
  | k + 1, h, c, hc, hk => by
    have ho : a.ou c = false := by
      cases w : a.ou c with
      | false => rfl
      | true => have := (zG.v0 v (h := h) hc w).2; omega
    obtain ⟨d, e, _, h2, h3, h4⟩ := zG.v_next v (h := h) hc ho
    have he := zG.nb_n v hc h2
    have ih := zG.vk_cnt v k (min h (a.ht e)) e he (by omega)
    have mono : ∀ x, x < a.n → a.le2 h x (min h (a.ht e)) x := fun x hx => zG.v_mono v hx (by omega)
    have me := mono e he
    unfold zG.le2 at me
    have := z_cnt_lt (p := fun x => decide (a.vq (min h (a.ht e)) x < a.vq (min h (a.ht e)) e ∨ (a.vq (min h (a.ht e)) x = a.vq (min h (a.ht e)) e ∧ a.vk (min h (a.ht e)) x < a.vk (min h (a.ht e)) e))) (q := fun x => decide (a.vq h x < a.vq h c ∨ (a.vq h x = a.vq h c ∧ a.vk h x < a.vk h c))) (n := a.n) (c := e) (fun x hx w => by
      have mx := mono x hx
      unfold zG.le2 at mx
      rw [decide_eq_true_eq] at w ⊢
      omega) he (by simp) (by rw [decide_eq_true_eq]; omega)
    omega
theorem zG.vk63 (v : zGV a) {h c : Nat} (hc : c < a.n) : a.vk h c ≤ 63 := by
  have h1 := zG.vk_cnt v _ h c hc rfl
  have h2 := z_cnt_lt (p := fun e => decide (a.vq h e < a.vq h c ∨ (a.vq h e = a.vq h c ∧ a.vk h e < a.vk h c))) (q := fun _ => true) (n := a.n) (c := c) (fun _ _ _ => rfl) hc (by simp) rfl
  have h3 := z_cnt_le (fun _ => true) a.n
  have := v.n64
  omega
theorem zG.vq_b (v : zGV a) {h c : Nat} (hc : c < a.n) : a.vq h c ≤ 6237 := by
  have h1 := zG.wy_cost _ v (zG.best v (h := h) hc).1
  have h2 := zG.vk63 v (h := h) hc
  omega
noncomputable def zG.VV (a : zG) (h c : Nat) : Nat := 128 * a.vq h c + a.vk h c + 1
noncomputable def zG.WW (a : zG) (h c : Nat) : Nat := 1000 * a.vq h c + a.vk h c
theorem zG.VV_b (v : zGV a) {h c : Nat} (hc : c < a.n) : 1 ≤ a.VV h c ∧ a.VV h c ≤ 800000 := by
  have h1 := zG.vq_b v (h := h) hc
  have h2 := zG.vk63 v (h := h) hc
  unfold zG.VV
  omega
theorem zG.WW_b (v : zGV a) {h c : Nat} (hc : c < a.n) : a.WW h c ≤ 6300000 := by
  have h1 := zG.vq_b v (h := h) hc
  have h2 := zG.vk63 v (h := h) hc
  unfold zG.WW
  omega
theorem zG.VV0 (v : zGV a) {h c : Nat} (hc : c < a.n) (ho : a.ou c = true) : a.VV h c = 1 := by
  have := zG.v0 v (h := h) hc ho
  unfold zG.VV
  omega
theorem zG.WW0 (v : zGV a) {h c : Nat} (hc : c < a.n) (ho : a.ou c = true) : a.WW h c = 0 := by
  have := zG.v0 v (h := h) hc ho
  unfold zG.WW
  omega
/-- a direction of the best way -/
noncomputable def zG.bd (a : zG) (h c d : Nat) : Bool := match a.nb c d with
  | none => false
  | some e => decide (a.vq h c = a.vq (min h (a.ht e)) e + (a.ht e - h) ∧ a.vk h c = a.vk (min h (a.ht e)) e + 1)
theorem zG.VV_le (v : zGV a) {h c d e : Nat} (hc : c < a.n) (ho : a.ou c = false) (hn : a.nb c d = some e) : a.VV h c ≤ 128 * (a.ht e - h) + 1 + a.VV (min h (a.ht e)) e ∧ (a.VV h c = 128 * (a.ht e - h) + 1 + a.VV (min h (a.ht e)) e ↔ a.bd h c d = true) := by
  have h1 := zG.v_step v (h := h) hc ho hn
  have h2 := zG.vk63 v (h := h) hc
  have h3 := zG.vk63 v (h := min h (a.ht e)) (zG.nb_n v hc hn)
  have e1 : a.bd h c d = true ↔ (a.vq h c = a.vq (min h (a.ht e)) e + (a.ht e - h) ∧ a.vk h c = a.vk (min h (a.ht e)) e + 1) := by
    unfold zG.bd
    rw [hn]
    exact decide_eq_true_iff
  rw [e1]
  unfold zG.VV
  omega
theorem zG.WW_le (v : zGV a) {h c d e : Nat} (hc : c < a.n) (ho : a.ou c = false) (hn : a.nb c d = some e) : a.WW h c ≤ a.WW (min h (a.ht e)) e + (a.ht e - h) * 1000 + 1 ∧ (a.WW (min h (a.ht e)) e + (a.ht e - h) * 1000 + 1 = a.WW h c ↔ a.bd h c d = true) := by
  have h1 := zG.v_step v (h := h) hc ho hn
  have h2 := zG.vk63 v (h := h) hc
  have h3 := zG.vk63 v (h := min h (a.ht e)) (zG.nb_n v hc hn)
  have e1 : a.bd h c d = true ↔ (a.vq h c = a.vq (min h (a.ht e)) e + (a.ht e - h) ∧ a.vk h c = a.vk (min h (a.ht e)) e + 1) := by
    unfold zG.bd
    rw [hn]
    exact decide_eq_true_iff
  rw [e1]
  unfold zG.WW
  omega
theorem zG.bd_ex (v : zGV a) {h c : Nat} (hc : c < a.n) (ho : a.ou c = false) : ∃ d e, d < 4 ∧ a.nb c d = some e ∧ a.bd h c d = true := by
  obtain ⟨d, e, h1, h2, h3⟩ := zG.v_next v (h := h) hc ho
  refine ⟨d, e, h1, h2, ?_⟩
  unfold zG.bd
  rw [h2]
  exact decide_eq_true h3
/-- the first such direction, and where it leads -/
noncomputable def zG.bf (a : zG) (h c : Nat) : Nat := if a.bd h c 0 = true then 0 else if a.bd h c 1 = true then 1 else if a.bd h c 2 = true then 2 else 3
noncomputable def zG.bn (a : zG) (h c : Nat) : Nat := (a.nb c (a.bf h c)).getD 0
theorem zG.bf_at (v : zGV a) {h c : Nat} (hc : c < a.n) (ho : a.ou c = false) : a.bf h c < 4 ∧ a.nb c (a.bf h c) = some (a.bn h c) ∧ a.bd h c (a.bf h c) = true ∧ (∀ d, d < a.bf h c → a.bd h c d = false) ∧ a.bn h c < a.n ∧ a.vq h c = a.vq (min h (a.ht (a.bn h c))) (a.bn h c) + (a.ht (a.bn h c) - h) ∧ a.vk h c = a.vk (min h (a.ht (a.bn h c))) (a.bn h c) + 1 := by
  have key : a.bf h c < 4 ∧ a.bd h c (a.bf h c) = true ∧ ∀ d, d < a.bf h c → a.bd h c d = false := by
    obtain ⟨d, e, h1, _, h3⟩ := zG.bd_ex v (h := h) hc ho
    have f : ∀ d, ¬ a.bd h c d = true → a.bd h c d = false := fun d w => by cases q : a.bd h c d <;> simp_all
    unfold zG.bf
    by_cases w0 : a.bd h c 0 = true
    · rw [if_pos w0]
      exact ⟨by omega, w0, fun d hd => absurd hd (Nat.not_lt_zero _)⟩
    · rw [if_neg w0]
      by_cases w1 : a.bd h c 1 = true
      · rw [if_pos w1]
        exact ⟨by omega, w1, fun d hd => by rw [show d = 0 by omega]; exact f 0 w0⟩
      · rw [if_neg w1]
        by_cases w2 : a.bd h c 2 = true
        · rw [if_pos w2]
          refine ⟨by omega, w2, fun d hd => ?_⟩
          have : d = 0 ∨ d = 1 := by omega
          rcases this with rfl | rfl
          · exact f 0 w0
          · exact f 1 w1
        · rw [if_neg w2]
          have h3' : d = 3 := by
            have : d ≠ 0 := fun q => w0 (q ▸ h3)
            have : d ≠ 1 := fun q => w1 (q ▸ h3)
            have : d ≠ 2 := fun q => w2 (q ▸ h3)
            omega
          refine ⟨by omega, h3' ▸ h3, fun d hd => ?_⟩
          have : d = 0 ∨ d = 1 ∨ d = 2 := by omega
          rcases this with rfl | rfl | rfl
          · exact f 0 w0
          · exact f 1 w1
          · exact f 2 w2
  obtain ⟨k1, k2, k3⟩ := key
  have hn : a.nb c (a.bf h c) = some (a.bn h c) := by
    unfold zG.bn
    cases q : a.nb c (a.bf h c) with
    | none =>
      unfold zG.bd at k2
      rw [q] at k2
      cases k2
    | some e => rfl
  have k4 := k2
  unfold zG.bd at k4
  rw [hn] at k4
  have k5 := decide_eq_true_iff.mp k4
  exact ⟨k1, hn, k2, k3, zG.nb_n v hc hn, k5⟩
end
