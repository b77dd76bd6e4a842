/-! Sums over the cells that flow to one; water. -/
theorem z_tot_ext {F G : Nat → Nat} : ∀ {n : Nat}, (∀ c, c < n → F c = G c) → z_tot F n = z_tot G n
  | 0, _ => rfl
  | n + 1, h => by
    unfold z_tot
    rw [z_tot_ext (n := n) fun c hc => h c (by omega), h n (by omega)]
theorem z_tot_upd {F G : Nat → Nat} {x : Nat} : ∀ {n : Nat}, x < n → (∀ c, c < n → c ≠ x → F c = G c) → z_tot F n + G x = z_tot G n + F x
  | 0, h, _ => absurd h (Nat.not_lt_zero _)
  | n + 1, h, he => by
    unfold z_tot
    by_cases w : n = x
    · subst w
      rw [z_tot_ext (F := F) (G := G) (n := n) fun c hc => he c (by omega) (by omega)]
      omega
    · have := z_tot_upd (n := n) (by omega) fun c hc => he c (by omega)
      rw [he n (by omega) w]
      omega
theorem z_tot_0 {F : Nat → Nat} : ∀ {n : Nat}, (∀ c, c < n → F c = 0) → z_tot F n = 0
  | 0, _ => rfl
  | n + 1, h => by
    unfold z_tot
    rw [z_tot_0 (n := n) fun c hc => h c (by omega), h n (by omega)]
theorem z_tot_one {F G : Nat → Nat} {x n : Nat} (h : x < n) (he : ∀ c, c < n → c ≠ x → F c = G c) (h0 : F x = 0) : z_tot G n = z_tot F n + G x := by
  have := z_tot_upd h he
  omega
theorem z_tot_add {F G : Nat → Nat} : ∀ n, z_tot (fun c => F c + G c) n = z_tot F n + z_tot G n
  | 0 => rfl
  | n + 1 => by
    unfold z_tot
    rw [z_tot_add n]
    omega
theorem z_tot_comm {g : Nat → Nat → Nat} (k : Nat) : ∀ n, z_tot (fun e => z_tot (fun f => g e f) k) n = z_tot (fun f => z_tot (fun e => g e f) n) k
  | 0 => by
    show 0 = z_tot (fun f => 0) k
    rw [z_tot_0 fun _ _ => rfl]
  | n + 1 => by
    show z_tot _ n + z_tot (fun f => g n f) k = z_tot (fun f => z_tot (fun e => g e f) n + g n f) k
    rw [z_tot_comm k n, z_tot_add]
theorem z_tot_at1 {F : Nat → Nat} {b : Nat} : ∀ {n : Nat}, (∀ e f, e < n → f < n → F e ≠ 0 → F f ≠ 0 → e = f) → (∀ e, e < n → F e ≤ b) → z_tot F n ≤ b
  | 0, _, _ => Nat.zero_le _
  | n + 1, h, hb => by
    unfold z_tot
    by_cases w : F n = 0
    · have := z_tot_at1 (n := n) (fun e f he hf => h e f (by omega) (by omega)) fun e he => hb e (by omega)
      omega
    · have : z_tot F n = 0 := z_tot_0 fun c hc => by
        refine Classical.byContradiction fun q => ?_
        have := h c n (by omega) (by omega) q w
        omega
      have := hb n (by omega)
      omega
theorem z_tot_mul {F : Nat → Nat} {x : Nat} : ∀ n, z_tot (fun c => x * F c) n = x * z_tot F n
  | 0 => rfl
  | n + 1 => by
    unfold z_tot
    rw [z_tot_mul n, Nat.mul_add]
section
variable {a : zG}
/-- a neighbour in one of the first directions -/
def zG.nbs (a : zG) (c : Nat) : Nat → Nat → Bool
  | 0, _ => false
  | d + 1, e => a.nbs c d e || decide (a.nb c d = some e)
theorem zG.nbs_iff {c e : Nat} : ∀ {d : Nat}, a.nbs c d e = true ↔ ∃ i, i < d ∧ a.nb c i = some e
  | 0 => ⟨fun h => (by cases h), fun ⟨i, h, _⟩ => absurd h (Nat.not_lt_zero _)⟩
  | d + 1 => by
    unfold zG.nbs
    rw [Bool.or_eq_true, decide_eq_true_eq, zG.nbs_iff (d := d)]
    constructor
    · rintro (⟨i, h1, h2⟩ | h)
      · exact ⟨i, by omega, h2⟩
      · exact ⟨d, by omega, h⟩
    · rintro ⟨i, h1, h2⟩
      by_cases q : i = d
      · exact .inr (q ▸ h2)
      · exact .inl ⟨i, by omega, h2⟩
theorem zG.nb_inj (v : zGV a) {c i j e : Nat} (hc : c < a.n) (hi : i < 4) (hj : j < 4) (h1 : a.nb c i = some e) (h2 : a.nb c j = some e) : i = j := by
  have w2 := v.w2
  have hle := Nat.mod_le c a.w
  have hi' : i = 0 ∨ i = 1 ∨ i = 2 ∨ i = 3 := by omega
  have hj' : j = 0 ∨ j = 1 ∨ j = 2 ∨ j = 3 := by omega
  have d0 : ∀ {e}, a.nb c 0 = some e → a.w ≤ c ∧ e = c - a.w := fun {e} h => by
    have h' : (if a.w ≤ c then some (c - a.w) else none) = some e := h
    by_cases q : a.w ≤ c
    · rw [if_pos q] at h'; cases h'; exact ⟨q, rfl⟩
    · rw [if_neg q] at h'; cases h'
  have d1 : ∀ {e}, a.nb c 1 = some e → e = c + 1 := fun {e} h => by
    have h' : (if c % a.w + 1 < a.w then some (c + 1) else none) = some e := h
    by_cases q : c % a.w + 1 < a.w
    · rw [if_pos q] at h'; cases h'; rfl
    · rw [if_neg q] at h'; cases h'
  have d2 : ∀ {e}, a.nb c 2 = some e → e = c + a.w := fun {e} h => by
    have h' : (if c + a.w < a.n then some (c + a.w) else none) = some e := h
    by_cases q : c + a.w < a.n
    · rw [if_pos q] at h'; cases h'; rfl
    · rw [if_neg q] at h'; cases h'
  have d3 : ∀ {e}, a.nb c 3 = some e → 0 < c % a.w ∧ e = c - 1 := fun {e} h => by
    have h' : (if 0 < c % a.w then some (c - 1) else none) = some e := h
    by_cases q : 0 < c % a.w
    · rw [if_pos q] at h'; cases h'; exact ⟨q, rfl⟩
    · rw [if_neg q] at h'; cases h'
  rcases hi' with rfl | rfl | rfl | rfl <;> rcases hj' with rfl | rfl | rfl | rfl <;> first
    | rfl
    | (have p := d0 h1; have q := d1 h2; omega)
    | (have p := d0 h1; have q := d2 h2; omega)
    | (have p := d0 h1; have q := d3 h2; omega)
    | (have p := d1 h1; have q := d0 h2; omega)
    | (have p := d1 h1; have q := d2 h2; omega)
    | (have p := d1 h1; have q := d3 h2; omega)
    | (have p := d2 h1; have q := d0 h2; omega)
    | (have p := d2 h1; have q := d1 h2; omega)
    | (have p := d2 h1; have q := d3 h2; omega)
    | (have p := d3 h1; have q := d0 h2; omega)
    | (have p := d3 h1; have q := d1 h2; omega)
    | (have p := d3 h1; have q := d2 h2; omega)
/-- e flows to c, and lies in one of the first directions -/
noncomputable def zG.fs (a : zG) (c d e : Nat) : Bool := decide (a.to e = some c) && a.nbs c d e
theorem zG.fs_none {c d : Nat} (h : a.nb c d = none) (e : Nat) : a.fs c (d + 1) e = a.fs c d e := by
  show (decide (a.to e = some c) && (a.nbs c d e || decide (a.nb c d = some e))) = _
  rw [h]
  simp [zG.fs]
theorem zG.fs_no {c d e : Nat} (h : a.nb c d = some e) (ht : a.to e ≠ some c) (x : Nat) : a.fs c (d + 1) x = a.fs c d x := by
  show (decide (a.to x = some c) && (a.nbs c d x || decide (a.nb c d = some x))) = _
  rw [h]
  by_cases q : e = x
  · subst q
    simp [zG.fs, ht]
  · simp [zG.fs, q]
theorem zG.fs_yes (v : zGV a) {c d e : Nat} (hc : c < a.n) (hd : d < 4) (h : a.nb c d = some e) (ht : a.to e = some c) : (∀ x, x ≠ e → a.fs c (d + 1) x = a.fs c d x) ∧ a.fs c d e = false ∧ a.fs c (d + 1) e = true := by
  refine ⟨fun x q => ?_, ?_, ?_⟩
  · show (decide (a.to x = some c) && (a.nbs c d x || decide (a.nb c d = some x))) = _
    rw [h]
    simp [zG.fs, Ne.symm q]
  · have : a.nbs c d e = false := by
      cases w : a.nbs c d e with
      | false => rfl
      | true =>
        obtain ⟨i, q1, q2⟩ := zG.nbs_iff.mp w
        have := zG.nb_inj v hc (by omega) hd q2 h
        omega
    simp [zG.fs, this]
  · show (decide (a.to e = some c) && (a.nbs c d e || decide (a.nb c d = some e))) = _
    rw [h, ht]
    simp
theorem zG.fs4 (v : zGV a) {c e : Nat} (he : e < a.n) : a.fs c 4 e = decide (a.to e = some c) := by
  by_cases h : a.to e = some c
  · obtain ⟨d, _, _, h1⟩ := zG.to_fd h
    obtain ⟨i, q1, q2⟩ := zG.nb_sym v he h1
    have : a.nbs c 4 e = true := zG.nbs_iff.mpr ⟨i, q1, q2⟩
    simp [zG.fs, this]
  · simp [zG.fs, h]
theorem zG.fs_to {c d e : Nat} (h : a.fs c d e = true) : a.to e = some c := by
  unfold zG.fs at h
  rw [Bool.and_eq_true, decide_eq_true_eq] at h
  exact h.1
/-! Water. -/
noncomputable def zG.waf (a : zG) : Nat → Nat → Nat
  | 0, _ => 0
  | j + 1, c => z_tot (fun e => if a.to e = some c then a.waf j e - min (a.sk e) (a.waf j e) else 0) a.n + a.rn c
noncomputable def zG.wa (a : zG) (c : Nat) : Nat := a.waf (6400 - a.mu c + 1) c
noncomputable def zG.sos (a : zG) (c : Nat) : Nat := min (a.sk c) (a.wa c)
noncomputable def zG.out (a : zG) (c : Nat) : Nat := a.wa c - a.sos c
noncomputable def zG.inf (a : zG) (c : Nat) : Nat := z_tot (fun e => if a.to e = some c then a.out e else 0) a.n
theorem zG.waf_eq (v : zGV a) : ∀ (j k c : Nat), c < a.n → 6400 - a.mu c < j → 6400 - a.mu c < k → a.waf j c = a.waf k c := by
  intro j
  induction j with
  | zero => intro k c _ h; exact absurd h (Nat.not_lt_zero _)
  | succ j ih =>
    intro k c hc h1 h2
    obtain ⟨k, rfl⟩ : ∃ k', k = k' + 1 := ⟨k - 1, by omega⟩
    unfold zG.waf
    congr 1
    refine z_tot_ext fun e he => ?_
    by_cases w : a.to e = some c
    · have q1 := zG.to_mu v he w
      have q2 := zG.mu_b v he
      rw [if_pos w, if_pos w, ih k e he (by omega) (by omega)]
    · rw [if_neg w, if_neg w]
theorem zG.wa_eq (v : zGV a) {c : Nat} (hc : c < a.n) : a.wa c = a.inf c + a.rn c := by
  show z_tot (fun e => if a.to e = some c then a.waf (6400 - a.mu c) e - min (a.sk e) (a.waf (6400 - a.mu c) e) else 0) a.n + a.rn c = z_tot (fun e => if a.to e = some c then a.wa e - min (a.sk e) (a.wa e) else 0) a.n + a.rn c
  congr 1
  refine z_tot_ext fun e he => ?_
  by_cases w : a.to e = some c
  · have q1 := zG.to_mu v he w
    have q2 := zG.mu_b v he
    have : a.waf (6400 - a.mu c) e = a.wa e := zG.waf_eq v _ _ e he (by omega) (by omega)
    rw [if_pos w, if_pos w, this]
  · rw [if_neg w, if_neg w]
theorem zG.on_mu (v : zGV a) {x : Nat} : ∀ f, f < a.n → a.on x f = true → a.mu x ≤ a.mu f :=
  zG.down v fun f hf ih h => by
    cases ht : a.to f with
    | none =>
      rw [zG.on0 ht, decide_eq_true_eq] at h
      rw [h]
      exact Nat.le_refl _
    | some e =>
      rw [zG.on1 v hf ht, Bool.or_eq_true, decide_eq_true_eq] at h
      have := zG.to_mu v hf ht
      rcases h with h | h
      · rw [h]; exact Nat.le_refl _
      · have := ih e ht h
        omega
theorem zG.on_one (v : zGV a) {c x y : Nat} (hx : x < a.n) (hy : y < a.n) (tx : a.to x = some c) (ty : a.to y = some c) : ∀ f, f < a.n → a.on x f = true → a.on y f = true → x = y := by
  have hc := zG.to_n v hx tx
  have key : ∀ z, z < a.n → a.to z = some c → a.on z c = false := fun z hz tz => by
    cases w : a.on z c with
    | false => rfl
    | true =>
      have h1 := zG.on_mu v c hc w
      have h2 := zG.to_mu v hz tz
      omega
  refine zG.down v fun f hf ih h1 h2 => ?_
  by_cases fx : f = x
  · rw [fx, zG.on1 v hx tx, key y hy ty, Bool.or_false, decide_eq_true_eq] at h2
    exact h2
  · by_cases fy : f = y
    · rw [fy, zG.on1 v hy ty, key x hx tx, Bool.or_false, decide_eq_true_eq] at h1
      exact h1.symm
    · cases ht : a.to f with
      | none =>
        rw [zG.on0 ht, decide_eq_true_eq] at h1
        exact absurd h1 fx
      | some g =>
        rw [zG.on1 v hf ht] at h1 h2
        simp only [fx, fy, decide_false, Bool.false_or] at h1 h2
        exact ih g ht h1 h2
/-- no cell has more water than it rains on all that flow to it -/
theorem zG.wa_on (v : zGV a) : ∀ c, c < a.n → a.wa c ≤ z_tot (fun f => if a.on c f = true then a.rn f else 0) a.n :=
  zG.up v fun c hc ih => by
    have h1 : a.inf c ≤ z_tot (fun e => if a.to e = some c then z_tot (fun f => if a.on e f = true then a.rn f else 0) a.n else 0) a.n :=
      z_tot_le fun e he => by
        by_cases w : a.to e = some c
        · have := ih e he w
          simp only [w, if_true]
          unfold zG.out
          omega
        · simp only [w, if_false]
          exact Nat.le_refl _
    have h2 : z_tot (fun e => if a.to e = some c then z_tot (fun f => if a.on e f = true then a.rn f else 0) a.n else 0) a.n = z_tot (fun f => z_tot (fun e => if a.to e = some c ∧ a.on e f = true then a.rn f else 0) a.n) a.n := by
      rw [← z_tot_comm]
      refine z_tot_ext fun e _ => ?_
      by_cases w : a.to e = some c
      · rw [if_pos w]
        exact z_tot_ext fun f _ => by simp [w]
      · rw [if_neg w]
        exact (z_tot_0 fun f _ => by simp [w]).symm
    have h3 : z_tot (fun f => z_tot (fun e => if a.to e = some c ∧ a.on e f = true then a.rn f else 0) a.n) a.n ≤ z_tot (fun f => if a.on c f = true ∧ f ≠ c then a.rn f else 0) a.n :=
      z_tot_le fun f hf => by
        refine z_tot_at1 (fun x y hx hy h4 h5 => ?_) fun e he => ?_
        · by_cases w1 : a.to x = some c ∧ a.on x f = true
          · by_cases w2 : a.to y = some c ∧ a.on y f = true
            · exact zG.on_one v hx hy w1.1 w2.1 f hf w1.2 w2.2
            · rw [if_neg w2] at h5; exact absurd rfl h5
          · rw [if_neg w1] at h4; exact absurd rfl h4
        · by_cases w1 : a.to e = some c ∧ a.on e f = true
          · have q1 := zG.on_mu v f hf w1.2
            have q2 := zG.to_mu v he w1.1
            have q3 : f ≠ c := fun z => by rw [z] at q1; omega
            have q4 : ∀ f, f < a.n → a.on e f = true → a.on c f = true := zG.down v fun f hf ih' h => by
              cases ht : a.to f with
              | none =>
                rw [zG.on0 ht, decide_eq_true_eq] at h
                rw [h, w1.1] at ht
                cases ht
              | some g =>
                rw [zG.on1 v hf ht, Bool.or_eq_true, decide_eq_true_eq] at h
                rw [zG.on1 v hf ht]
                rcases h with h | h
                · rw [h, w1.1] at ht
                  cases ht
                  rw [zG.on_g]
                  simp
                · rw [ih' g ht h]
                  simp
            rw [if_pos w1, if_pos ⟨q4 f hf w1.2, q3⟩]
            exact Nat.le_refl _
          · rw [if_neg w1]
            exact Nat.zero_le _
    have h4 := z_tot_one (F := fun f => if a.on c f = true ∧ f ≠ c then a.rn f else 0) (G := fun f => if a.on c f = true then a.rn f else 0) (x := c) hc (fun f _ q => by simp [q]) (by simp)
    simp only [zG.on_g, if_true] at h4
    have h5 := zG.wa_eq v hc
    omega
theorem zG.wa_b (v : zGV a) {c : Nat} (hc : c < a.n) : a.wa c ≤ 576 := by
  have h1 := zG.wa_on v c hc
  have h2 := z_tot_b (L := fun f => if a.on c f = true then a.rn f else 0) (b := 9) (n := a.n) fun f _ => by
    have := v.rn f
    show (if a.on c f = true then a.rn f else 0) ≤ 9
    split <;> omega
  have n64 := v.n64
  omega
theorem zG.out_b (v : zGV a) {c : Nat} (hc : c < a.n) : a.out c ≤ 576 := by
  have := zG.wa_b v hc
  unfold zG.out
  omega
theorem zG.inf_b (v : zGV a) {c : Nat} (hc : c < a.n) : a.inf c ≤ 576 := by
  have := zG.wa_b v hc
  have := zG.wa_eq v hc
  omega
end
