/-! The walk's rows: a method's text as a function, step by step beside its table. -/
def zN : Nat → Nat
  | 2 => 1 | 3 => 1 | 4 => 1 | 5 => 1 | 6 => 11 | 7 => 1 | 8 => 1 | 9 => 1 | 10 => 1 | 11 => 1 | 12 => 1 | 13 => 1
  | 20 => 67 | 21 => 6 | 22 => 1 | 23 => 3 | 24 => 1 | 25 => 1 | 26 => 1 | 27 => 1
  | 30 => 1 | 31 => 4 | 32 => 1 | 33 => 1 | 34 => 1 | 35 => 1 | _ => 0
def zRf (k i s : Nat) : zA := match k with
  | 2 => match s with
    | 0 => .inr (20, 56) | 1 => .inr (20, 57) | _ => .inr (20, 58)
  | 3 => match s with
    | 1 => .inr (21, 0) | 2 => .inr (21, 1) | 3 => .inr (21, 2) | 4 => .inr (31, 0) | _ => .inr (31, 1)
  | 4 => match s with
    | 0 => .inr (20, 33) | 1 => .inr (20, 34) | 2 => .inr (20, 35) | _ => .inr (30, 0)
  | 5 => match s with
    | 2 => .inr (20, 36) | 3 => .inr (20, 37) | 4 => .inr (20, 38) | 5 => .inr (20, 39) | 6 => .inr (20, 40) | 7 => .inr (20, 41) | 8 => .inr (20, 42) | _ => .inr (20, 43)
  | 6 => match s with
    | 4 => .inr (20, 3 * i) | 5 => .inr (20, 3 * i + 1) | _ => .inr (20, 3 * i + 2)
  | 7 => .inr (35, 0)
  | 8 => .inr (22, 0)
  | 9 => match s with
    | 1 => .inr (20, 48) | 2 => .inr (20, 49) | 3 => .inr (20, 50) | 4 => .inr (20, 51) | 5 => .inr (20, 52) | 7 => .inr (20, 53) | 8 => .inr (20, 54) | _ => .inr (20, 55)
  | 10 => .inr (34, 0)
  | 11 => match s with
    | 0 => .inr (20, 44) | 1 => .inr (20, 45) | 2 => .inr (20, 46) | _ => .inr (20, 47)
  | 12 => match s with
    | 0 => .inr (6, 0) | 1 => .inr (6, 1) | 2 => .inr (6, 2) | 4 => .inr (7, 0) | 5 => .inr (10, 0) | 7 => .inr (4, 0) | 8 => .inr (5, 0) | 9 => .inr (11, 0) | 10 => .inr (9, 0) | 11 => .inr (3, 0) | 12 => .inr (2, 0) | _ => .inr (8, 0)
  | 13 => match s with
    | 1 => .inr (23, 0) | 2 => .inr (24, 0) | 4 => .inr (23, 1) | 6 => .inr (23, 2) | 7 => .inr (25, 0)
    | 11 => .inr (20, 59) | 12 => .inr (20, 60) | 13 => .inr (20, 61) | 14 => .inr (20, 62) | 15 => .inr (20, 63) | 16 => .inr (20, 64) | 17 => .inr (20, 65) | 19 => .inr (20, 66)
    | 22 => .inr (21, 3) | 23 => .inr (21, 4) | 24 => .inr (21, 5) | 25 => .inr (31, 2) | 26 => .inr (31, 3) | 27 => .inr (26, 0) | _ => .inr (27, 0)
  | 35 => .inr (6, 3 + s)
  | _ => .inl .null
def zKD (i : Nat) : Nat := (z_MT i).2.2.2.2.2.2.1
theorem z_g0 {g : Nat} (h : g < 11) : 3 * g < zN 20 := show 3 * g < 67 by omega
theorem z_g1 {g : Nat} (h : g < 11) : 3 * g + 1 < zN 20 := show 3 * g + 1 < 67 by omega
theorem z_g2 {g : Nat} (h : g < 11) : 3 * g + 2 < zN 20 := show 3 * g + 2 < 67 by omega
noncomputable def zF : Nat := Classical.choose (⟨2 ^ 40, Nat.le_refl _⟩ : ∃ n : Nat, 2 ^ 40 ≤ n)
theorem zF_big : 2 ^ 40 ≤ zF := Classical.choose_spec (⟨2 ^ 40, Nat.le_refl _⟩ : ∃ n : Nat, 2 ^ 40 ≤ n)
def z_gd {α : Type} (b : Bool) (F : Option α) : Option α := cond b F none
def z_inb (x : Int32) (n : Nat) : Bool := !(decide (x < 0) || decide (n ≤ x.toNatClampNeg))
def z_nz (x : Int32) : Bool := decide (¬ x = 0)
def z_nan (r : UInt64) : Bool := decide (r &&& 0x7fffffffffffffff ≤ 0x7ff0000000000000)
def z_bi (b : Bool) : Int32 := cond b 1 0
theorem z_inb_in {x : Int32} {n : Nat} (h : z_inb x n = true) : vp_in x n := by
  unfold z_inb at h
  unfold vp_in
  simpa using h
theorem z_nz_ne {x : Int32} (h : z_nz x = true) : ¬ x = 0 := of_decide_eq_true h
theorem z_nan_n {r : UInt64} (h : z_nan r = true) : vf_n64 r := by
  unfold z_nan at h
  unfold vf_n64
  exact of_decide_eq_true h
theorem z_bi01 (b : Bool) : z_bi b = 0 ∨ z_bi b = 1 := by cases b <;> simp [z_bi]
/-- results: a method that may throw gives a number (an exception) on the right -/
def z_cI (a : Int32) : Option zA ⊕ Nat := .inl (some (.inl (.int a)))
def z_cL (a : Int64) : Option zA ⊕ Nat := .inl (some (.inl (.long a)))
def z_cD (a : UInt64) : Option zA ⊕ Nat := .inl (some (.inl (.double a)))
def z_cB (a : Bool) : Option zA ⊕ Nat := .inl (some (.inl (.int (z_bi a))))
def z_cU (_ : Unit) : Option zA ⊕ Nat := .inl none
def z_cQ (a : Option Nat) : Option zA ⊕ Nat := match a with
  | none => .inl (some (.inl .null))
  | some i => .inl (some (.inr (6, i)))
def z_cX {α : Type} (f : α → Option zA ⊕ Nat) (a : α ⊕ Nat) : Option zA ⊕ Nat := match a with
  | .inl v => f v
  | .inr e => .inr e
section
variable {α β γ : Type} (G : Nat → Nat → zL → List zA → zM → Prop) (oc : α → zO) (o : zO)
def zKX (K : γ → Option α) (v : γ) (k pc : Nat) (ls : zL) (st : List zA) (m : zM) : Prop := ∀ a, K v = some a → oc a = o → G k pc ls st m
def zLK (A : Option γ) (K : γ → Option α) (k pc : Nat) (ls : zL) (st : List zA) (m : zM) : Prop := ∀ a, A.bind K = some a → oc a = o → G k pc ls st m
end
section
variable {N : Nat → Nat} {Rf : Nat → Nat → Nat → zA} {KD : Nat → Nat} {C : Nat → Nat → List zA → zM → zO → Prop} {ct : zT} {bo : Nat} {hh : Nat → Nat → Option Int32} {o : zO} {G : Nat → Nat → zL → List zA → zM → Prop}
variable {α β γ : Type} {oc : α → zO} {A A1 A2 : Option γ} {K : γ → Option α} {k pc : Nat} {ls : zL} {st : List zA} {m : zM}
theorem zk_steps (R : z_Rules N Rf KD C ct bo hh o G) : ∀ (n : Nat) (s s' : zS) (P : Prop), z_steps N Rf ct n s = some (s', P) → P → G k s'.1 s'.2.1 s'.2.2.1 s'.2.2.2 → G k s.1 s.2.1 s.2.2.1 s.2.2.2
  | 0, s, s', P, h, _, g => by cases h; exact g
  | n + 1, s, s', P, h, hP, g => by
    simp only [z_steps] at h
    split at h
    · rename_i s1 P1 h1
      split at h
      · rename_i s2 P2 h2
        cases h
        exact R.1 _ _ _ _ _ _ _ h1 hP.1 (zk_steps R n _ _ _ h2 hP.2 g)
      · cases h
    · cases h
theorem zk_st (R : z_Rules N Rf KD C ct bo hh o G) (n : Nat) (pc' : Nat) (ls' : zL) (st' : List zA) (m' : zM) {P : Prop} (h : z_steps N Rf ct n (pc, ls, st, m) = some ((pc', ls', st', m'), P)) (hP : P) (g : zLK G oc o A K k pc' ls' st' m') : zLK G oc o A K k pc ls st m :=
  fun a ha ho => zk_steps R n (pc, ls, st, m) (pc', ls', st', m') P h hP (g a ha ho)
theorem zk_gd {b : Bool} (g : b = true → zLK G oc o A K k pc ls st m) : zLK G oc o (z_gd b A) K k pc ls st m := by
  intro a ha ho
  cases b with
  | false => cases ha
  | true => exact g rfl a ha ho
theorem zk_none : zLK G oc o (none : Option γ) K k pc ls st m := fun _ ha _ => by cases ha
theorem zk_br (R : z_Rules N Rf KD C ct bo hh o G) {c : Prop} [Decidable c] {t f : Nat} {st' : List zA} (h : z_br ct pc st = some (c, t, f, st')) (g1 : c → zLK G oc o A1 K k t ls st' m) (g2 : ¬ c → zLK G oc o A2 K k f ls st' m) : zLK G oc o (if c then A1 else A2) K k pc ls st m := by
  intro a ha ho
  by_cases hc : c
  · rw [if_pos hc] at ha
    exact R.2.1 _ _ _ _ _ _ _ _ _ h (fun _ => g1 hc a ha ho) (fun q => absurd hc q)
  · rw [if_neg hc] at ha
    exact R.2.1 _ _ _ _ _ _ _ _ _ h (fun q => absurd q hc) (fun _ => g2 hc a ha ho)
/-- a branch whose two ways meet at once: only values differ -/
theorem zk_brv (R : z_Rules N Rf KD C ct bo hh o G) {c : Prop} {t f : Nat} {st' : List zA} (h : z_br ct pc st = some (c, t, f, st')) (g1 : c → zLK G oc o A K k t ls st' m) (g2 : ¬ c → zLK G oc o A K k f ls st' m) : zLK G oc o A K k pc ls st m := by
  intro a ha ho
  exact R.2.1 _ _ _ _ _ _ _ _ _ h (fun q => g1 q a ha ho) (fun q => g2 q a ha ho)
theorem zk_sw (R : z_Rules N Rf KD C ct bo hh o G) {t : Nat} {st' : List zA} (h : z_sw ct pc st = some (t, st')) (g : zLK G oc o A K k t ls st' m) : zLK G oc o A K k pc ls st m :=
  fun a ha ho => R.2.2.1 _ _ _ _ _ _ _ h (g a ha ho)
theorem zk_if {c : Prop} [Decidable c] (g1 : c → zLK G oc o A1 K k pc ls st m) (g2 : ¬ c → zLK G oc o A2 K k pc ls st m) : zLK G oc o (if c then A1 else A2) K k pc ls st m := by
  intro a ha ho
  by_cases hc : c
  · rw [if_pos hc] at ha; exact g1 hc a ha ho
  · rw [if_neg hc] at ha; exact g2 hc a ha ho
def z_let {τ : Type} (v : τ) (B : τ → Option γ) : Option γ := B v
theorem zk_let (R : z_Rules N Rf KD C ct bo hh o G) {τ : Type} {c : Prop} [Decidable c] {v1 v2 : τ} {B : τ → Option γ} {t f : Nat} {st' : List zA} (h : z_br ct pc st = some (c, t, f, st')) (g1 : c → zLK G oc o (B v1) K k t ls st' m) (g2 : ¬ c → zLK G oc o (B v2) K k f ls st' m) : zLK G oc o (z_let (if c then v1 else v2) B) K k pc ls st m := by
  intro a ha ho
  unfold z_let at ha
  by_cases hc : c
  · rw [if_pos hc] at ha
    exact R.2.1 _ _ _ _ _ _ _ _ _ h (fun _ => g1 hc a ha ho) (fun q => absurd hc q)
  · rw [if_neg hc] at ha
    exact R.2.1 _ _ _ _ _ _ _ _ _ h (fun q => absurd q hc) (fun _ => g2 hc a ha ho)
theorem z_bi_of {x : Int32} (h : x = 0 ∨ x = 1) : z_bi (decide (x = 1)) = x := by
  rcases h with rfl | rfl <;> decide
/-- a call that gives a reference or null -/
theorem zk_callq (R : z_Rules N Rf KD C ct bo hh o G) {y nx : Nat} {as st' : List zA} {X : Option (Option Nat)} {B0 : Option γ} {B : Nat → Option γ} (h : z_call ct pc st = some (y, as, nx, st')) (hr : z_rcv N (KD y) as) (hC : ∀ b, X = some b → C 0 y as m (z_cQ b, m))
    (g0 : zLK G oc o B0 K k nx ls (.inl .null :: st') m) (g : ∀ i, zLK G oc o (B i) K k nx ls (.inr (6, i) :: st') m) : zLK G oc o (X.bind fun r => match r with
      | none => B0
      | some i => B i) K k pc ls st m := by
  intro a ha ho
  cases hX : X with
  | none => rw [hX] at ha; cases ha
  | some b =>
    rw [hX] at ha
    cases b with
    | none =>
      have := R.2.2.2.1 0 k _ _ _ _ _ _ _ _ _ _ h hr (hC none hX) (g0 a ha ho)
      rwa [Nat.zero_add] at this
    | some i =>
      have := R.2.2.2.1 0 k _ _ _ _ _ _ _ _ _ _ h hr (hC (some i) hX) (g i a ha ho)
      rwa [Nat.zero_add] at this
theorem zk_join {B : β → Option γ} {A : Option β} (g : zLK G oc o A (fun v => (B v).bind K) k pc ls st m) : zLK G oc o (A.bind B) K k pc ls st m := by
  intro a ha ho
  refine g a ?_ ho
  cases A with
  | none => exact ha
  | some v => exact ha
theorem zk_leaf {v : γ} (g : zKX G oc o K v k pc ls st m) : zLK G oc o (some v) K k pc ls st m := fun a ha ho => g a ha ho
theorem zk_kx {B : β → Option γ} {v : β} (g : zLK G oc o (B v) K k pc ls st m) : zKX G oc o (fun v => (B v).bind K) v k pc ls st m := fun a ha ho => g a ha ho
theorem zk_mask (R : z_Rules N Rf KD C ct bo hh o G) (b : List Bool) {ls' : zL} (h : z_mask b ls = ls') (g : zLK G oc o A K k pc ls' st m) : zLK G oc o A K k pc ls st m := by
  subst h
  exact fun a ha ho => R.2.2.2.2.2.2.2 _ _ _ _ _ b (g a ha ho)
theorem zk_maskx (R : z_Rules N Rf KD C ct bo hh o G) (b : List Bool) {ls' : zL} {v : γ} (h : z_mask b ls = ls') (g : zKX G oc o K v k pc ls' st m) : zKX G oc o K v k pc ls st m := by
  subst h
  exact fun a ha ho => R.2.2.2.2.2.2.2 _ _ _ _ _ b (g a ha ho)
theorem zk_ret (R : z_Rules N Rf KD C ct bo hh o G) {a : α} {v : Option zA} {P : Prop} (h : z_ret ct bo pc st = some (v, P)) (hP : P) (ho : oc a = (.inl v, m)) : zLK G oc o (some a) some k pc ls st m := by
  intro a' ha ho'
  cases ha
  exact R.2.2.2.2.2.1 _ _ _ _ _ _ _ h hP (by rw [← ho', ho])
theorem zk_thr (R : z_Rules N Rf KD C ct bo hh o G) {a : α} {e : Nat} (h : z_thr ct pc st = some e) (ho : oc a = (.inr e, m)) : zLK G oc o (some a) some (k + 1) pc ls st m := by
  intro a' ha ho'
  cases ha
  exact R.2.2.2.2.2.2.1 _ _ _ _ _ _ h (by rw [← ho', ho])
/-- a call that cannot throw -/
theorem zk_call (R : z_Rules N Rf KD C ct bo hh o G) {y nx : Nat} {as st' : List zA} {X : Option β} {B : β → Option γ} (cv : β → Option zA) (cm : β → zM) (h : z_call ct pc st = some (y, as, nx, st')) (hr : z_rcv N (KD y) as) (hC : ∀ b, X = some b → C 0 y as m (.inl (cv b), cm b))
    (g : ∀ b, zLK G oc o (B b) K k nx ls ((cv b).toList ++ st') (cm b)) : zLK G oc o (X.bind B) K k pc ls st m := by
  intro a ha ho
  cases hX : X with
  | none => rw [hX] at ha; cases ha
  | some b =>
    rw [hX] at ha
    have := R.2.2.2.1 0 k _ _ _ _ _ _ _ _ _ _ h hr (hC b hX) (g b a ha ho)
    rwa [Nat.zero_add] at this
/-- a call that may throw, in a method that lets exceptions through -/
def z_bx {β δ μ : Type} (X : Option ((β ⊕ Nat) × μ)) (B : β → μ → Option ((δ ⊕ Nat) × zM)) (cm : μ → zM) : Option ((δ ⊕ Nat) × zM) := match X with
  | none => none
  | some (.inl v, m) => B v m
  | some (.inr e, m) => some (.inr e, cm m)
theorem zk_callx {δ : Type} {oc : (δ ⊕ Nat) × zM → zO} (R : z_Rules N Rf KD C ct bo hh o G) {k1 y nx : Nat} {as st' : List zA} {X : Option ((β ⊕ Nat) × zM)} {B : β → zM → Option ((δ ⊕ Nat) × zM)} (cv : β → Option zA) (h : z_call ct pc st = some (y, as, nx, st')) (hr : z_rcv N (KD y) as)
    (hC : ∀ b m', X = some (.inl b, m') → C k1 y as m (.inl (cv b), m')) (hE : ∀ e m', X = some (.inr e, m') → C k1 y as m (.inr e, m')) (hn : ∀ e, hh pc e = none) (hoc : ∀ e m', oc (.inr e, m') = (.inr e, m'))
    (g : ∀ b m', zLK G oc o (B b m') some k nx ls ((cv b).toList ++ st') m') : zLK G oc o (z_bx X B id) some (k1 + k) pc ls st m := by
  intro a ha ho
  cases hX : X with
  | none => rw [hX] at ha; cases ha
  | some b =>
    obtain ⟨b, m'⟩ := b
    rw [hX] at ha
    cases b with
    | inl b => exact R.2.2.2.1 k1 k _ _ _ _ _ _ _ _ _ _ h hr (hC b m' hX) (g b m' a ha ho)
    | inr e =>
      cases ha
      refine R.2.2.2.2.1 k1 k _ _ _ _ _ _ _ _ _ _ h hr (hE e m' hX) ?_
      rw [hn e]
      show o = _
      rw [← ho, ← hoc e m']
      rfl
end
