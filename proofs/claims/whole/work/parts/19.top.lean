/-! The walk's way in, and its last rows. -/
abbrev zRu (d : Nat) (ct : zT) (bo : Nat) (hh : Nat → Nat → Option Int32) (o : zO) (G : Nat → Nat → zL → List zA → zM → Prop) : Prop := z_Rules zN zRf zKD (z_Ev z_MT zN zRf d) ct bo hh o G
def z_b01 (x : Int32) : Bool := decide (x = 0 ∨ x = 1)
theorem z_b01_of {x : Int32} (h : z_b01 x = true) : x = 0 ∨ x = 1 := of_decide_eq_true h
def z_bC (x : Int32) : Bool := decide (narrow .char (.int x) = .int x)
theorem z_bC_of {x : Int32} (h : z_bC x = true) : narrow .char (.int x) = .int x := of_decide_eq_true h
theorem z_lt11 {i : Nat} (h : decide (i < 11) = true) : i < 11 := of_decide_eq_true h
theorem z_slot {x : Int32} (h : z_inb x 8 = true) : 3 + x.toNatClampNeg < 11 := by
  have := z_inb_in h
  unfold vp_in at this
  omega
theorem zk_top {d k y : Nat} {as : List zA} {m : zM} {I : zI} {α : Type} {oc : α → zO} {A : Option α} {a : α} (hI : z_MT y = I) (hl : (z_sl as).length ≤ I.2.2.1) (h : ∀ G, zRu d I.2.2.2.2.2.1 (z_bo I.2.2.2.1) (z_hf I.2.2.2.2.1) (oc a) G → zLK G oc (oc a) A some k 0 (z_ent I.2.2.1 as) [] m) (ha : A = some a) : z_Ev z_MT zN zRf (d + 1) k y as m (oc a) := by
  subst hI
  exact ⟨hl, fun G R => h G R a (by rw [ha]; rfl) rfl⟩
section
variable {N : Nat → Nat} {Rf : Nat → Nat → Nat → zA} {KD : Nat → Nat} {C : Nat → Nat → List zA → zM → zO → Prop} {ct : zT} {bo : Nat} {hh : Nat → Nat → Option Int32} {o : zO} {G : Nat → Nat → zL → List zA → zM → Prop}
variable {α β γ : Type} {oc : α → zO} {A A1 A2 : Option γ} {K : γ → Option α} {k pc : Nat} {ls : zL} {st : List zA} {m : zM}
/-- a boolean that is read -/
theorem zk_retb (R : z_Rules N Rf KD C ct bo hh o G) {a : α} {x : Int32} {P : Prop} (hx : z_b01 x = true) (h : z_ret ct bo pc st = some (some (.inl (.int x)), P)) (hP : P) (ho : oc a = (.inl (some (.inl (.int (z_bi (decide (x = 1)))))), m)) : zLK G oc o (some a) some k pc ls st m := by
  rw [z_bi_of (z_b01_of hx)] at ho
  exact zk_ret R h hP ho
theorem zk_callz {δ : Type} {oc : (δ ⊕ Nat) × zM → zO} (R : z_Rules N Rf KD C ct bo hh o G) (k k1 : Nat) {y nx : Nat} {as st' : List zA} {X : Option ((β ⊕ Nat) × zM)} {B : β → zM → Option ((δ ⊕ Nat) × zM)} (cv : β → Option zA) (h : z_call ct pc st = some (y, as, nx, st')) (hr : z_rcv N (KD y) as)
    (hC : ∀ b m', X = some (.inl b, m') → C k1 y as m (.inl (cv b), m')) (hE : ∀ e m', X = some (.inr e, m') → C k1 y as m (.inr e, m')) (hn : ∀ e, hh pc e = none) (hoc : ∀ e m', oc (.inr e, m') = (.inr e, m'))
    (g : ∀ b m', zLK G oc o (B b m') some k nx ls ((cv b).toList ++ st') m') : zLK G oc o (z_bx X B id) some (k + k1) pc ls st m := by
  rw [Nat.add_comm]
  exact zk_callx R cv h hr hC hE hn hoc g
/-- a call whose exceptions are caught here: each catch answers a number -/
def z_bh {β δ : Type} (X : Option ((β ⊕ Nat) × zM)) (B : β → zM → Option (δ × zM)) (H : Nat → Option Int32) (cr : Int32 → δ) : Option (δ × zM) := match X with
  | none => none
  | some (.inl v, m) => B v m
  | some (.inr e, m) => (H e).map fun x => (cr x, m)
theorem zk_callh {δ : Type} {oc : δ × zM → zO} {cr : Int32 → δ} (R : z_Rules N Rf KD C ct bo hh o G) (k k1 : Nat) {y nx : Nat} {as st' : List zA} {X : Option ((β ⊕ Nat) × zM)} {B : β → zM → Option (δ × zM)} (cv : β → Option zA) (h : z_call ct pc st = some (y, as, nx, st')) (hr : z_rcv N (KD y) as)
    (hC : ∀ b m', X = some (.inl b, m') → C k1 y as m (.inl (cv b), m')) (hE : ∀ e m', X = some (.inr e, m') → C k1 y as m (.inr e, m')) (hoc : ∀ x m', oc (cr x, m') = (.inl (some (.inl (.int x))), m'))
    (g : ∀ b m', zLK G oc o (B b m') some k nx ls ((cv b).toList ++ st') m') : zLK G oc o (z_bh X B (hh pc) cr) some (k + k1) pc ls st m := by
  rw [Nat.add_comm]
  intro a ha ho
  cases hX : X with
  | none => rw [hX] at ha; cases ha
  | some b =>
    obtain ⟨b, m'⟩ := b
    rw [hX] at ha
    cases b with
    | inl b => exact R.2.2.2.1 k1 k _ _ _ _ _ _ _ _ _ _ h hr (hC b m' hX) (g b m' a ha ho)
    | inr e =>
      refine R.2.2.2.2.1 k1 k _ _ _ _ _ _ _ _ _ _ h hr (hE e m' hX) ?_
      cases hq : hh pc e with
      | none =>
        have ha' : ((hh pc e).map fun x => (cr x, m')).bind some = some a := ha
        rw [hq] at ha'
        cases ha'
      | some x =>
        have ha' : ((hh pc e).map fun x => (cr x, m')).bind some = some a := ha
        rw [hq] at ha'
        cases ha'
        show o = _
        rw [← ho, hoc x m']
/-- a call that gives a reference (with null, no more is said) -/
def z_oq (X : Option (Option Nat)) (B : Nat → Option γ) : Option γ := match X with
  | some (some i) => B i
  | _ => none
theorem zk_callo (R : z_Rules N Rf KD C ct bo hh o G) {y nx : Nat} {as st' : List zA} {X : Option (Option Nat)} {B : Nat → Option γ} (h : z_call ct pc st = some (y, as, nx, st')) (hr : z_rcv N (KD y) as) (hC : ∀ b, X = some b → C 0 y as m (z_cQ b, m))
    (g : ∀ i, zLK G oc o (B i) K k nx ls (.inr (6, i) :: st') m) : zLK G oc o (z_oq X B) K k pc ls st m := by
  intro a ha ho
  cases hX : X with
  | none => rw [hX] at ha; cases ha
  | some b =>
    rw [hX] at ha
    cases b with
    | none => cases ha
    | some i =>
      have := R.2.2.2.1 0 k _ _ _ _ _ _ _ _ _ _ h hr (hC (some i) hX) (g i a ha ho)
      rwa [Nat.zero_add] at this
theorem zk_tsw (R : z_Rules N Rf KD C ct bo hh o G) {x : Int32} {len t : Nat} {d lo hi : Int} {offs : Array Int} {st' : List zA} (hl : z_lk ct pc = some (len, .inl (.tableswitch d lo hi offs))) (ht : z_swT pc d lo hi offs x = t) (g : zLK G oc o A K k t ls st' m) : zLK G oc o A K k pc ls (.inl (.int x) :: st') m := by
  subst ht
  refine zk_sw R ?_ g
  unfold z_sw
  rw [hl]
theorem zk_lsw (R : z_Rules N Rf KD C ct bo hh o G) {x : Int32} {len t : Nat} {d : Int} {ps : Array (Int × Int)} {st' : List zA} (hl : z_lk ct pc = some (len, .inl (.lookupswitch d ps))) (ht : z_swL pc d ps x = t) (g : zLK G oc o A K k t ls st' m) : zLK G oc o A K k pc ls (.inl (.int x) :: st') m := by
  subst ht
  refine zk_sw R ?_ g
  unfold z_sw
  rw [hl]
end
theorem z_swv {f : Int32 → Nat} {x v : Int32} {t : Nat} (e : x = v) (h : f v = t) : f x = t := e ▸ h
theorem z_swd {pc t : Nat} {d lo hi : Int} {offs : Array Int} {x : Int32} (n : Nat) (hn : hi < lo + n) (h : ∀ i, i < n → ¬ x = Int32.ofInt (lo + i)) (ht : (pc + d).toNat = t) : z_swT pc d lo hi offs x = t := by
  unfold z_swT
  by_cases h1 : x.toInt < lo ∨ hi < x.toInt
  · rw [if_pos h1]; exact ht
  · exact absurd (by rw [show lo + ((x.toInt - lo).toNat : Nat) = x.toInt by omega, Int32.ofInt_toInt]) (h (x.toInt - lo).toNat (by omega))
theorem z_swm : ∀ {ps : List (Int × Int)} {d : Int} {x : Int32}, (∀ q ∈ ps, ¬ x = Int32.ofInt q.1) → Op.lookupswitch.offset ps d x.toInt = d
  | [], d, x, _ => rfl
  | (a, o) :: ps, d, x, h => by
    have h2 : ¬ a = x.toInt := fun e => h (a, o) (List.mem_cons_self ..) (by show x = Int32.ofInt a; rw [e, Int32.ofInt_toInt])
    rw [Op.lookupswitch.offset_cons, if_neg h2]
    exact z_swm fun r hr => h r (List.mem_cons_of_mem _ hr)
