/-! What memory a function can change: frames. -/
def zFr (P : Nat → Nat → Nat → Prop) (m m' : zM) : Prop := ∀ k i j, ¬ P k i j → m'.1 k i j = m.1 k i j ∧ m'.2.1 k i j = m.2.1 k i j ∧ m'.2.2 k i j = m.2.2 k i j
def zFK {α : Type} (P : Nat → Nat → Nat → Prop) (m : zM) (X : Option α) (mem : α → zM) : Prop := ∀ a, X = some a → zFr P m (mem a)
theorem zFr.refl {P : Nat → Nat → Nat → Prop} (m : zM) : zFr P m m := fun _ _ _ _ => ⟨rfl, rfl, rfl⟩
theorem zFr.trans {P : Nat → Nat → Nat → Prop} {m m1 m2 : zM} (h1 : zFr P m m1) (h2 : zFr P m1 m2) : zFr P m m2 := fun k i j h =>
  ⟨(h2 k i j h).1.trans (h1 k i j h).1, (h2 k i j h).2.1.trans (h1 k i j h).2.1, (h2 k i j h).2.2.trans (h1 k i j h).2.2⟩
theorem zFr.mono {P Q : Nat → Nat → Nat → Prop} {m m' : zM} (h : zFr P m m') (s : ∀ k i j, P k i j → Q k i j) : zFr Q m m' := fun k i j hq => h k i j fun hp => hq (s k i j hp)
theorem zFr.sI {P : Nat → Nat → Nat → Prop} {m m' : zM} (h : zFr P m m') {k i j : Nat} (v : Int32) (hp : P k i j) : zFr P m (z_sI m' k i j v) := by
  intro a b c hq
  refine ⟨?_, (h a b c hq).2⟩
  show (if a = k ∧ b = i ∧ c = j then v else m'.1 a b c) = m.1 a b c
  rw [if_neg (by rintro ⟨rfl, rfl, rfl⟩; exact hq hp)]
  exact (h a b c hq).1
theorem zFr.sL {P : Nat → Nat → Nat → Prop} {m m' : zM} (h : zFr P m m') {k i j : Nat} (v : Int64) (hp : P k i j) : zFr P m (z_sL m' k i j v) := by
  intro a b c hq
  refine ⟨(h a b c hq).1, ?_, (h a b c hq).2.2⟩
  show (if a = k ∧ b = i ∧ c = j then v else m'.2.1 a b c) = m.2.1 a b c
  rw [if_neg (by rintro ⟨rfl, rfl, rfl⟩; exact hq hp)]
  exact (h a b c hq).2.1
theorem zFr.sD {P : Nat → Nat → Nat → Prop} {m m' : zM} (h : zFr P m m') {k i j : Nat} (v : UInt64) (hp : P k i j) : zFr P m (z_sD m' k i j v) := by
  intro a b c hq
  refine ⟨(h a b c hq).1, (h a b c hq).2.1, ?_⟩
  show (if a = k ∧ b = i ∧ c = j then v else m'.2.2 a b c) = m.2.2 a b c
  rw [if_neg (by rintro ⟨rfl, rfl, rfl⟩; exact hq hp)]
  exact (h a b c hq).2.2
section
variable {P P' : Nat → Nat → Nat → Prop} {m0 m : zM} {α β : Type} {mem : α → zM}
theorem zq_none : zFK P m0 (none : Option α) mem := fun _ h => by cases h
theorem zq_some {a : α} (h : zFr P m0 (mem a)) : zFK P m0 (some a) mem := fun _ e => by cases e; exact h
theorem zq_gd {b : Bool} {X : Option α} (h : zFK P m0 X mem) : zFK P m0 (z_gd b X) mem := by
  cases b with
  | false => exact zq_none
  | true => exact h
theorem zq_gdh {b : Bool} {X : Option α} (h : b = true → zFK P m0 X mem) : zFK P m0 (z_gd b X) mem := by
  cases b with
  | false => exact zq_none
  | true => exact h rfl
theorem zq_if {c : Prop} [Decidable c] {X Y : Option α} (h1 : zFK P m0 X mem) (h2 : zFK P m0 Y mem) : zFK P m0 (if c then X else Y) mem := by
  by_cases hc : c
  · rw [if_pos hc]; exact h1
  · rw [if_neg hc]; exact h2
theorem zq_bind {X : Option β} {B : β → Option α} (h : ∀ b, zFK P m0 (B b) mem) : zFK P m0 (Option.bind X B) mem := by
  cases X with
  | none => exact zq_none
  | some b => exact h b
theorem zq_call {mem' : β → zM} {X : Option β} {B : β → Option α} (hq : zFK P' m X mem') (s : ∀ k i j, P' k i j → P k i j) (hm : zFr P m0 m) (h : ∀ b, zFr P m0 (mem' b) → zFK P m0 (B b) mem) : zFK P m0 (Option.bind X B) mem := by
  cases X with
  | none => exact zq_none
  | some b => exact h b (hm.trans ((hq b rfl).mono s))
theorem zq_callx {δ : Type} {mem : (δ ⊕ Nat) × zM → zM} {X : Option ((β ⊕ Nat) × zM)} {B : β → zM → Option ((δ ⊕ Nat) × zM)} (hq : zFK P' m X (fun a => a.2)) (s : ∀ k i j, P' k i j → P k i j) (hm : zFr P m0 m) (he : ∀ e m', mem (.inr e, m') = m') (h : ∀ b m', zFr P m0 m' → zFK P m0 (B b m') mem) : zFK P m0 (z_bx X B id) mem := by
  cases X with
  | none => exact zq_none
  | some b =>
    obtain ⟨b, m'⟩ := b
    have h1 : zFr P m0 m' := hm.trans ((hq _ rfl).mono s)
    cases b with
    | inl b => exact h b m' h1
    | inr e => exact zq_some (by rw [show id m' = m' from rfl, he]; exact h1)
theorem zq_callh {δ : Type} {cr : Int32 → δ} {H : Nat → Option Int32} {mem : δ × zM → zM} {X : Option ((β ⊕ Nat) × zM)} {B : β → zM → Option (δ × zM)} (hq : zFK P' m X (fun a => a.2)) (s : ∀ k i j, P' k i j → P k i j) (hm : zFr P m0 m) (he : ∀ e m', mem (e, m') = m') (h : ∀ b m', zFr P m0 m' → zFK P m0 (B b m') mem) : zFK P m0 (z_bh X B H cr) mem := by
  cases X with
  | none => exact zq_none
  | some b =>
    obtain ⟨b, m'⟩ := b
    have h1 : zFr P m0 m' := hm.trans ((hq _ rfl).mono s)
    cases b with
    | inl b => exact h b m' h1
    | inr e =>
      show zFK P m0 ((H e).map fun x => (cr x, m')) mem
      cases H e with
      | none => exact zq_none
      | some x => exact zq_some (by rw [he]; exact h1)
theorem zq_oq {X : Option (Option Nat)} {B : Nat → Option α} (h : ∀ b, zFK P m0 (B b) mem) : zFK P m0 (z_oq X B) mem := by
  unfold z_oq
  split
  · exact h _
  · exact zq_none
end
