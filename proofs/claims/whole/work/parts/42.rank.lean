/-! Ranks: how far a flat cell is from one that isn't, on its level. -/
def zG.rkl (a : zG) : Nat → Nat → Prop
  | 0, c => c < a.n ∧ a.fla c = false
  | k + 1, c => a.rkl k c ∨ (c < a.n ∧ ∃ d e, d < 4 ∧ a.nb c d = some e ∧ a.lv e = a.lv c ∧ a.rkl k e)
noncomputable def zG.rk (a : zG) (c : Nat) : Nat := z_cnt (fun k => @decide (¬ a.rkl k c) (Classical.propDecidable _)) 64
section
variable {a : zG}
theorem zG.rkl_n : ∀ {k c : Nat}, a.rkl k c → c < a.n
  | 0, _, h => h.1
  | k + 1, _, h => by
    rcases h with h | h
    · exact zG.rkl_n h
    · exact h.1
theorem zG.rkl_up {k c : Nat} (h : a.rkl k c) : ∀ i, a.rkl (k + i) c
  | 0 => h
  | i + 1 => .inl (zG.rkl_up h i)
theorem zG.rkl_le {k l c : Nat} (h : a.rkl k c) (hl : k ≤ l) : a.rkl l c := by
  have := zG.rkl_up h (l - k)
  rwa [show k + (l - k) = l by omega] at this
theorem zG.rk_iff {k c : Nat} (h : k < 64) : a.rkl k c ↔ a.rk c ≤ k := by
  have this := z_cnt_down (p := fun k => @decide (¬ a.rkl k c) (Classical.propDecidable _)) (n := 64) (fun t q => z_dec.mpr fun r => z_dec.mp q (.inl r)) k h
  have h2 : (¬ a.rkl k c) ↔ k < a.rk c := z_dec.symm.trans this
  constructor
  · intro q
    exact Nat.not_lt.mp fun w => h2.mpr w q
  · intro q
    exact Classical.byContradiction fun w => absurd (h2.mp w) (Nat.not_lt.mpr q)
theorem zG.rkl_stable {k : Nat} (h : ∀ c, a.rkl (k + 1) c → a.rkl k c) : ∀ i c, a.rkl (k + i) c → a.rkl k c
  | 0, _, q => q
  | i + 1, c, q => by
    rcases q with q | ⟨q1, d, e, q2, q3, q4, q5⟩
    · exact zG.rkl_stable h i c q
    · exact h c (.inr ⟨q1, d, e, q2, q3, q4, zG.rkl_stable h i e q5⟩)
theorem zG.rkl_fin (v : zGV a) {c : Nat} (h : c < a.n) : ∃ k, a.rkl k c := by
  have h99 := zG.lv99 v h
  have h1 := (zG.lv_iff (a := a) (c := c) (t := a.lv c) (by omega)).mpr (Nat.le_refl _)
  refine (h1 (fun e => a.lv e ≤ a.lv c ∧ (a.lv e = a.lv c → ∃ k, a.rkl k e) ∧ e < a.n) ?_ ?_).2.1 rfl
  · intro e he hw
    have hl := zG.lo_iff.mp hw
    refine ⟨(zG.lv_iff (by omega)).mp (zRch.base he hw), fun _ => ⟨0, hl.1, ?_⟩, hl.1⟩
    unfold zG.fla
    simp [he]
  · intro e d f hp hn hw
    have hl := zG.lo_iff.mp hw
    obtain ⟨d', hd', hs⟩ := zG.nb_sym v hp.2.2 hn
    have h2 := zG.lv_step v hl.1 hs
    refine ⟨by omega, fun q => ?_, hl.1⟩
    by_cases w : a.lv e = a.lv c
    · obtain ⟨k, hk⟩ := hp.2.1 w
      exact ⟨k + 1, .inr ⟨hl.1, d', e, hd', hs, by omega, hk⟩⟩
    · refine ⟨0, hl.1, ?_⟩
      have : a.slo f = true := (zG.slo_iff v hl.1).mpr ⟨d', e, hd', hs, by omega⟩
      unfold zG.fla
      rw [this]
      simp
theorem zG.rkl_63 (v : zGV a) {c : Nat} (h : c < a.n) : a.rkl 63 c := by
  have n64 := v.n64
  let p : Nat → Nat → Bool := fun k c => @decide (a.rkl k c) (Classical.propDecidable _)
  have hp : ∀ k c, p k c = true ↔ a.rkl k c := fun k c => z_dec
  have key : ∀ k, k ≤ 64 → (∃ i, i < k ∧ ∀ c, a.rkl (i + 1) c → a.rkl i c) ∨ k + 1 ≤ z_cnt (p k) 64 := fun k => by
    induction k with
    | zero =>
      intro _
      right
      obtain ⟨o, ho, hoo⟩ := v.ou
      have h0 : a.rkl 0 o := ⟨ho, by unfold zG.fla; simp [hoo]⟩
      have := z_cnt_lt (p := fun _ => false) (q := p 0) (n := 64) (c := o) (fun c _ w => by cases w) (by omega) rfl ((hp 0 o).mpr h0)
      omega
    | succ k ih =>
      intro hk
      rcases ih (by omega) with ⟨i, hi, hs⟩ | ih
      · exact .inl ⟨i, by omega, hs⟩
      · by_cases hst : ∀ c, a.rkl (k + 1) c → a.rkl k c
        · exact .inl ⟨k, by omega, hst⟩
        · right
          obtain ⟨c, hc⟩ := Classical.not_forall.mp hst
          have hc1 : a.rkl (k + 1) c := Classical.byContradiction fun w => hc fun y => absurd y w
          have hc2 : ¬ a.rkl k c := fun w => hc fun _ => w
          have := z_cnt_lt (p := p k) (q := p (k + 1)) (n := 64) (c := c) (fun e _ w => (hp _ _).mpr (.inl ((hp _ _).mp w))) (by have := zG.rkl_n hc1; omega) (by
            cases w : p k c with
            | false => rfl
            | true => exact absurd ((hp _ _).mp w) hc2) ((hp _ _).mpr hc1)
          omega
  rcases key 64 (Nat.le_refl _) with ⟨i, hi, hs⟩ | hk
  · obtain ⟨k, hk⟩ := zG.rkl_fin v h
    have := zG.rkl_stable hs k c (zG.rkl_le hk (by omega))
    exact zG.rkl_le this (by omega)
  · have := z_cnt_le (p 64) 64
    omega
theorem zG.rk63 (v : zGV a) {c : Nat} (h : c < a.n) : a.rk c ≤ 63 := (zG.rk_iff (by omega)).mp (zG.rkl_63 v h)
theorem zG.rk0 {c : Nat} (h : c < a.n) : a.rk c = 0 ↔ a.fla c = false := by
  have := zG.rk_iff (a := a) (k := 0) (c := c) (by omega)
  constructor
  · intro q
    exact (this.mpr (by omega)).2
  · intro q
    have := this.mp ⟨h, q⟩
    omega
/-- one step up -/
theorem zG.rk_step (v : zGV a) {c d e : Nat} (h : c < a.n) (hd : d < 4) (hn : a.nb c d = some e) (hl : a.lv e = a.lv c) : a.rk c ≤ a.rk e + 1 := by
  have he := zG.nb_n v h hn
  have h1 := zG.rk63 v he
  by_cases q : a.rk e = 63
  · have := zG.rk63 v h
    omega
  · rw [← zG.rk_iff (by omega)]
    exact .inr ⟨h, d, e, hd, hn, hl, (zG.rk_iff (by omega)).mpr (Nat.le_refl _)⟩
/-- one step down -/
theorem zG.rk_pred (v : zGV a) {c k : Nat} (h : c < a.n) (hk : a.rk c = k + 1) : ∃ d e, d < 4 ∧ a.nb c d = some e ∧ a.lv e = a.lv c ∧ a.rk e = k := by
  have h1 := zG.rk63 v h
  have h2 := (zG.rk_iff (a := a) (c := c) (k := k + 1) (by omega)).mpr (by omega)
  rcases h2 with h2 | ⟨_, d, e, q1, q2, q3, q4⟩
  · have := (zG.rk_iff (by omega)).mp h2
    omega
  · refine ⟨d, e, q1, q2, q3, ?_⟩
    have h3 := (zG.rk_iff (a := a) (c := e) (k := k) (by omega)).mp q4
    have h4 := zG.rk_step v h q1 q2 q3
    omega
end
