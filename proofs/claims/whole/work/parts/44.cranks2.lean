section
variable {a : zG} {g : Nat}
theorem s_rank_2 (v : zGV a) (hg : g < 11) : ∀ (j c : Nat) (m : zM), c ≤ a.n → a.n - c < j → zGR m g a → m.1 5 0 0 = Int32.ofNat a.n → (∀ d, d < a.n → m.1 20 33 d = Int32.ofNat (a.lv d)) → (∀ d, d < 64 → zb (m.2.1 5 0 1) d = a.fla d) → (∀ e, e < c → m.1 20 36 e = if a.rk e < 1 then Int32.ofNat (a.rk e) else -1) →
    ∃ m', f_X3_findRanks_2 g j (Int32.ofNat c) m = some m' ∧ zFr zP36 m m' ∧ ∀ e, e < a.n → m'.1 20 36 e = Int32.ofNat (a.rk e)
  | 0, _, _, _, h, _, _, _, _, _ => absurd h (Nat.not_lt_zero _)
  | j + 1, c, m, hc, h, r, hs, hl, hf, hk => by
    have n64 := v.n64
    unfold f_X3_findRanks_2
    rw [hs]
    by_cases he : c = a.n
    · rw [if_pos (by rw [zi_le (by omega) (by omega)]; omega)]
      subst he
      exact s_rank_45 v hg zF 1 true m (Nat.le_refl _) (by omega) (Nat.lt_of_lt_of_le (by omega : 64 - 1 < 65) (zF_ge (by decide))) r hs hl hk fun q => by cases q
    · have hcn : c < a.n := by omega
      have hc' : c < 64 := by omega
      have hj : a.n - (c + 1) < j := by omega
      have nx : ∀ u : Int32, u = (if a.rk c < 1 then Int32.ofNat (a.rk c) else -1) → ∃ m', f_X3_findRanks_31 g (f_X3_findRanks_2 g j) (Int32.ofNat c) (Int32.ofNat c) u m = some m' ∧ zFr zP36 m m' ∧ ∀ e, e < a.n → m'.1 20 36 e = Int32.ofNat (a.rk e) := fun u hu => by
        unfold f_X3_findRanks_31
        rw [s_put 20 36 hc', Option.bind_some, show Int32.ofNat c + 1 = Int32.ofNat (c + 1) from zi_add c 1]
        have f1 : zFr zP36 m (z_sI m 20 36 c u) := zFr.sI (zFr.refl m) _ ⟨rfl, rfl⟩
        obtain ⟨m', p1, p2, p3⟩ := s_rank_2 v hg j (c + 1) (z_sI m 20 36 c u) hcn hj (r.keep f1 fun k i j w => by unfold zGp at w; unfold zP36; omega) (by rw [(f1 5 0 0 (by unfold zP36; omega)).1]; exact hs) (fun d hd => by rw [(f1 20 33 d (by unfold zP36; omega)).1]; exact hl d hd) hf fun e hel => by
          rw [zm_I]
          by_cases y : e = c
          · rw [if_pos ⟨rfl, rfl, y⟩, hu, y]
          · rw [if_neg (c := 20 = 20 ∧ 36 = 36 ∧ e = c) (fun w => y w.2.2)]
            exact hk e (by omega)
        exact ⟨m', p1, f1.trans p2, p3⟩
      rw [if_neg (by rw [zi_le (by omega) (by omega)]; omega), s_has _ hc', Option.bind_some, hf c hc']
      have h0 := zG.rk0 (a := a) hcn
      cases hq : a.fla c with
      | false =>
        rw [if_pos (by decide)]
        have := h0.mpr hq
        exact nx 0 (by rw [this]; rfl)
      | true =>
        rw [if_neg (by decide)]
        have : ¬ a.rk c = 0 := fun w => by
          have := h0.mp w
          rw [hq] at this
          cases this
        exact nx (-1) (by rw [if_neg (by omega)])
theorem s_ranks (v : zGV a) (hg : g < 11) {m : zM} (r : zGR m g a) (hs : m.1 5 0 0 = Int32.ofNat a.n) (hl : ∀ d, d < a.n → m.1 20 33 d = Int32.ofNat (a.lv d)) (hf : ∀ d, d < 64 → zb (m.2.1 5 0 1) d = a.fla d) : ∃ m', f_X3_findRanks g m = some m' ∧ zFr zP36 m m' ∧ ∀ e, e < a.n → m'.1 20 36 e = Int32.ofNat (a.rk e) :=
  s_rank_2 v hg zF 0 m (Nat.zero_le _) (Nat.lt_of_lt_of_le (by have := v.n64; omega : a.n - 0 < 65) (zF_ge (by decide))) r hs hl hf fun e w => absurd w (Nat.not_lt_zero _)
end
