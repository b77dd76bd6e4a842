section
variable {a : zG}
theorem s_mrk_58 (v : zGV a) (K : Int32 → zM → Option zM) : ∀ (j c : Nat) (x : Int32) (m : zM) (L : Nat → Nat), c ≤ a.n → a.n - c < j → zMR (m.1 23 0) a → (∀ d, d < a.n → m.1 20 59 d = Int32.ofNat (a.lv d)) → zRs a m L →
    ∃ x' m' L', f_X12_looks_58 K j x (Int32.ofNat c) m = K x' m' ∧ zFr zP60 m m' ∧ zRs a m' L' ∧ (∀ e, e < a.n → L' e ≤ L e) ∧ ((x' = x ∧ L' = L ∧ ∀ c', c ≤ c' → c' < a.n → ∀ d' e, d' < 4 → a.nb c' d' = some e → a.lv e = a.lv c' → L c' ≤ L e + 1) ∨ (x' = 1 ∧ z_tot L' a.n < z_tot L a.n))
  | 0, _, _, _, _, _, h, _, _, _ => absurd h (Nat.not_lt_zero _)
  | j + 1, c, x, m, L, hc, h, r, hv, hL => by
    have n64 := v.n64
    unfold f_X12_looks_58
    rw [s_mcells r, Option.bind_some]
    by_cases he : c = a.n
    · rw [if_pos (by rw [zi_le (by omega) (by omega)]; omega)]
      exact ⟨x, m, L, rfl, zFr.refl m, hL, fun _ _ => Nat.le_refl _, .inl ⟨rfl, rfl, fun c' q1 q2 => by omega⟩⟩
    · have hj : c + 1 ≤ a.n ∧ a.n - (c + 1) < j := by omega
      rw [if_neg (by rw [zi_le (by omega) (by omega)]; omega)]
      obtain ⟨x1, m1, L1, q1, q2, q3, q4, q5⟩ := s_mrk_68 v K (f_X12_looks_58 K j) (show c < a.n by omega) zF 0 x m L (by omega) (Nat.lt_of_lt_of_le (by omega : 4 - 0 < 5) (zF_ge (by decide))) r hv hL
      rw [show (0 : Int32) = Int32.ofNat 0 from rfl, q1]
      have r1 : zMR (m1.1 23 0) a := by rw [q2.row (fun j => by unfold zP60; omega)]; exact r
      obtain ⟨x2, m2, L2, p1, p2, p3, p4, p5⟩ := s_mrk_58 v K j (c + 1) x1 m1 L1 hj.1 hj.2 r1 (fun d hd => by rw [(q2 20 59 d (by unfold zP60; omega)).1]; exact hv d hd) q3
      refine ⟨x2, m2, L2, p1, q2.trans p2, p3, fun f hf => Nat.le_trans (p4 f hf) (q4 f hf), ?_⟩
      rcases q5 with ⟨u1, u2, u3⟩ | ⟨u1, u2⟩
      · subst u2
        rcases p5 with ⟨w1, w2, w3⟩ | w
        · refine .inl ⟨w1.trans u1, w2, fun c' y1 y2 d' e y3 y4 => ?_⟩
          by_cases hcc : c' = c
          · subst hcc
            exact u3 d' e (Nat.zero_le _) y3 y4
          · exact w3 c' (by omega) y2 d' e y3 y4
        · exact .inr w
      · refine .inr ⟨?_, Nat.lt_of_le_of_lt (z_tot_le p4) u2⟩
        rcases p5 with ⟨w1, _⟩ | ⟨w1, _⟩
        · exact w1.trans u1
        · exact w1
theorem s_mrk_50 (v : zGV a) : ∀ (j : Nat) (m : zM) (L : Nat → Nat), z_tot L a.n + 1 < j → zMR (m.1 23 0) a → (∀ d, d < a.n → m.1 20 59 d = Int32.ofNat (a.lv d)) → zRs a m L →
    ∃ m', f_X12_looks_50 j 1 m = f_X12_looks_157 zF 0 m' ∧ zFr zP60 m m' ∧ ∀ c, c < a.n → m'.1 20 60 c = Int32.ofNat (a.rk c)
  | 0, _, _, h, _, _, _ => absurd h (Nat.not_lt_zero _)
  | j + 1, m, L, h, r, hv, hL => by
    have n64 := v.n64
    unfold f_X12_looks_50
    rw [if_neg (by decide)]
    obtain ⟨x1, m1, L1, q1, q2, q3, q4, q5⟩ := s_mrk_58 v (f_X12_looks_50 j) zF 0 0 m L (Nat.zero_le _) (Nat.lt_of_lt_of_le (by omega : a.n - 0 < 65) (zF_ge (by decide))) r hv hL
    rw [show Int32.ofNat 0 = (0 : Int32) from rfl] at q1
    rw [q1]
    rcases q5 with ⟨u1, u2, u3⟩ | ⟨u1, u2⟩
    · subst u1 u2
      obtain ⟨j', rfl⟩ : ∃ j', j = j' + 1 := ⟨j - 1, by omega⟩
      unfold f_X12_looks_50
      rw [if_pos rfl]
      refine ⟨m1, rfl, q2, fun c hc => ?_⟩
      have h1 := zG.rk_le v q3.2.2.2 (fun c' hc' d e hd hn hl => u3 c' (Nat.zero_le _) hc' d e hd hn hl) _ c hc rfl
      rw [q3.1 c hc, Nat.le_antisymm h1 (q3.2.2.1 c hc)]
    · subst u1
      have hj : z_tot L1 a.n + 1 < j := by omega
      have r1 : zMR (m1.1 23 0) a := by rw [q2.row (fun j => by unfold zP60; omega)]; exact r
      obtain ⟨m2, p1, p2, p3⟩ := s_mrk_50 v j m1 L1 hj r1 (fun d hd => by rw [(q2 20 59 d (by unfold zP60; omega)).1]; exact hv d hd) q3
      exact ⟨m2, p1, q2.trans p2, p3⟩
theorem s_mrk_6 (v : zGV a) : ∀ (j c : Nat) (m : zM), c ≤ a.n → a.n - c < j → zMR (m.1 23 0) a → (∀ d, d < a.n → m.1 20 59 d = Int32.ofNat (a.lv d)) → (∀ d, d < c → m.1 20 60 d = Int32.ofNat (if a.fla d = true then 1000000 else 0)) →
    ∃ m', f_X12_looks_6 j (Int32.ofNat c) m = f_X12_looks_157 zF 0 m' ∧ zFr zP60 m m' ∧ ∀ c, c < a.n → m'.1 20 60 c = Int32.ofNat (a.rk c)
  | 0, _, _, _, h, _, _, _ => absurd h (Nat.not_lt_zero _)
  | j + 1, c, m, hc, h, r, hv, hm => by
    have n64 := v.n64
    unfold f_X12_looks_6
    rw [s_mcells r, Option.bind_some]
    by_cases he : c = a.n
    · rw [if_pos (by rw [zi_le (by omega) (by omega)]; omega)]
      subst he
      have hb : ∀ c, c < a.n → (if a.fla c = true then 1000000 else 0) ≤ 1000000 := fun c _ => by split <;> omega
      refine s_mrk_50 v zF m (fun d => if a.fla d = true then 1000000 else 0) ?_ r hv ⟨hm, hb, fun c hc => ?_, fun c hc ho => ?_⟩
      · have h1 := z_tot_b hb
        have h2 : a.n * 1000000 ≤ 64 * 1000000 := Nat.mul_le_mul n64 (Nat.le_refl _)
        exact Nat.lt_of_lt_of_le (by omega : _ < 64000003) (zF_ge (by decide))
      · have h1 := zG.rk63 v hc
        show a.rk c ≤ if a.fla c = true then 1000000 else 0
        by_cases ho : a.fla c = true
        · rw [if_pos ho]
          omega
        · rw [if_neg ho]
          have : a.fla c = false := by cases q : a.fla c <;> simp_all
          rw [(zG.rk0 hc).mpr this]
          exact Nat.le_refl _
      · show (if a.fla c = true then 1000000 else 0) = 0
        rw [if_neg (by rw [ho]; decide)]
    · have hcn : c < a.n := by omega
      have hj : a.n - (c + 1) < j := by omega
      have g2 : z_inb (Int32.ofNat c) (z_alen 20) = true := by rw [zi_inb (by omega)]; simp [z_alen]; omega
      have nx : ∀ u : Nat, u = (if a.fla c = true then 1000000 else 0) → ∃ m', f_X12_looks_41 (f_X12_looks_6 j) (Int32.ofNat c) (Int32.ofNat c) (Int32.ofNat u) m = f_X12_looks_157 zF 0 m' ∧ zFr zP60 m m' ∧ ∀ c, c < a.n → m'.1 20 60 c = Int32.ofNat (a.rk c) := fun u hu => by
        unfold f_X12_looks_41
        rw [z_gdt g2, show Int32.ofNat c + 1 = Int32.ofNat (c + 1) from zi_add c 1, zi_nat (by omega)]
        have f1 : zFr zP60 m (z_sI m 20 60 c (Int32.ofNat u)) := zFr.sI (zFr.refl m) _ ⟨rfl, rfl⟩
        obtain ⟨m', p1, p2, p3⟩ := s_mrk_6 v j (c + 1) (z_sI m 20 60 c (Int32.ofNat u)) hcn hj (by rw [f1.row (fun j => by unfold zP60; omega)]; exact r) (fun d hd => by rw [(f1 20 59 d (by unfold zP60; omega)).1]; exact hv d hd) fun d hd => by
          rw [zm_I]
          by_cases hdc : d = c
          · rw [if_pos ⟨rfl, rfl, hdc⟩, hu, hdc]
          · rw [if_neg (c := 20 = 20 ∧ 60 = 60 ∧ d = c) (fun q => hdc q.2.2)]
            exact hm d (by omega)
        exact ⟨m', p1, f1.trans p2, p3⟩
      rw [if_neg (by rw [zi_le (by omega) (by omega)]; omega), s_mout r (by omega), Option.bind_some]
      by_cases ho : a.ou c = true
      · rw [ho, if_neg (by decide)]
        exact nx 0 (by rw [if_neg (by unfold zG.fla; simp [ho])])
      · have ho' : a.ou c = false := by cases q : a.ou c <;> simp_all
        rw [ho', if_pos (by decide), s_slo v r hv hcn, Option.bind_some, ho']
        cases hs : a.slo c with
        | true =>
          rw [if_neg (by decide)]
          exact nx 0 (by rw [if_neg (by unfold zG.fla; simp [hs])])
        | false =>
          rw [if_pos (by decide)]
          exact nx 1000000 (by rw [if_pos (by unfold zG.fla; simp [hs, ho', hcn])])
end
