/-! The reference's ranks. -/
abbrev zP60 (k i _j : Nat) : Prop := k = 20 ∧ i = 60
def zRs (a : zG) (m : zM) (R : Nat → Nat) : Prop := (∀ c, c < a.n → m.1 20 60 c = Int32.ofNat (R c)) ∧ (∀ c, c < a.n → R c ≤ 1000000) ∧ (∀ c, c < a.n → a.rk c ≤ R c) ∧ ∀ c, c < a.n → a.fla c = false → R c = 0
section
variable {a : zG}
theorem zG.rk_le (v : zGV a) {R : Nat → Nat} (ho : ∀ c, c < a.n → a.fla c = false → R c = 0) (hr : ∀ c, c < a.n → ∀ d e, d < 4 → a.nb c d = some e → a.lv e = a.lv c → R c ≤ R e + 1) : ∀ (k c : Nat), c < a.n → a.rk c = k → R c ≤ k
  | 0, c, h, hk => by rw [ho c h ((zG.rk0 h).mp hk)]; exact Nat.le_refl _
  | k + 1, c, h, hk => by
    obtain ⟨d, e, q1, q2, q3, q4⟩ := zG.rk_pred v h hk
    have h1 := zG.rk_le v ho hr k e (zG.nb_n v h q2) q4
    have h2 := hr c h d e q1 q2 q3
    omega
theorem s_mrk_68 (v : zGV a) (K1 : Int32 → zM → Option zM) (K : Int32 → Int32 → zM → Option zM) {c : Nat} (hc : c < a.n) : ∀ (j d : Nat) (x : Int32) (m : zM) (L : Nat → Nat), d ≤ 4 → 4 - d < j → zMR (m.1 23 0) a → (∀ d, d < a.n → m.1 20 59 d = Int32.ofNat (a.lv d)) → zRs a m L →
    ∃ x' m' L', f_X12_looks_68 K1 K j x (Int32.ofNat c) (Int32.ofNat d) m = K x' (Int32.ofNat (c + 1)) m' ∧ zFr zP60 m m' ∧ zRs a m' L' ∧ (∀ e, e < a.n → L' e ≤ L e) ∧ ((x' = x ∧ L' = L ∧ ∀ d' e, d ≤ d' → d' < 4 → a.nb c d' = some e → a.lv e = a.lv c → L c ≤ L e + 1) ∨ (x' = 1 ∧ z_tot L' a.n < z_tot L a.n))
  | 0, _, _, _, _, _, h, _, _, _ => absurd h (Nat.not_lt_zero _)
  | j + 1, d, x, m, L, hd, h, r, hv, hL => by
    have n64 := v.n64
    unfold f_X12_looks_68
    rw [show (4 : Int32) = Int32.ofNat 4 from rfl]
    by_cases he : d = 4
    · rw [if_pos (by rw [zi_le (by omega) (by omega)]; omega), show Int32.ofNat c + 1 = Int32.ofNat (c + 1) from zi_add c 1]
      exact ⟨x, m, L, rfl, zFr.refl m, hL, fun _ _ => Nat.le_refl _, .inl ⟨rfl, rfl, fun d' e q1 q2 => by omega⟩⟩
    · rw [if_neg (by rw [zi_le (by omega) (by omega)]; omega), s_next v r hc (by omega), Option.bind_some, show Int32.ofNat d + 1 = Int32.ofNat (d + 1) from zi_add d 1]
      cases hn : a.nb c d with
      | none =>
        rw [if_pos (show zo none < 0 by decide)]
        obtain ⟨x', m', L', q1, q2, q3, q4, q5⟩ := s_mrk_68 v K1 K hc j (d + 1) x m L (by omega) (by omega) r hv hL
        refine ⟨x', m', L', q1, q2, q3, q4, ?_⟩
        rcases q5 with ⟨p1, p2, p3⟩ | p
        · refine .inl ⟨p1, p2, fun d' e w1 w2 w3 => ?_⟩
          by_cases hd' : d' = d
          · rw [hd', hn] at w3
            cases w3
          · exact p3 d' e (by omega) w2 w3
        · exact .inr p
      | some e =>
        have hen := zG.nb_n v hc hn
        have b1 := hL.2.1 c hc
        have b2 := hL.2.1 e hen
        have l1 := zG.lv99 v hc
        have l2 := zG.lv99 v hen
        have g1 : z_inb (Int32.ofNat e) (z_alen 20) = true := by rw [zi_inb (by omega)]; simp [z_alen]; omega
        have g2 : z_inb (Int32.ofNat c) (z_alen 20) = true := by rw [zi_inb (by omega)]; simp [z_alen]; omega
        rw [show zo (some e) = Int32.ofNat e from rfl, if_neg (zi_nn (k := e) (by omega)), z_gdt g1, z_gdt g2, z_gdt g1, z_gdt g2, z_gdt g1, z_gdt g2, zi_nat (k := e) (by omega), zi_nat (k := c) (by omega), hv e hen, hv c hc, hL.1 e hen, hL.1 c hc, show Int32.ofNat (L e) + 1 = Int32.ofNat (L e + 1) from zi_add _ 1]
        have same : ¬ (a.lv e = a.lv c ∧ L e + 1 < L c) → ∃ x' m' L', f_X12_looks_68 K1 K j x (Int32.ofNat c) (Int32.ofNat (d + 1)) m = K x' (Int32.ofNat (c + 1)) m' ∧ zFr zP60 m m' ∧ zRs a m' L' ∧ (∀ e, e < a.n → L' e ≤ L e) ∧ ((x' = x ∧ L' = L ∧ ∀ d' e, d ≤ d' → d' < 4 → a.nb c d' = some e → a.lv e = a.lv c → L c ≤ L e + 1) ∨ (x' = 1 ∧ z_tot L' a.n < z_tot L a.n)) := fun hno => by
          obtain ⟨x', m', L', q1, q2, q3, q4, q5⟩ := s_mrk_68 v K1 K hc j (d + 1) x m L (by omega) (by omega) r hv hL
          refine ⟨x', m', L', q1, q2, q3, q4, ?_⟩
          rcases q5 with ⟨p1, p2, p3⟩ | p
          · refine .inl ⟨p1, p2, fun d' f w1 w2 w3 w4 => ?_⟩
            by_cases hd' : d' = d
            · rw [hd', hn] at w3
              cases w3
              exact Nat.not_lt.mp fun y => hno ⟨w4, y⟩
            · exact p3 d' f (by omega) w2 w3 w4
          · exact .inr p
        by_cases hlv : a.lv e = a.lv c
        · rw [if_pos (by rw [hlv])]
          by_cases hq : L e + 1 < L c
          · rw [if_pos (by rw [zi_lt (by omega) (by omega)]; exact hq)]
            have hL' : zRs a (z_sI m 20 60 c (Int32.ofNat (L e + 1))) (fun f => if f = c then L e + 1 else L f) := by
              refine ⟨fun f hf => ?_, fun f hf => ?_, fun f hf => ?_, fun f hf ho => ?_⟩
              · rw [zm_I]
                by_cases hfc : f = c
                · rw [if_pos ⟨rfl, rfl, hfc⟩]
                  simp only [hfc, if_true]
                · rw [if_neg (c := 20 = 20 ∧ 60 = 60 ∧ f = c) (fun q => hfc q.2.2)]
                  simp only [hfc, if_false]
                  exact hL.1 f hf
              · by_cases hfc : f = c
                · simp only [hfc, if_true]; omega
                · simp only [hfc, if_false]; exact hL.2.1 f hf
              · by_cases hfc : f = c
                · simp only [hfc, if_true]
                  obtain ⟨d', h4, hs⟩ : ∃ d', d' < 4 ∧ a.nb c d' = some e := ⟨d, by omega, hn⟩
                  have h1 := zG.rk_step v hc h4 hs hlv
                  have h2 := hL.2.2.1 e hen
                  omega
                · simp only [hfc, if_false]; exact hL.2.2.1 f hf
              · by_cases hfc : f = c
                · have := hL.2.2.2 c hc (hfc ▸ ho)
                  omega
                · simp only [hfc, if_false]; exact hL.2.2.2 f hf ho
            have f1 : zFr zP60 m (z_sI m 20 60 c (Int32.ofNat (L e + 1))) := zFr.sI (zFr.refl m) _ ⟨rfl, rfl⟩
            have r' : zMR ((z_sI m 20 60 c (Int32.ofNat (L e + 1))).1 23 0) a := by rw [f1.row (fun j => by unfold zP60; omega)]; exact r
            have hle : ∀ f, f < a.n → (fun f => if f = c then L e + 1 else L f) f ≤ L f := fun f hf => by
              by_cases hfc : f = c
              · simp only [hfc, if_true]; omega
              · simp only [hfc, if_false]; exact Nat.le_refl _
            obtain ⟨x', m', L', q1, q2, q3, q4, q5⟩ := s_mrk_68 v K1 K hc j (d + 1) 1 _ _ (by omega) (by omega) r' (fun d hd => by rw [(f1 20 59 d (by unfold zP60; omega)).1]; exact hv d hd) hL'
            have hlt := z_tot_lt (L' := fun f => if f = c then L e + 1 else L f) hle hc (by simp only [if_true]; exact hq)
            refine ⟨x', m', L', q1, f1.trans q2, q3, fun f hf => Nat.le_trans (q4 f hf) (hle f hf), .inr ⟨?_, ?_⟩⟩
            · rcases q5 with ⟨p1, _⟩ | ⟨p1, _⟩ <;> exact p1
            · exact Nat.lt_of_le_of_lt (z_tot_le q4) hlt
          · rw [if_neg (by rw [zi_lt (by omega) (by omega)]; exact hq)]
            exact same fun w => hq w.2
        · rw [if_neg (by rw [zi_eq (by omega) (by omega)]; exact hlv)]
          exact same fun w => hlv w.1
end
