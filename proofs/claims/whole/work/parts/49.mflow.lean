/-! The reference's choices. -/
abbrev zPm (k i _j : Nat) : Prop := k = 20 ∧ (i = 61 ∨ i = 62)
section
variable {a : zG}
def zMq (a : zG) (m : zM) : Prop := (∀ d, d < a.n → m.1 20 59 d = Int32.ofNat (a.lv d)) ∧ ∀ d, d < a.n → m.1 20 60 d = Int32.ofNat (a.rk d)
theorem zMq.keep {m m' : zM} (h : zMq a m) (f : zFr zPm m m') : zMq a m' :=
  ⟨fun d hd => by rw [(f 20 59 d (by unfold zPm; omega)).1]; exact h.1 d hd, fun d hd => by rw [(f 20 60 d (by unfold zPm; omega)).1]; exact h.2 d hd⟩
theorem s_mch_238 (v : zGV a) (K : Int32 → zM → Option zM) {c : Nat} (hc : c < a.n) : ∀ (j i : Nat) (m : zM), i ≤ 4 → 4 - i < j → zMR (m.1 23 0) a → zMq a m → m.1 20 61 c = zo (a.dr c i) → m.1 20 62 c = Int32.ofNat (a.nc c i) →
    ∃ m', f_X12_looks_238 K j (Int32.ofNat c) (Int32.ofNat (a.la c 4)) (zx i) m = K (Int32.ofNat (c + 1)) m' ∧ zFr (fun k i j => zPm k i j ∧ j = c) m m' ∧ m'.1 20 61 c = zo (a.dr c 4) ∧ m'.1 20 62 c = Int32.ofNat (a.nc c 4)
  | 0, _, _, _, h, _, _, _, _ => absurd h (Nat.not_lt_zero _)
  | j + 1, i, m, hi, h, r, hq, hm1, hm2 => by
    have n64 := v.n64
    have hc' : c < 64 := by omega
    unfold f_X12_looks_238
    by_cases he : i = 4
    · subst he
      rw [if_pos (by decide), show Int32.ofNat c + 1 = Int32.ofNat (c + 1) from zi_add c 1]
      exact ⟨m, rfl, zFr.refl m, hm1, hm2⟩
    · have hi4 : i < 4 := by omega
      have hj : i + 1 ≤ 4 ∧ 4 - (i + 1) < j := by omega
      have h99 := zG.la_99 (a := a) c 4
      have l1 := zG.lv99 v hc
      have r63 := zG.rk63 v hc
      have g2 : z_inb (Int32.ofNat c) (z_alen 20) = true := by rw [zi_inb (by omega)]; simp [z_alen]; omega
      rw [zx_lt hi4, if_neg (zi_nn (by omega)), s_next v r hc (by omega), Option.bind_some, zx_s hi4]
      have no : a.ch c (3 - i) = false → ∃ m', f_X12_looks_238 K j (Int32.ofNat c) (Int32.ofNat (a.la c 4)) (zx (i + 1)) m = K (Int32.ofNat (c + 1)) m' ∧ zFr (fun k i j => zPm k i j ∧ j = c) m m' ∧ m'.1 20 61 c = zo (a.dr c 4) ∧ m'.1 20 62 c = Int32.ofNat (a.nc c 4) := fun q => by
        refine s_mch_238 v K hc j (i + 1) m hj.1 hj.2 r hq ?_ ?_
        · rw [hm1]
          show _ = zo (if a.ch c (3 - i) = true then some (3 - i) else a.dr c i)
          rw [q]
          rfl
        · rw [hm2]
          show _ = Int32.ofNat (if a.ch c (3 - i) = true then a.nc c i + 1 else a.nc c i)
          rw [q]
          rfl
      have yes : a.ch c (3 - i) = true → ∃ m', f_X12_looks_317 K (f_X12_looks_238 K j) (Int32.ofNat c) (Int32.ofNat (a.la c 4)) (Int32.ofNat (3 - i)) m = K (Int32.ofNat (c + 1)) m' ∧ zFr (fun k i j => zPm k i j ∧ j = c) m m' ∧ m'.1 20 61 c = zo (a.dr c 4) ∧ m'.1 20 62 c = Int32.ofNat (a.nc c 4) := fun q => by
        unfold f_X12_looks_317
        rw [z_gdt g2, zx_s hi4, zi_nat (by omega)]
        have e62 : (z_sI m 20 61 c (Int32.ofNat (3 - i))).1 20 62 c + 1 = Int32.ofNat (a.nc c i + 1) := by
          rw [zm_I, if_neg (by omega), hm2]
          exact zi_add _ 1
        rw [e62]
        have f1 : zFr (fun k i j => zPm k i j ∧ j = c) m (z_sI (z_sI m 20 61 c (Int32.ofNat (3 - i))) 20 62 c (Int32.ofNat (a.nc c i + 1))) :=
          zFr.sI (zFr.sI (zFr.refl m) _ ⟨⟨rfl, .inl rfl⟩, rfl⟩) _ ⟨⟨rfl, .inr rfl⟩, rfl⟩
        have f2 := f1.mono (Q := zPm) fun k i j w => w.1
        obtain ⟨m', p1, p2, p3⟩ := s_mch_238 v K hc j (i + 1) _ hj.1 hj.2 (by rw [f2.row (fun j => by unfold zPm; omega)]; exact r) (hq.keep f2) (by
          show _ = zo (if a.ch c (3 - i) = true then some (3 - i) else a.dr c i)
          rw [if_pos q, zm_I, if_neg (by omega), zm_I, if_pos ⟨rfl, rfl, rfl⟩]
          rfl) (by
          show _ = Int32.ofNat (if a.ch c (3 - i) = true then a.nc c i + 1 else a.nc c i)
          rw [if_pos q, zm_I, if_pos ⟨rfl, rfl, rfl⟩])
        exact ⟨m', p1, f1.trans p2, p3⟩
      cases hn : a.nb c (3 - i) with
      | none =>
        rw [if_pos (show zo none < 0 by decide)]
        exact no (by unfold zG.ch; rw [hn])
      | some e =>
        have hen := zG.nb_n v hc hn
        have l2 := zG.lv99 v hen
        have e63 := zG.rk63 v hen
        have g1 : z_inb (Int32.ofNat e) (z_alen 20) = true := by rw [zi_inb (by omega)]; simp [z_alen]; omega
        rw [show zo (some e) = Int32.ofNat e from rfl, if_neg (zi_nn (k := e) (by omega)), z_gdt g2, zi_nat (k := c) (by omega), hq.2 c hc]
        by_cases hf : a.fla c = true
        · have hrk : a.rk c ≠ 0 := fun w => by
            have := (zG.rk0 hc).mp w
            rw [hf] at this
            cases this
          rw [if_neg (by rw [zi_0 (by omega)]; exact hrk), z_gdt g1, z_gdt g2, zi_nat (k := e) (by omega), hq.1 e hen, hq.1 c hc, hq.2 e hen, show Int32.ofNat (a.rk c) - 1 = Int32.ofNat (a.rk c - 1) from zi_sub (a := a.rk c) (b := 1) (by omega)]
          by_cases w1 : a.lv e = a.lv c
          · rw [if_pos (by rw [w1]), z_gdt g1, z_gdt g2]
            by_cases w2 : a.rk e = a.rk c - 1
            · rw [if_pos (by rw [w2])]
              exact yes (by unfold zG.ch; rw [hn]; simp [hf, w1, w2])
            · rw [if_neg (by rw [zi_eq (by omega) (by omega)]; exact w2)]
              exact no (by unfold zG.ch; rw [hn]; simp [hf, w2])
          · rw [if_neg (by rw [zi_eq (by omega) (by omega)]; exact w1)]
            exact no (by unfold zG.ch; rw [hn]; simp [hf, w1])
        · have hf' : a.fla c = false := by cases q : a.fla c <;> simp_all
          rw [(zG.rk0 hc).mpr hf', if_pos (show Int32.ofNat 0 = 0 from rfl), z_gdt g1, zi_nat (k := e) (by omega), hq.1 e hen]
          by_cases w : a.lv e = a.la c 4
          · rw [if_pos (by rw [w])]
            exact yes (by unfold zG.ch; rw [hn]; simp [hf', w])
          · rw [if_neg (by rw [zi_eq (by omega) (by omega)]; exact w)]
            exact no (by unfold zG.ch; rw [hn]; simp [hf', w])
end
